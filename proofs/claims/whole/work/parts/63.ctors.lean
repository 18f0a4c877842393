/-! ===== the constructors ===== -/
theorem tz_oi : Cond.instanceMethod Lib.objectInit ∈ TB := tb_of 82 (by decide +kernel)
theorem tz_oc : Cond.code Lib.objectInit ⟨#[0xb1]⟩ 1 none ∈ TB := tb_of 83 (by decide +kernel)
theorem tz_aI : Cond.arrayClass .int ∈ TB := tb_of 116 (by decide +kernel)
theorem tz_aZ : Cond.arrayClass .boolean ∈ TB := tb_of 1049 (by decide +kernel)
theorem tz_ob_RX9 : Cond.methodLink RX9 3 Lib.objectInit ∈ TB := tb_of 95 (by decide +kernel)
theorem tz_f_RX9_9 : Cond.fieldLink RX9 9 RX9 (TX9 1).2.1 (TX9 1).2.2.1 ∈ TB := tb_of 97 (by decide +kernel)
theorem tz_f_RX9_15 : Cond.fieldLink RX9 15 RX9 (TX9 0).2.1 (TX9 0).2.2.1 ∈ TB := tb_of 96 (by decide +kernel)
theorem tz_f_RX9_18 : Cond.fieldLink RX9 18 RX9 (TX9 2).2.1 (TX9 2).2.2.1 ∈ TB := tb_of 98 (by decide +kernel)
theorem tz_ob_RX10 : Cond.methodLink RX10 3 Lib.objectInit ∈ TB := tb_of 178 (by decide +kernel)
theorem tz_f_RX10_9 : Cond.fieldLink RX10 9 RX10 (TX10 0).2.1 (TX10 0).2.2.1 ∈ TB := tb_of 179 (by decide +kernel)
theorem tz_ob_RX0 : Cond.methodLink RX0 3 Lib.objectInit ∈ TB := tb_of 193 (by decide +kernel)
theorem tz_f_RX0_9 : Cond.fieldLink RX0 9 RX0 (TX0 0).2.1 (TX0 0).2.2.1 ∈ TB := tb_of 194 (by decide +kernel)
theorem tz_f_RX0_15 : Cond.fieldLink RX0 15 RX0 (TX0 1).2.1 (TX0 1).2.2.1 ∈ TB := tb_of 196 (by decide +kernel)
theorem tz_f_RX0_18 : Cond.fieldLink RX0 18 RX0 (TX0 2).2.1 (TX0 2).2.2.1 ∈ TB := tb_of 198 (by decide +kernel)
theorem tz_ob_RX8 : Cond.methodLink RX8 3 Lib.objectInit ∈ TB := tb_of 268 (by decide +kernel)
theorem tz_f_RX8_9 : Cond.fieldLink RX8 9 RX8 (TX8 0).2.1 (TX8 0).2.2.1 ∈ TB := tb_of 269 (by decide +kernel)
theorem tz_f_RX8_15 : Cond.fieldLink RX8 15 RX8 (TX8 1).2.1 (TX8 1).2.2.1 ∈ TB := tb_of 270 (by decide +kernel)
theorem tz_ob_RX3 : Cond.methodLink RX3 1 Lib.objectInit ∈ TB := tb_of 315 (by decide +kernel)
theorem tz_f_RX3_7 : Cond.fieldLink RX3 7 RX3 (TX3 0).2.1 (TX3 0).2.2.1 ∈ TB := tb_of 316 (by decide +kernel)
theorem tz_f_RX3_13 : Cond.fieldLink RX3 13 RX3 (TX3 1).2.1 (TX3 1).2.2.1 ∈ TB := tb_of 318 (by decide +kernel)
theorem tz_ob_RX4 : Cond.methodLink RX4 3 Lib.objectInit ∈ TB := tb_of 89 (by decide +kernel)
theorem tz_f_RX4_9 : Cond.fieldLink RX4 9 RX4 (TX4 0).2.1 (TX4 0).2.2.1 ∈ TB := tb_of 117 (by decide +kernel)
theorem tz_f_RX4_15 : Cond.fieldLink RX4 15 RX4 (TX4 1).2.1 (TX4 1).2.2.1 ∈ TB := tb_of 121 (by decide +kernel)
theorem tz_cl_RX4_18 : Cond.classLink RX4 18 RX9 ∈ TB := tb_of 90 (by decide +kernel)
theorem tz_is_9 : Cond.instantiable RX9 4 ∈ TB := tb_of 91 (by decide +kernel)
theorem tz_in_9 : Cond.initialized RX9 ∈ TB := tb_of 58 (by decide +kernel)
theorem tz_c_9 : Cond.code yX9_init cX9_init 3 none ∈ TB := tb_of 94 (by decide +kernel)
theorem tz_im_9 : Cond.instanceMethod yX9_init ∈ TB := tb_of 93 (by decide +kernel)
theorem tz_ml_RX4_20 : Cond.methodLink RX4 20 yX9_init ∈ TB := tb_of 92 (by decide +kernel)
theorem tz_f_RX4_23 : Cond.fieldLink RX4 23 RX4 (TX4 2).2.1 (TX4 2).2.2.1 ∈ TB := tb_of 125 (by decide +kernel)
theorem tz_f_RX4_27 : Cond.fieldLink RX4 27 RX4 (TX4 3).2.1 (TX4 3).2.2.1 ∈ TB := tb_of 131 (by decide +kernel)
theorem tz_f_RX4_30 : Cond.fieldLink RX4 30 RX4 (TX4 4).2.1 (TX4 4).2.2.1 ∈ TB := tb_of 135 (by decide +kernel)
theorem tz_f_RX4_33 : Cond.fieldLink RX4 33 RX4 (TX4 5).2.1 (TX4 5).2.2.1 ∈ TB := tb_of 138 (by decide +kernel)
theorem tz_f_RX4_36 : Cond.fieldLink RX4 36 RX4 (TX4 6).2.1 (TX4 6).2.2.1 ∈ TB := tb_of 141 (by decide +kernel)
theorem tz_f_RX4_39 : Cond.fieldLink RX4 39 RX4 (TX4 7).2.1 (TX4 7).2.2.1 ∈ TB := tb_of 144 (by decide +kernel)
theorem tz_ob_RX7 : Cond.methodLink RX7 3 Lib.objectInit ∈ TB := tb_of 211 (by decide +kernel)
theorem tz_cl_RX7_9 : Cond.classLink RX7 9 RX4 ∈ TB := tb_of 212 (by decide +kernel)
theorem tz_is_4 : Cond.instantiable RX4 10 ∈ TB := tb_of 85 (by decide +kernel)
theorem tz_in_4 : Cond.initialized RX4 ∈ TB := tb_of 57 (by decide +kernel)
theorem tz_c_4 : Cond.code yX4_init cX4_init 1 none ∈ TB := tb_of 88 (by decide +kernel)
theorem tz_im_4 : Cond.instanceMethod yX4_init ∈ TB := tb_of 87 (by decide +kernel)
theorem tz_f_RX7_12 : Cond.fieldLink RX7 12 RX7 (TX7 2).2.1 (TX7 2).2.2.1 ∈ TB := tb_of 216 (by decide +kernel)
theorem tz_f_RX7_18 : Cond.fieldLink RX7 18 RX7 (TX7 0).2.1 (TX7 0).2.2.1 ∈ TB := tb_of 214 (by decide +kernel)
theorem tz_f_RX7_22 : Cond.fieldLink RX7 22 RX7 (TX7 1).2.1 (TX7 1).2.2.1 ∈ TB := tb_of 215 (by decide +kernel)
theorem tz_ob_RX2 : Cond.methodLink RX2 3 Lib.objectInit ∈ TB := tb_of 242 (by decide +kernel)
theorem tz_cl_RX2_9 : Cond.classLink RX2 9 RX9 ∈ TB := tb_of 243 (by decide +kernel)
theorem tz_ml_RX2_11 : Cond.methodLink RX2 11 yX9_init ∈ TB := tb_of 244 (by decide +kernel)
theorem tz_f_RX2_14 : Cond.fieldLink RX2 14 RX2 (TX2 1).2.1 (TX2 1).2.2.1 ∈ TB := tb_of 246 (by decide +kernel)
theorem tz_f_RX2_20 : Cond.fieldLink RX2 20 RX2 (TX2 2).2.1 (TX2 2).2.2.1 ∈ TB := tb_of 247 (by decide +kernel)
theorem tz_f_RX2_24 : Cond.fieldLink RX2 24 RX2 (TX2 0).2.1 (TX2 0).2.2.1 ∈ TB := tb_of 245 (by decide +kernel)
theorem tz_ob_RX1 : Cond.methodLink RX1 3 Lib.objectInit ∈ TB := tb_of 290 (by decide +kernel)
theorem tz_f_RX1_9 : Cond.fieldLink RX1 9 RX1 (TX1 1).2.1 (TX1 1).2.2.1 ∈ TB := tb_of 292 (by decide +kernel)
theorem tz_f_RX1_15 : Cond.fieldLink RX1 15 RX1 (TX1 0).2.1 (TX1 0).2.2.1 ∈ TB := tb_of 291 (by decide +kernel)
theorem tz_ob_RX11 : Cond.methodLink RX11 3 Lib.objectInit ∈ TB := tb_of 81 (by decide +kernel)
theorem tz_cl_RX11_9 : Cond.classLink RX11 9 RX4 ∈ TB := tb_of 84 (by decide +kernel)
theorem tz_f_RX11_12 : Cond.fieldLink RX11 12 RX11 (TX11 0).2.1 (TX11 0).2.2.1 ∈ TB := tb_of 325 (by decide +kernel)
theorem tz_f_RX11_16 : Cond.fieldLink RX11 16 RX11 (TX11 1).2.1 (TX11 1).2.2.1 ∈ TB := tb_of 326 (by decide +kernel)
theorem tz_f_RX11_19 : Cond.fieldLink RX11 19 RX11 (TX11 2).2.1 (TX11 2).2.2.1 ∈ TB := tb_of 327 (by decide +kernel)
theorem tz_cl_RX11_22 : Cond.classLink RX11 22 RX10 ∈ TB := tb_of 173 (by decide +kernel)
theorem tz_is_10 : Cond.instantiable RX10 2 ∈ TB := tb_of 174 (by decide +kernel)
theorem tz_in_10 : Cond.initialized RX10 ∈ TB := tb_of 59 (by decide +kernel)
theorem tz_c_10 : Cond.code yX10_init cX10_init 1 none ∈ TB := tb_of 177 (by decide +kernel)
theorem tz_im_10 : Cond.instanceMethod yX10_init ∈ TB := tb_of 176 (by decide +kernel)
theorem tz_f_RX11_25 : Cond.fieldLink RX11 25 RX11 (TX11 5).2.1 (TX11 5).2.2.1 ∈ TB := tb_of 330 (by decide +kernel)
theorem tz_cl_RX11_29 : Cond.classLink RX11 29 RX0 ∈ TB := tb_of 188 (by decide +kernel)
theorem tz_is_0 : Cond.instantiable RX0 3 ∈ TB := tb_of 189 (by decide +kernel)
theorem tz_in_0 : Cond.initialized RX0 ∈ TB := tb_of 60 (by decide +kernel)
theorem tz_c_0 : Cond.code yX0_init cX0_init 1 none ∈ TB := tb_of 192 (by decide +kernel)
theorem tz_im_0 : Cond.instanceMethod yX0_init ∈ TB := tb_of 191 (by decide +kernel)
theorem tz_f_RX11_32 : Cond.fieldLink RX11 32 RX11 (TX11 6).2.1 (TX11 6).2.2.1 ∈ TB := tb_of 331 (by decide +kernel)
theorem tz_cl_RX11_36 : Cond.classLink RX11 36 RX7 ∈ TB := tb_of 206 (by decide +kernel)
theorem tz_is_7 : Cond.instantiable RX7 7 ∈ TB := tb_of 207 (by decide +kernel)
theorem tz_in_7 : Cond.initialized RX7 ∈ TB := tb_of 61 (by decide +kernel)
theorem tz_c_7 : Cond.code yX7_init cX7_init 3 none ∈ TB := tb_of 210 (by decide +kernel)
theorem tz_im_7 : Cond.instanceMethod yX7_init ∈ TB := tb_of 209 (by decide +kernel)
theorem tz_ml_RX11_38 : Cond.methodLink RX11 38 yX7_init ∈ TB := tb_of 208 (by decide +kernel)
theorem tz_f_RX11_41 : Cond.fieldLink RX11 41 RX11 (TX11 7).2.1 (TX11 7).2.2.1 ∈ TB := tb_of 332 (by decide +kernel)
theorem tz_cl_RX11_45 : Cond.classLink RX11 45 RX2 ∈ TB := tb_of 237 (by decide +kernel)
theorem tz_is_2 : Cond.instantiable RX2 5 ∈ TB := tb_of 238 (by decide +kernel)
theorem tz_in_2 : Cond.initialized RX2 ∈ TB := tb_of 62 (by decide +kernel)
theorem tz_c_2 : Cond.code yX2_init cX2_init 2 none ∈ TB := tb_of 241 (by decide +kernel)
theorem tz_im_2 : Cond.instanceMethod yX2_init ∈ TB := tb_of 240 (by decide +kernel)
theorem tz_ml_RX11_47 : Cond.methodLink RX11 47 yX2_init ∈ TB := tb_of 239 (by decide +kernel)
theorem tz_f_RX11_50 : Cond.fieldLink RX11 50 RX11 (TX11 8).2.1 (TX11 8).2.2.1 ∈ TB := tb_of 333 (by decide +kernel)
theorem tz_cl_RX11_54 : Cond.classLink RX11 54 RX8 ∈ TB := tb_of 263 (by decide +kernel)
theorem tz_is_8 : Cond.instantiable RX8 4 ∈ TB := tb_of 264 (by decide +kernel)
theorem tz_in_8 : Cond.initialized RX8 ∈ TB := tb_of 63 (by decide +kernel)
theorem tz_c_8 : Cond.code yX8_init cX8_init 1 none ∈ TB := tb_of 267 (by decide +kernel)
theorem tz_im_8 : Cond.instanceMethod yX8_init ∈ TB := tb_of 266 (by decide +kernel)
theorem tz_f_RX11_57 : Cond.fieldLink RX11 57 RX11 (TX11 9).2.1 (TX11 9).2.2.1 ∈ TB := tb_of 334 (by decide +kernel)
theorem tz_cl_RX11_61 : Cond.classLink RX11 61 RX1 ∈ TB := tb_of 285 (by decide +kernel)
theorem tz_is_1 : Cond.instantiable RX1 5 ∈ TB := tb_of 286 (by decide +kernel)
theorem tz_in_1 : Cond.initialized RX1 ∈ TB := tb_of 64 (by decide +kernel)
theorem tz_c_1 : Cond.code yX1_init cX1_init 2 none ∈ TB := tb_of 289 (by decide +kernel)
theorem tz_im_1 : Cond.instanceMethod yX1_init ∈ TB := tb_of 288 (by decide +kernel)
theorem tz_ml_RX11_63 : Cond.methodLink RX11 63 yX1_init ∈ TB := tb_of 287 (by decide +kernel)
theorem tz_f_RX11_64 : Cond.fieldLink RX11 64 RX11 (TX11 10).2.1 (TX11 10).2.2.1 ∈ TB := tb_of 335 (by decide +kernel)
theorem tz_cl_RX11_68 : Cond.classLink RX11 68 RX3 ∈ TB := tb_of 310 (by decide +kernel)
theorem tz_is_3 : Cond.instantiable RX3 2 ∈ TB := tb_of 311 (by decide +kernel)
theorem tz_in_3 : Cond.initialized RX3 ∈ TB := tb_of 65 (by decide +kernel)
theorem tz_c_3 : Cond.code yX3_init cX3_init 1 none ∈ TB := tb_of 314 (by decide +kernel)
theorem tz_im_3 : Cond.instanceMethod yX3_init ∈ TB := tb_of 313 (by decide +kernel)
theorem tz_f_RX11_71 : Cond.fieldLink RX11 71 RX11 (TX11 11).2.1 (TX11 11).2.2.1 ∈ TB := tb_of 336 (by decide +kernel)
theorem tz_ob_RX12 : Cond.methodLink RX12 1 Lib.objectInit ∈ TB := tb_of 990 (by decide +kernel)
theorem tz_f_RX12_7 : Cond.fieldLink RX12 7 RX12 (TX12 0).2.1 (TX12 0).2.2.1 ∈ TB := tb_of 991 (by decide +kernel)
theorem tz_f_RX12_13 : Cond.fieldLink RX12 13 RX12 (TX12 1).2.1 (TX12 1).2.2.1 ∈ TB := tb_of 992 (by decide +kernel)
theorem tz_f_RX12_16 : Cond.fieldLink RX12 16 RX12 (TX12 2).2.1 (TX12 2).2.2.1 ∈ TB := tb_of 993 (by decide +kernel)
theorem tz_f_RX12_19 : Cond.fieldLink RX12 19 RX12 (TX12 3).2.1 (TX12 3).2.2.1 ∈ TB := tb_of 994 (by decide +kernel)
theorem tz_f_RX12_23 : Cond.fieldLink RX12 23 RX12 (TX12 5).2.1 (TX12 5).2.2.1 ∈ TB := tb_of 996 (by decide +kernel)
theorem tz_f_RX12_27 : Cond.fieldLink RX12 27 RX12 (TX12 6).2.1 (TX12 6).2.2.1 ∈ TB := tb_of 997 (by decide +kernel)
theorem tz_f_RX12_30 : Cond.fieldLink RX12 30 RX12 (TX12 7).2.1 (TX12 7).2.2.1 ∈ TB := tb_of 998 (by decide +kernel)
theorem tz_f_RX12_33 : Cond.fieldLink RX12 33 RX12 (TX12 8).2.1 (TX12 8).2.2.1 ∈ TB := tb_of 999 (by decide +kernel)
theorem tz_f_RX12_36 : Cond.fieldLink RX12 36 RX12 (TX12 9).2.1 (TX12 9).2.2.1 ∈ TB := tb_of 1000 (by decide +kernel)
theorem tz_f_RX12_39 : Cond.fieldLink RX12 39 RX12 (TX12 10).2.1 (TX12 10).2.2.1 ∈ TB := tb_of 1001 (by decide +kernel)
theorem tz_f_RX12_42 : Cond.fieldLink RX12 42 RX12 (TX12 13).2.1 (TX12 13).2.2.1 ∈ TB := tb_of 1004 (by decide +kernel)
theorem tz_f_RX12_46 : Cond.fieldLink RX12 46 RX12 (TX12 16).2.1 (TX12 16).2.2.1 ∈ TB := tb_of 1007 (by decide +kernel)
theorem tz_f_RX12_49 : Cond.fieldLink RX12 49 RX12 (TX12 17).2.1 (TX12 17).2.2.1 ∈ TB := tb_of 1008 (by decide +kernel)
theorem tz_f_RX12_52 : Cond.fieldLink RX12 52 RX12 (TX12 18).2.1 (TX12 18).2.2.1 ∈ TB := tb_of 1009 (by decide +kernel)
theorem tz_cl_RL_7 : Cond.classLink RL 7 RX11 ∈ TB := tb_of 76 (by decide +kernel)
theorem tz_is_11 : Cond.instantiable RX11 15 ∈ TB := tb_of 77 (by decide +kernel)
theorem tz_in_11 : Cond.initialized RX11 ∈ TB := tb_of 56 (by decide +kernel)
theorem tz_cl_RL_10 : Cond.classLink RL 10 RX12 ∈ TB := tb_of 985 (by decide +kernel)
theorem tz_is_12 : Cond.instantiable RX12 19 ∈ TB := tb_of 986 (by decide +kernel)
theorem tz_in_12 : Cond.initialized RX12 ∈ TB := tb_of 66 (by decide +kernel)
theorem tz_c_11 : Cond.code yX11_init cX11_init 1 none ∈ TB := tb_of 80 (by decide +kernel)
theorem tz_im_11 : Cond.instanceMethod yX11_init ∈ TB := tb_of 79 (by decide +kernel)
theorem tz_ml_RL_9 : Cond.methodLink RL 9 yX11_init ∈ TB := tb_of 78 (by decide +kernel)
theorem tz_c_12 : Cond.code yX12_init cX12_init 1 none ∈ TB := tb_of 989 (by decide +kernel)
theorem tz_im_12 : Cond.instanceMethod yX12_init ∈ TB := tb_of 988 (by decide +kernel)
theorem tz_ml_RL_12 : Cond.methodLink RL 12 yX12_init ∈ TB := tb_of 987 (by decide +kernel)
theorem fz_RX9_9 : FZ RX9 9 7 1 .int := ⟨TX9, 4, tyX9, rfl, in_X9, by decide, tz_f_RX9_9, rfl, tyX9_ok, nmX9, by decide +kernel⟩
theorem fz_RX9_15 : FZ RX9 15 7 0 .int := ⟨TX9, 4, tyX9, rfl, in_X9, by decide, tz_f_RX9_15, rfl, tyX9_ok, nmX9, by decide +kernel⟩
theorem fz_RX9_18 : FZ RX9 18 7 2 (.array .int) := ⟨TX9, 4, tyX9, rfl, in_X9, by decide, tz_f_RX9_18, rfl, tyX9_ok, nmX9, by decide +kernel⟩
theorem fz_RX10_9 : FZ RX10 9 8 0 (.array .int) := ⟨TX10, 2, tyX10, rfl, in_X10, by decide, tz_f_RX10_9, rfl, tyX10_ok, nmX10, by decide +kernel⟩
theorem fz_RX0_9 : FZ RX0 9 0 0 (.array .int) := ⟨TX0, 3, tyX0, rfl, in_X0, by decide, tz_f_RX0_9, rfl, tyX0_ok, nmX0, by decide +kernel⟩
theorem fz_RX0_15 : FZ RX0 15 0 1 (.array .int) := ⟨TX0, 3, tyX0, rfl, in_X0, by decide, tz_f_RX0_15, rfl, tyX0_ok, nmX0, by decide +kernel⟩
theorem fz_RX0_18 : FZ RX0 18 0 2 (.array .int) := ⟨TX0, 3, tyX0, rfl, in_X0, by decide, tz_f_RX0_18, rfl, tyX0_ok, nmX0, by decide +kernel⟩
theorem fz_RX8_9 : FZ RX8 9 6 0 (.array .int) := ⟨TX8, 4, tyX8, rfl, in_X8, by decide, tz_f_RX8_9, rfl, tyX8_ok, nmX8, by decide +kernel⟩
theorem fz_RX8_15 : FZ RX8 15 6 1 (.array .int) := ⟨TX8, 4, tyX8, rfl, in_X8, by decide, tz_f_RX8_15, rfl, tyX8_ok, nmX8, by decide +kernel⟩
theorem fz_RX3_7 : FZ RX3 7 3 0 .long := ⟨TX3, 2, tyX3, rfl, in_X3, by decide, tz_f_RX3_7, rfl, tyX3_ok, nmX3, by decide +kernel⟩
theorem fz_RX3_13 : FZ RX3 13 3 1 .long := ⟨TX3, 2, tyX3, rfl, in_X3, by decide, tz_f_RX3_13, rfl, tyX3_ok, nmX3, by decide +kernel⟩
theorem fz_RX4_9 : FZ RX4 9 4 0 (.array .int) := ⟨TX4, 10, tyX4, rfl, in_X4, by decide, tz_f_RX4_9, rfl, tyX4_ok, nmX4, by decide +kernel⟩
theorem fz_RX4_15 : FZ RX4 15 4 1 (.array .int) := ⟨TX4, 10, tyX4, rfl, in_X4, by decide, tz_f_RX4_15, rfl, tyX4_ok, nmX4, by decide +kernel⟩
theorem nz_RX4_18 : NZ RX4 18 7 4 [.int 0, .int 0, .null, .int 0] := ⟨RX9, TX9, tyX9, rfl, in_X9, tz_cl_RX4_18, tz_is_9, tz_in_9, tyX9_ok, fun j hj => by
  have hz : j = 0 ∨ j = 1 ∨ j = 2 ∨ j = 3 := by omega
  rcases hz with rfl | rfl | rfl | rfl <;> rfl⟩
theorem mz_9 : MB yX9_init cX9_init 3 none 2 := ⟨tz_in_9, tz_c_9, ⟨by decide +kernel, by decide +kernel⟩, by decide +kernel⟩
theorem bz_RX4_20 : BZ RX4 20 yX9_init cX9_init 3 2 := ⟨mz_9, Or.inl tz_ml_RX4_20, tz_im_9, rfl⟩
theorem fz_RX4_23 : FZ RX4 23 4 2 (.object "WindLawyer$Table") := ⟨TX4, 10, tyX4, rfl, in_X4, by decide, tz_f_RX4_23, rfl, tyX4_ok, nmX4, by decide +kernel⟩
theorem fz_RX4_27 : FZ RX4 27 4 3 (.object "WindLawyer$Table") := ⟨TX4, 10, tyX4, rfl, in_X4, by decide, tz_f_RX4_27, rfl, tyX4_ok, nmX4, by decide +kernel⟩
theorem fz_RX4_30 : FZ RX4 30 4 4 (.object "WindLawyer$Table") := ⟨TX4, 10, tyX4, rfl, in_X4, by decide, tz_f_RX4_30, rfl, tyX4_ok, nmX4, by decide +kernel⟩
theorem fz_RX4_33 : FZ RX4 33 4 5 (.object "WindLawyer$Table") := ⟨TX4, 10, tyX4, rfl, in_X4, by decide, tz_f_RX4_33, rfl, tyX4_ok, nmX4, by decide +kernel⟩
theorem fz_RX4_36 : FZ RX4 36 4 6 (.object "WindLawyer$Table") := ⟨TX4, 10, tyX4, rfl, in_X4, by decide, tz_f_RX4_36, rfl, tyX4_ok, nmX4, by decide +kernel⟩
theorem fz_RX4_39 : FZ RX4 39 4 7 (.object "WindLawyer$Table") := ⟨TX4, 10, tyX4, rfl, in_X4, by decide, tz_f_RX4_39, rfl, tyX4_ok, nmX4, by decide +kernel⟩
theorem nz_RX7_9 : NZ RX7 9 4 10 [.null, .null, .null, .null, .null, .null, .null, .null, .int 0, .int 0] := ⟨RX4, TX4, tyX4, rfl, in_X4, tz_cl_RX7_9, tz_is_4, tz_in_4, tyX4_ok, fun j hj => by
  have hz : j = 0 ∨ j = 1 ∨ j = 2 ∨ j = 3 ∨ j = 4 ∨ j = 5 ∨ j = 6 ∨ j = 7 ∨ j = 8 ∨ j = 9 := by omega
  rcases hz with rfl | rfl | rfl | rfl | rfl | rfl | rfl | rfl | rfl | rfl <;> rfl⟩
theorem mz_4 : MB yX4_init cX4_init 1 none 0 := ⟨tz_in_4, tz_c_4, ⟨by decide +kernel, by decide +kernel⟩, by decide +kernel⟩
theorem bz_RX7_11 : BZ RX7 11 yX4_init cX4_init 1 0 := ⟨mz_4, Or.inr (by decide +kernel), tz_im_4, rfl⟩
theorem fz_RX7_12 : FZ RX7 12 5 2 (.object "WindLawyer$Island") := ⟨TX7, 7, tyX7, rfl, in_X7, by decide, tz_f_RX7_12, rfl, tyX7_ok, nmX7, by decide +kernel⟩
theorem fz_RX7_18 : FZ RX7 18 5 0 (.object "WindLawyer$Text") := ⟨TX7, 7, tyX7, rfl, in_X7, by decide, tz_f_RX7_18, rfl, tyX7_ok, nmX7, by decide +kernel⟩
theorem fz_RX7_22 : FZ RX7 22 5 1 (.object "WindLawyer$Blow") := ⟨TX7, 7, tyX7, rfl, in_X7, by decide, tz_f_RX7_22, rfl, tyX7_ok, nmX7, by decide +kernel⟩
theorem nz_RX2_9 : NZ RX2 9 7 4 [.int 0, .int 0, .null, .int 0] := ⟨RX9, TX9, tyX9, rfl, in_X9, tz_cl_RX2_9, tz_is_9, tz_in_9, tyX9_ok, fun j hj => by
  have hz : j = 0 ∨ j = 1 ∨ j = 2 ∨ j = 3 := by omega
  rcases hz with rfl | rfl | rfl | rfl <;> rfl⟩
theorem bz_RX2_11 : BZ RX2 11 yX9_init cX9_init 3 2 := ⟨mz_9, Or.inl tz_ml_RX2_11, tz_im_9, rfl⟩
theorem fz_RX2_14 : FZ RX2 14 2 1 (.object "WindLawyer$Table") := ⟨TX2, 5, tyX2, rfl, in_X2, by decide, tz_f_RX2_14, rfl, tyX2_ok, nmX2, by decide +kernel⟩
theorem fz_RX2_20 : FZ RX2 20 2 2 (.array .int) := ⟨TX2, 5, tyX2, rfl, in_X2, by decide, tz_f_RX2_20, rfl, tyX2_ok, nmX2, by decide +kernel⟩
theorem fz_RX2_24 : FZ RX2 24 2 0 (.object "WindLawyer$Blow") := ⟨TX2, 5, tyX2, rfl, in_X2, by decide, tz_f_RX2_24, rfl, tyX2_ok, nmX2, by decide +kernel⟩
theorem fz_RX1_9 : FZ RX1 9 1 1 (.array .int) := ⟨TX1, 5, tyX1, rfl, in_X1, by decide, tz_f_RX1_9, rfl, tyX1_ok, nmX1, by decide +kernel⟩
theorem fz_RX1_15 : FZ RX1 15 1 0 (.object "WindLawyer$Blow") := ⟨TX1, 5, tyX1, rfl, in_X1, by decide, tz_f_RX1_15, rfl, tyX1_ok, nmX1, by decide +kernel⟩
theorem nz_RX11_9 : NZ RX11 9 4 10 [.null, .null, .null, .null, .null, .null, .null, .null, .int 0, .int 0] := ⟨RX4, TX4, tyX4, rfl, in_X4, tz_cl_RX11_9, tz_is_4, tz_in_4, tyX4_ok, fun j hj => by
  have hz : j = 0 ∨ j = 1 ∨ j = 2 ∨ j = 3 ∨ j = 4 ∨ j = 5 ∨ j = 6 ∨ j = 7 ∨ j = 8 ∨ j = 9 := by omega
  rcases hz with rfl | rfl | rfl | rfl | rfl | rfl | rfl | rfl | rfl | rfl <;> rfl⟩
theorem bz_RX11_11 : BZ RX11 11 yX4_init cX4_init 1 0 := ⟨mz_4, Or.inr (by decide +kernel), tz_im_4, rfl⟩
theorem fz_RX11_12 : FZ RX11 12 9 0 (.object "WindLawyer$Island") := ⟨TX11, 15, tyX11, rfl, in_X11, by decide, tz_f_RX11_12, rfl, tyX11_ok, nmX11, by decide +kernel⟩
theorem fz_RX11_16 : FZ RX11 16 9 1 (.object "WindLawyer$Island") := ⟨TX11, 15, tyX11, rfl, in_X11, by decide, tz_f_RX11_16, rfl, tyX11_ok, nmX11, by decide +kernel⟩
theorem fz_RX11_19 : FZ RX11 19 9 2 (.object "WindLawyer$Island") := ⟨TX11, 15, tyX11, rfl, in_X11, by decide, tz_f_RX11_19, rfl, tyX11_ok, nmX11, by decide +kernel⟩
theorem nz_RX11_22 : NZ RX11 22 8 2 [.null, .int 0] := ⟨RX10, TX10, tyX10, rfl, in_X10, tz_cl_RX11_22, tz_is_10, tz_in_10, tyX10_ok, fun j hj => by
  have hz : j = 0 ∨ j = 1 := by omega
  rcases hz with rfl | rfl <;> rfl⟩
theorem mz_10 : MB yX10_init cX10_init 1 none 0 := ⟨tz_in_10, tz_c_10, ⟨by decide +kernel, by decide +kernel⟩, by decide +kernel⟩
theorem bz_RX11_24 : BZ RX11 24 yX10_init cX10_init 1 0 := ⟨mz_10, Or.inr (by decide +kernel), tz_im_10, rfl⟩
theorem fz_RX11_25 : FZ RX11 25 9 5 (.object "WindLawyer$Text") := ⟨TX11, 15, tyX11, rfl, in_X11, by decide, tz_f_RX11_25, rfl, tyX11_ok, nmX11, by decide +kernel⟩
theorem nz_RX11_29 : NZ RX11 29 0 3 [.null, .null, .null] := ⟨RX0, TX0, tyX0, rfl, in_X0, tz_cl_RX11_29, tz_is_0, tz_in_0, tyX0_ok, fun j hj => by
  have hz : j = 0 ∨ j = 1 ∨ j = 2 := by omega
  rcases hz with rfl | rfl | rfl <;> rfl⟩
theorem mz_0 : MB yX0_init cX0_init 1 none 0 := ⟨tz_in_0, tz_c_0, ⟨by decide +kernel, by decide +kernel⟩, by decide +kernel⟩
theorem bz_RX11_31 : BZ RX11 31 yX0_init cX0_init 1 0 := ⟨mz_0, Or.inr (by decide +kernel), tz_im_0, rfl⟩
theorem fz_RX11_32 : FZ RX11 32 9 6 (.object "WindLawyer$Blow") := ⟨TX11, 15, tyX11, rfl, in_X11, by decide, tz_f_RX11_32, rfl, tyX11_ok, nmX11, by decide +kernel⟩
theorem nz_RX11_36 : NZ RX11 36 5 7 [.null, .null, .null, .int 0, .int 0, .int 0, .int 0] := ⟨RX7, TX7, tyX7, rfl, in_X7, tz_cl_RX11_36, tz_is_7, tz_in_7, tyX7_ok, fun j hj => by
  have hz : j = 0 ∨ j = 1 ∨ j = 2 ∨ j = 3 ∨ j = 4 ∨ j = 5 ∨ j = 6 := by omega
  rcases hz with rfl | rfl | rfl | rfl | rfl | rfl | rfl <;> rfl⟩
theorem mz_7 : MB yX7_init cX7_init 3 none 2 := ⟨tz_in_7, tz_c_7, ⟨by decide +kernel, by decide +kernel⟩, by decide +kernel⟩
theorem bz_RX11_38 : BZ RX11 38 yX7_init cX7_init 3 2 := ⟨mz_7, Or.inl tz_ml_RX11_38, tz_im_7, rfl⟩
theorem fz_RX11_41 : FZ RX11 41 9 7 (.object "WindLawyer$Reader") := ⟨TX11, 15, tyX11, rfl, in_X11, by decide, tz_f_RX11_41, rfl, tyX11_ok, nmX11, by decide +kernel⟩
theorem nz_RX11_45 : NZ RX11 45 2 5 [.null, .null, .null, .int 0, .int 0] := ⟨RX2, TX2, tyX2, rfl, in_X2, tz_cl_RX11_45, tz_is_2, tz_in_2, tyX2_ok, fun j hj => by
  have hz : j = 0 ∨ j = 1 ∨ j = 2 ∨ j = 3 ∨ j = 4 := by omega
  rcases hz with rfl | rfl | rfl | rfl | rfl <;> rfl⟩
theorem mz_2 : MB yX2_init cX2_init 2 none 1 := ⟨tz_in_2, tz_c_2, ⟨by decide +kernel, by decide +kernel⟩, by decide +kernel⟩
theorem bz_RX11_47 : BZ RX11 47 yX2_init cX2_init 2 1 := ⟨mz_2, Or.inl tz_ml_RX11_47, tz_im_2, rfl⟩
theorem fz_RX11_50 : FZ RX11 50 9 8 (.object "WindLawyer$Forecast") := ⟨TX11, 15, tyX11, rfl, in_X11, by decide, tz_f_RX11_50, rfl, tyX11_ok, nmX11, by decide +kernel⟩
theorem nz_RX11_54 : NZ RX11 54 6 4 [.null, .null, .int 0, .int 0] := ⟨RX8, TX8, tyX8, rfl, in_X8, tz_cl_RX11_54, tz_is_8, tz_in_8, tyX8_ok, fun j hj => by
  have hz : j = 0 ∨ j = 1 ∨ j = 2 ∨ j = 3 := by omega
  rcases hz with rfl | rfl | rfl | rfl <;> rfl⟩
theorem mz_8 : MB yX8_init cX8_init 1 none 0 := ⟨tz_in_8, tz_c_8, ⟨by decide +kernel, by decide +kernel⟩, by decide +kernel⟩
theorem bz_RX11_56 : BZ RX11 56 yX8_init cX8_init 1 0 := ⟨mz_8, Or.inr (by decide +kernel), tz_im_8, rfl⟩
theorem fz_RX11_57 : FZ RX11 57 9 9 (.object "WindLawyer$Session") := ⟨TX11, 15, tyX11, rfl, in_X11, by decide, tz_f_RX11_57, rfl, tyX11_ok, nmX11, by decide +kernel⟩
theorem nz_RX11_61 : NZ RX11 61 1 5 [.null, .null, .int 0, .int 0, .int 0] := ⟨RX1, TX1, tyX1, rfl, in_X1, tz_cl_RX11_61, tz_is_1, tz_in_1, tyX1_ok, fun j hj => by
  have hz : j = 0 ∨ j = 1 ∨ j = 2 ∨ j = 3 ∨ j = 4 := by omega
  rcases hz with rfl | rfl | rfl | rfl | rfl <;> rfl⟩
theorem mz_1 : MB yX1_init cX1_init 2 none 1 := ⟨tz_in_1, tz_c_1, ⟨by decide +kernel, by decide +kernel⟩, by decide +kernel⟩
theorem bz_RX11_63 : BZ RX11 63 yX1_init cX1_init 2 1 := ⟨mz_1, Or.inl tz_ml_RX11_63, tz_im_1, rfl⟩
theorem fz_RX11_64 : FZ RX11 64 9 10 (.object "WindLawyer$Evidence") := ⟨TX11, 15, tyX11, rfl, in_X11, by decide, tz_f_RX11_64, rfl, tyX11_ok, nmX11, by decide +kernel⟩
theorem nz_RX11_68 : NZ RX11 68 3 2 [.long 0, .long 0] := ⟨RX3, TX3, tyX3, rfl, in_X3, tz_cl_RX11_68, tz_is_3, tz_in_3, tyX3_ok, fun j hj => by
  have hz : j = 0 ∨ j = 1 := by omega
  rcases hz with rfl | rfl <;> rfl⟩
theorem mz_3 : MB yX3_init cX3_init 1 none 0 := ⟨tz_in_3, tz_c_3, ⟨by decide +kernel, by decide +kernel⟩, by decide +kernel⟩
theorem bz_RX11_70 : BZ RX11 70 yX3_init cX3_init 1 0 := ⟨mz_3, Or.inr (by decide +kernel), tz_im_3, rfl⟩
theorem fz_RX11_71 : FZ RX11 71 9 11 (.object "WindLawyer$Fraction") := ⟨TX11, 15, tyX11, rfl, in_X11, by decide, tz_f_RX11_71, rfl, tyX11_ok, nmX11, by decide +kernel⟩
theorem fz_RX12_7 : FZ RX12 7 10 0 (.array .int) := ⟨TX12, 19, tyX12, rfl, in_X12, by decide, tz_f_RX12_7, rfl, tyX12_ok, nmX12, by decide +kernel⟩
theorem fz_RX12_13 : FZ RX12 13 10 1 (.array .int) := ⟨TX12, 19, tyX12, rfl, in_X12, by decide, tz_f_RX12_13, rfl, tyX12_ok, nmX12, by decide +kernel⟩
theorem fz_RX12_16 : FZ RX12 16 10 2 (.array .int) := ⟨TX12, 19, tyX12, rfl, in_X12, by decide, tz_f_RX12_16, rfl, tyX12_ok, nmX12, by decide +kernel⟩
theorem fz_RX12_19 : FZ RX12 19 10 3 (.array .boolean) := ⟨TX12, 19, tyX12, rfl, in_X12, by decide, tz_f_RX12_19, rfl, tyX12_ok, nmX12, by decide +kernel⟩
theorem fz_RX12_23 : FZ RX12 23 10 5 .long := ⟨TX12, 19, tyX12, rfl, in_X12, by decide, tz_f_RX12_23, rfl, tyX12_ok, nmX12, by decide +kernel⟩
theorem fz_RX12_27 : FZ RX12 27 10 6 (.array .int) := ⟨TX12, 19, tyX12, rfl, in_X12, by decide, tz_f_RX12_27, rfl, tyX12_ok, nmX12, by decide +kernel⟩
theorem fz_RX12_30 : FZ RX12 30 10 7 (.array .int) := ⟨TX12, 19, tyX12, rfl, in_X12, by decide, tz_f_RX12_30, rfl, tyX12_ok, nmX12, by decide +kernel⟩
theorem fz_RX12_33 : FZ RX12 33 10 8 (.array .int) := ⟨TX12, 19, tyX12, rfl, in_X12, by decide, tz_f_RX12_33, rfl, tyX12_ok, nmX12, by decide +kernel⟩
theorem fz_RX12_36 : FZ RX12 36 10 9 (.array .int) := ⟨TX12, 19, tyX12, rfl, in_X12, by decide, tz_f_RX12_36, rfl, tyX12_ok, nmX12, by decide +kernel⟩
theorem fz_RX12_39 : FZ RX12 39 10 10 (.array .int) := ⟨TX12, 19, tyX12, rfl, in_X12, by decide, tz_f_RX12_39, rfl, tyX12_ok, nmX12, by decide +kernel⟩
theorem fz_RX12_42 : FZ RX12 42 10 13 .int := ⟨TX12, 19, tyX12, rfl, in_X12, by decide, tz_f_RX12_42, rfl, tyX12_ok, nmX12, by decide +kernel⟩
theorem fz_RX12_46 : FZ RX12 46 10 16 (.array .int) := ⟨TX12, 19, tyX12, rfl, in_X12, by decide, tz_f_RX12_46, rfl, tyX12_ok, nmX12, by decide +kernel⟩
theorem fz_RX12_49 : FZ RX12 49 10 17 (.array .int) := ⟨TX12, 19, tyX12, rfl, in_X12, by decide, tz_f_RX12_49, rfl, tyX12_ok, nmX12, by decide +kernel⟩
theorem fz_RX12_52 : FZ RX12 52 10 18 (.array .int) := ⟨TX12, 19, tyX12, rfl, in_X12, by decide, tz_f_RX12_52, rfl, tyX12_ok, nmX12, by decide +kernel⟩
theorem nz_RL_7 : NZ RL 7 9 15 [.null, .null, .null, .int 0, .int 0, .null, .null, .null, .null, .null, .null, .null, .int 0, .int 0, .int 0] := ⟨RX11, TX11, tyX11, rfl, in_X11, tz_cl_RL_7, tz_is_11, tz_in_11, tyX11_ok, fun j hj => by
  have hz : j = 0 ∨ j = 1 ∨ j = 2 ∨ j = 3 ∨ j = 4 ∨ j = 5 ∨ j = 6 ∨ j = 7 ∨ j = 8 ∨ j = 9 ∨ j = 10 ∨ j = 11 ∨ j = 12 ∨ j = 13 ∨ j = 14 := by omega
  rcases hz with rfl | rfl | rfl | rfl | rfl | rfl | rfl | rfl | rfl | rfl | rfl | rfl | rfl | rfl | rfl <;> rfl⟩
theorem nz_RL_10 : NZ RL 10 10 19 [.null, .null, .null, .null, .long 0, .long 0, .null, .null, .null, .null, .null, .int 0, .int 0, .int 0, .int 0, .int 0, .null, .null, .null] := ⟨RX12, TX12, tyX12, rfl, in_X12, tz_cl_RL_10, tz_is_12, tz_in_12, tyX12_ok, fun j hj => by
  have hz : j = 0 ∨ j = 1 ∨ j = 2 ∨ j = 3 ∨ j = 4 ∨ j = 5 ∨ j = 6 ∨ j = 7 ∨ j = 8 ∨ j = 9 ∨ j = 10 ∨ j = 11 ∨ j = 12 ∨ j = 13 ∨ j = 14 ∨ j = 15 ∨ j = 16 ∨ j = 17 ∨ j = 18 := by omega
  rcases hz with rfl | rfl | rfl | rfl | rfl | rfl | rfl | rfl | rfl | rfl | rfl | rfl | rfl | rfl | rfl | rfl | rfl | rfl | rfl <;> rfl⟩
theorem mz_11 : MB yX11_init cX11_init 1 none 0 := ⟨tz_in_11, tz_c_11, ⟨by decide +kernel, by decide +kernel⟩, by decide +kernel⟩
theorem bz_RL_9 : BZ RL 9 yX11_init cX11_init 1 0 := ⟨mz_11, Or.inl tz_ml_RL_9, tz_im_11, rfl⟩
theorem mz_12 : MB yX12_init cX12_init 1 none 0 := ⟨tz_in_12, tz_c_12, ⟨by decide +kernel, by decide +kernel⟩, by decide +kernel⟩
theorem bz_RL_12 : BZ RL 12 yX12_init cX12_init 1 0 := ⟨mz_12, Or.inl tz_ml_RL_12, tz_im_12, rfl⟩
def wX9 (l w N : Nat) : ClassId → ClassId → Nat → (Nat → Nat) → va_W := fun cI _ h0 u => [(h0, .inr (7, [.int (nI w), .int (nI l), .ref (u 0), .int 0])), (u 0, .inl (cI, N, .inl (fun _ => 0)))]
set_option maxHeartbeats 4000000 in
set_option maxRecDepth 100000 in
theorem kn_X9 {l w N : Nat} (hpN : (nI l * nI w).toNatClampNeg = N) (hp0 : ¬ nI l * nI w < 0) (hN9 : N ≤ 1000) : KN yX9_init cX9_init 3 1 12 1 (N) 7 [.int 0, .int 0, .null, .int 0] (wX9 l w N) [.int (nI l), .int (nI w)] := by
  refine cn_of (by decide +kernel) rfl (fun h0 => [some (.ref h0), some (.int (nI l)), some (.int (nI w))]) (fun h0 => by have h := lx_entry (.ref h0 :: [.int (nI l), .int (nI w)]) (nL := 3) (fun α => Nat.le_of_ble_eq_true rfl) id; exact h) (fun o h0 C hin fin => ?_)
  refine z_aload C dX9_init_0 rfl rfl ?_
  refine z_obj C dX9_init_1 tz_ob_RX9 ⟨Nat.le_of_ble_eq_true rfl, Nat.le_of_ble_eq_true rfl⟩ tz_oi tz_oc ?_
  refine z_aload C dX9_init_4 rfl rfl ?_
  refine z_iload C dX9_init_5 rfl rfl ?_
  refine z_put (i := 0) C hin fz_RX9_9 dX9_init_6 rfl rfl rfl (Nat.le_of_ble_eq_true rfl) ?_
  change Zx o 9 [some (.ref h0), some (.int (nI l)), some (.int (nI w))] [] [(h0, .inr (7, [.int 0, .int (nI l), .null, .int 0]))] 0 (0)
  refine z_aload C dX9_init_9 rfl rfl ?_
  refine z_iload C dX9_init_10 rfl rfl ?_
  refine z_put (i := 0) C hin fz_RX9_15 dX9_init_11 rfl rfl rfl (Nat.le_of_ble_eq_true rfl) ?_
  change Zx o 14 [some (.ref h0), some (.int (nI l)), some (.int (nI w))] [] [(h0, .inr (7, [.int (nI w), .int (nI l), .null, .int 0]))] 0 (0)
  refine z_aload C dX9_init_14 rfl rfl ?_
  refine z_iload C dX9_init_15 rfl rfl ?_
  refine z_iload C dX9_init_16 rfl rfl ?_
  refine z_imul C dX9_init_17 ?_
  refine z_newI (N := N) C tz_aI dX9_init_18 hp0 hpN hN9 ⟨Nat.le_of_ble_eq_true rfl, by show 0 + N ≤ N; omega⟩ (fun q1 => ?_)
  rw [Nat.zero_add N]
  change Zx o 20 [some (.ref h0), some (.int (nI l)), some (.int (nI w))] [.ref q1, .ref h0] ((h0, .inr (7, [.int (nI w), .int (nI l), .null, .int 0])) :: [(q1, .inl (o.2.2.1.2.1, N, .inl (fun _ => 0)))]) 1 (N)
  refine z_put (i := 0) C hin fz_RX9_18 dX9_init_20 rfl rfl rfl (Nat.le_of_ble_eq_true rfl) ?_
  change Zx o 23 [some (.ref h0), some (.int (nI l)), some (.int (nI w))] [] ((h0, .inr (7, [.int (nI w), .int (nI l), .ref q1, .int 0])) :: [(q1, .inl (o.2.2.1.2.1, N, .inl (fun _ => 0)))]) 1 (N)
  exact fin 23 _ (fun _ => q1) _ _ (Nat.le_refl _) (Nat.le_refl _) dX9_init_23
def wX10 : ClassId → ClassId → Nat → (Nat → Nat) → va_W := fun cI _ h0 u => [(h0, .inr (8, [.ref (u 0), .int 0])), (u 0, .inl (cI, 150, .inl (fun _ => 0)))]
set_option maxHeartbeats 4000000 in
set_option maxRecDepth 100000 in
theorem kn_X10  : KN yX10_init cX10_init 1 1 12 1 (150) 8 [.null, .int 0] wX10 [] := by
  refine cn_of (by decide +kernel) rfl (fun h0 => [some (.ref h0)]) (fun h0 => by have h := lx_entry (.ref h0 :: []) (nL := 1) (fun α => Nat.le_of_ble_eq_true rfl) id; exact h) (fun o h0 C hin fin => ?_)
  refine z_aload C dX10_init_0 rfl rfl ?_
  refine z_obj C dX10_init_1 tz_ob_RX10 ⟨Nat.le_of_ble_eq_true rfl, Nat.le_of_ble_eq_true rfl⟩ tz_oi tz_oc ?_
  refine z_aload C dX10_init_4 rfl rfl ?_
  refine z_sipush (v := nI 150) C dX10_init_5 (by decide +kernel) ?_
  refine z_newI (N := 150) C tz_aI dX10_init_8 (nI_pos (by omega)) (ix_n (by omega)) (by omega) ⟨Nat.le_of_ble_eq_true rfl, Nat.le_of_ble_eq_true rfl⟩ (fun q1 => ?_)
  change Zx o 10 [some (.ref h0)] [.ref q1, .ref h0] ((h0, .inr (8, [.null, .int 0])) :: [(q1, .inl (o.2.2.1.2.1, 150, .inl (fun _ => 0)))]) 1 (150)
  refine z_put (i := 0) C hin fz_RX10_9 dX10_init_10 rfl rfl rfl (Nat.le_of_ble_eq_true rfl) ?_
  change Zx o 13 [some (.ref h0)] [] ((h0, .inr (8, [.ref q1, .int 0])) :: [(q1, .inl (o.2.2.1.2.1, 150, .inl (fun _ => 0)))]) 1 (150)
  exact fin 13 _ (fun _ => q1) _ _ (Nat.le_refl _) (Nat.le_refl _) dX10_init_13
def wX0 : ClassId → ClassId → Nat → (Nat → Nat) → va_W := fun cI _ h0 u => [(h0, .inr (0, [.ref (u 1), .ref (u 2), .ref (u 3)])), (u 1, .inl (cI, 12, .inl (fun _ => 0))), (u 2, .inl (cI, 12, .inl (fun _ => 0))), (u 3, .inl (cI, 7, .inl (fun _ => 0)))]
set_option maxHeartbeats 4000000 in
set_option maxRecDepth 100000 in
theorem kn_X0  : KN yX0_init cX0_init 1 1 12 3 (31) 0 [.null, .null, .null] wX0 [] := by
  refine cn_of (by decide +kernel) rfl (fun h0 => [some (.ref h0)]) (fun h0 => by have h := lx_entry (.ref h0 :: []) (nL := 1) (fun α => Nat.le_of_ble_eq_true rfl) id; exact h) (fun o h0 C hin fin => ?_)
  refine z_aload C dX0_init_0 rfl rfl ?_
  refine z_obj C dX0_init_1 tz_ob_RX0 ⟨Nat.le_of_ble_eq_true rfl, Nat.le_of_ble_eq_true rfl⟩ tz_oi tz_oc ?_
  refine z_aload C dX0_init_4 rfl rfl ?_
  refine z_bipush (v := nI 12) C dX0_init_5 (by decide +kernel) ?_
  refine z_newI (N := 12) C tz_aI dX0_init_7 (nI_pos (by omega)) (ix_n (by omega)) (by omega) ⟨Nat.le_of_ble_eq_true rfl, Nat.le_of_ble_eq_true rfl⟩ (fun q1 => ?_)
  change Zx o 9 [some (.ref h0)] [.ref q1, .ref h0] ((h0, .inr (0, [.null, .null, .null])) :: [(q1, .inl (o.2.2.1.2.1, 12, .inl (fun _ => 0)))]) 1 (12)
  refine z_put (i := 0) C hin fz_RX0_9 dX0_init_9 rfl rfl rfl (Nat.le_of_ble_eq_true rfl) ?_
  change Zx o 12 [some (.ref h0)] [] ((h0, .inr (0, [.ref q1, .null, .null])) :: [(q1, .inl (o.2.2.1.2.1, 12, .inl (fun _ => 0)))]) 1 (12)
  refine z_aload C dX0_init_12 rfl rfl ?_
  refine z_bipush (v := nI 12) C dX0_init_13 (by decide +kernel) ?_
  refine z_newI (N := 12) C tz_aI dX0_init_15 (nI_pos (by omega)) (ix_n (by omega)) (by omega) ⟨Nat.le_of_ble_eq_true rfl, Nat.le_of_ble_eq_true rfl⟩ (fun q2 => ?_)
  change Zx o 17 [some (.ref h0)] [.ref q2, .ref h0] ((h0, .inr (0, [.ref q1, .null, .null])) :: ([(q1, .inl (o.2.2.1.2.1, 12, .inl (fun _ => 0)))] ++ [(q2, .inl (o.2.2.1.2.1, 12, .inl (fun _ => 0)))])) 2 (24)
  refine z_put (i := 0) C hin fz_RX0_15 dX0_init_17 rfl rfl rfl (Nat.le_of_ble_eq_true rfl) ?_
  change Zx o 20 [some (.ref h0)] [] ((h0, .inr (0, [.ref q1, .ref q2, .null])) :: ([(q1, .inl (o.2.2.1.2.1, 12, .inl (fun _ => 0)))] ++ [(q2, .inl (o.2.2.1.2.1, 12, .inl (fun _ => 0)))])) 2 (24)
  refine z_aload C dX0_init_20 rfl rfl ?_
  refine z_bipush (v := nI 7) C dX0_init_21 (by decide +kernel) ?_
  refine z_newI (N := 7) C tz_aI dX0_init_23 (nI_pos (by omega)) (ix_n (by omega)) (by omega) ⟨Nat.le_of_ble_eq_true rfl, Nat.le_of_ble_eq_true rfl⟩ (fun q3 => ?_)
  change Zx o 25 [some (.ref h0)] [.ref q3, .ref h0] ((h0, .inr (0, [.ref q1, .ref q2, .null])) :: (([(q1, .inl (o.2.2.1.2.1, 12, .inl (fun _ => 0)))] ++ [(q2, .inl (o.2.2.1.2.1, 12, .inl (fun _ => 0)))]) ++ [(q3, .inl (o.2.2.1.2.1, 7, .inl (fun _ => 0)))])) 3 (31)
  refine z_put (i := 0) C hin fz_RX0_18 dX0_init_25 rfl rfl rfl (Nat.le_of_ble_eq_true rfl) ?_
  change Zx o 28 [some (.ref h0)] [] ((h0, .inr (0, [.ref q1, .ref q2, .ref q3])) :: (([(q1, .inl (o.2.2.1.2.1, 12, .inl (fun _ => 0)))] ++ [(q2, .inl (o.2.2.1.2.1, 12, .inl (fun _ => 0)))]) ++ [(q3, .inl (o.2.2.1.2.1, 7, .inl (fun _ => 0)))])) 3 (31)
  exact fin 28 _ (fun c => [0, q1, q2, q3].getD c 0) _ _ (Nat.le_refl _) (Nat.le_refl _) dX0_init_28
def wX8 : ClassId → ClassId → Nat → (Nat → Nat) → va_W := fun cI _ h0 u => [(h0, .inr (6, [.ref (u 1), .ref (u 2), .int 0, .int 0])), (u 1, .inl (cI, 5, .inl (fun _ => 0))), (u 2, .inl (cI, 5, .inl (fun _ => 0)))]
set_option maxHeartbeats 4000000 in
set_option maxRecDepth 100000 in
theorem kn_X8  : KN yX8_init cX8_init 1 1 12 2 (10) 6 [.null, .null, .int 0, .int 0] wX8 [] := by
  refine cn_of (by decide +kernel) rfl (fun h0 => [some (.ref h0)]) (fun h0 => by have h := lx_entry (.ref h0 :: []) (nL := 1) (fun α => Nat.le_of_ble_eq_true rfl) id; exact h) (fun o h0 C hin fin => ?_)
  refine z_aload C dX8_init_0 rfl rfl ?_
  refine z_obj C dX8_init_1 tz_ob_RX8 ⟨Nat.le_of_ble_eq_true rfl, Nat.le_of_ble_eq_true rfl⟩ tz_oi tz_oc ?_
  refine z_aload C dX8_init_4 rfl rfl ?_
  refine z_iconst (v := (nI 5)) C dX8_init_5 (by decide +kernel) ?_
  refine z_newI (N := 5) C tz_aI dX8_init_6 (nI_pos (by omega)) (ix_n (by omega)) (by omega) ⟨Nat.le_of_ble_eq_true rfl, Nat.le_of_ble_eq_true rfl⟩ (fun q1 => ?_)
  change Zx o 8 [some (.ref h0)] [.ref q1, .ref h0] ((h0, .inr (6, [.null, .null, .int 0, .int 0])) :: [(q1, .inl (o.2.2.1.2.1, 5, .inl (fun _ => 0)))]) 1 (5)
  refine z_put (i := 0) C hin fz_RX8_9 dX8_init_8 rfl rfl rfl (Nat.le_of_ble_eq_true rfl) ?_
  change Zx o 11 [some (.ref h0)] [] ((h0, .inr (6, [.ref q1, .null, .int 0, .int 0])) :: [(q1, .inl (o.2.2.1.2.1, 5, .inl (fun _ => 0)))]) 1 (5)
  refine z_aload C dX8_init_11 rfl rfl ?_
  refine z_iconst (v := (nI 5)) C dX8_init_12 (by decide +kernel) ?_
  refine z_newI (N := 5) C tz_aI dX8_init_13 (nI_pos (by omega)) (ix_n (by omega)) (by omega) ⟨Nat.le_of_ble_eq_true rfl, Nat.le_of_ble_eq_true rfl⟩ (fun q2 => ?_)
  change Zx o 15 [some (.ref h0)] [.ref q2, .ref h0] ((h0, .inr (6, [.ref q1, .null, .int 0, .int 0])) :: ([(q1, .inl (o.2.2.1.2.1, 5, .inl (fun _ => 0)))] ++ [(q2, .inl (o.2.2.1.2.1, 5, .inl (fun _ => 0)))])) 2 (10)
  refine z_put (i := 0) C hin fz_RX8_15 dX8_init_15 rfl rfl rfl (Nat.le_of_ble_eq_true rfl) ?_
  change Zx o 18 [some (.ref h0)] [] ((h0, .inr (6, [.ref q1, .ref q2, .int 0, .int 0])) :: ([(q1, .inl (o.2.2.1.2.1, 5, .inl (fun _ => 0)))] ++ [(q2, .inl (o.2.2.1.2.1, 5, .inl (fun _ => 0)))])) 2 (10)
  exact fin 18 _ (fun c => [0, q1, q2].getD c 0) _ _ (Nat.le_refl _) (Nat.le_refl _) dX8_init_18
def wX3 : ClassId → ClassId → Nat → (Nat → Nat) → va_W := fun _ _ h0 _ => [(h0, .inr (3, [.long 0, .long 1]))]
set_option maxHeartbeats 4000000 in
set_option maxRecDepth 100000 in
theorem kn_X3  : KN yX3_init cX3_init 1 1 12 0 (0) 3 [.long 0, .long 0] wX3 [] := by
  refine cn_of (by decide +kernel) rfl (fun h0 => [some (.ref h0)]) (fun h0 => by have h := lx_entry (.ref h0 :: []) (nL := 1) (fun α => Nat.le_of_ble_eq_true rfl) id; exact h) (fun o h0 C hin fin => ?_)
  refine z_aload C dX3_init_0 rfl rfl ?_
  refine z_obj C dX3_init_1 tz_ob_RX3 ⟨Nat.le_of_ble_eq_true rfl, Nat.le_of_ble_eq_true rfl⟩ tz_oi tz_oc ?_
  refine z_aload C dX3_init_4 rfl rfl ?_
  refine z_lconst (v := 0) C dX3_init_5 (by decide +kernel) ?_
  refine z_put (i := 0) C hin fz_RX3_7 dX3_init_6 rfl rfl rfl (Nat.le_of_ble_eq_true rfl) ?_
  change Zx o 9 [some (.ref h0)] [] [(h0, .inr (3, [.long 0, .long 0]))] 0 (0)
  refine z_aload C dX3_init_9 rfl rfl ?_
  refine z_lconst (v := 1) C dX3_init_10 (by decide +kernel) ?_
  refine z_put (i := 0) C hin fz_RX3_13 dX3_init_11 rfl rfl rfl (Nat.le_of_ble_eq_true rfl) ?_
  change Zx o 14 [some (.ref h0)] [] [(h0, .inr (3, [.long 0, .long 1]))] 0 (0)
  exact fin 14 _ (fun _ => 0) _ _ (Nat.le_refl _) (Nat.le_refl _) dX3_init_14
def wX4 : ClassId → ClassId → Nat → (Nat → Nat) → va_W := fun cI _ h0 u => [(h0, .inr (4, [.ref (u 1), .ref (u 2), .ref (u 3), .ref (u 5), .ref (u 7), .ref (u 9), .ref (u 11), .ref (u 13), .int 0, .int 0])), (u 1, .inl (cI, 8, .inl (fun _ => 0))), (u 2, .inl (cI, 8, .inl (fun _ => 0))), (u 3, .inr (7, [.int (nI 4), .int (nI 7), .ref (u 4), .int 0])), (u 4, .inl (cI, 28, .inl (fun _ => 0))), (u 5, .inr (7, [.int (nI 4), .int (nI 5), .ref (u 6), .int 0])), (u 6, .inl (cI, 20, .inl (fun _ => 0))), (u 7, .inr (7, [.int (nI 3), .int (nI 4), .ref (u 8), .int 0])), (u 8, .inl (cI, 12, .inl (fun _ => 0))), (u 9, .inr (7, [.int (nI 5), .int (nI 6), .ref (u 10), .int 0])), (u 10, .inl (cI, 30, .inl (fun _ => 0))), (u 11, .inr (7, [.int (nI 4), .int (nI 6), .ref (u 12), .int 0])), (u 12, .inl (cI, 24, .inl (fun _ => 0))), (u 13, .inr (7, [.int (nI 15), .int (nI 8), .ref (u 14), .int 0])), (u 14, .inl (cI, 120, .inl (fun _ => 0)))]
set_option maxHeartbeats 4000000 in
set_option maxRecDepth 100000 in
theorem kn_X4  : KN yX4_init cX4_init 1 2 34 14 (274) 4 [.null, .null, .null, .null, .null, .null, .null, .null, .int 0, .int 0] wX4 [] := by
  refine cn_of (by decide +kernel) rfl (fun h0 => [some (.ref h0)]) (fun h0 => by have h := lx_entry (.ref h0 :: []) (nL := 1) (fun α => Nat.le_of_ble_eq_true rfl) id; exact h) (fun o h0 C hin fin => ?_)
  refine z_aload C dX4_init_0 rfl rfl ?_
  refine z_obj C dX4_init_1 tz_ob_RX4 ⟨Nat.le_of_ble_eq_true rfl, Nat.le_of_ble_eq_true rfl⟩ tz_oi tz_oc ?_
  refine z_aload C dX4_init_4 rfl rfl ?_
  refine z_bipush (v := nI 8) C dX4_init_5 (by decide +kernel) ?_
  refine z_newI (N := 8) C tz_aI dX4_init_7 (nI_pos (by omega)) (ix_n (by omega)) (by omega) ⟨Nat.le_of_ble_eq_true rfl, Nat.le_of_ble_eq_true rfl⟩ (fun q1 => ?_)
  change Zx o 9 [some (.ref h0)] [.ref q1, .ref h0] ((h0, .inr (4, [.null, .null, .null, .null, .null, .null, .null, .null, .int 0, .int 0])) :: [(q1, .inl (o.2.2.1.2.1, 8, .inl (fun _ => 0)))]) 1 (8)
  refine z_put (i := 0) C hin fz_RX4_9 dX4_init_9 rfl rfl rfl (Nat.le_of_ble_eq_true rfl) ?_
  change Zx o 12 [some (.ref h0)] [] ((h0, .inr (4, [.ref q1, .null, .null, .null, .null, .null, .null, .null, .int 0, .int 0])) :: [(q1, .inl (o.2.2.1.2.1, 8, .inl (fun _ => 0)))]) 1 (8)
  refine z_aload C dX4_init_12 rfl rfl ?_
  refine z_bipush (v := nI 8) C dX4_init_13 (by decide +kernel) ?_
  refine z_newI (N := 8) C tz_aI dX4_init_15 (nI_pos (by omega)) (ix_n (by omega)) (by omega) ⟨Nat.le_of_ble_eq_true rfl, Nat.le_of_ble_eq_true rfl⟩ (fun q2 => ?_)
  change Zx o 17 [some (.ref h0)] [.ref q2, .ref h0] ((h0, .inr (4, [.ref q1, .null, .null, .null, .null, .null, .null, .null, .int 0, .int 0])) :: ([(q1, .inl (o.2.2.1.2.1, 8, .inl (fun _ => 0)))] ++ [(q2, .inl (o.2.2.1.2.1, 8, .inl (fun _ => 0)))])) 2 (16)
  refine z_put (i := 0) C hin fz_RX4_15 dX4_init_17 rfl rfl rfl (Nat.le_of_ble_eq_true rfl) ?_
  change Zx o 20 [some (.ref h0)] [] ((h0, .inr (4, [.ref q1, .ref q2, .null, .null, .null, .null, .null, .null, .int 0, .int 0])) :: ([(q1, .inl (o.2.2.1.2.1, 8, .inl (fun _ => 0)))] ++ [(q2, .inl (o.2.2.1.2.1, 8, .inl (fun _ => 0)))])) 2 (16)
  refine z_aload C dX4_init_20 rfl rfl ?_
  refine z_new C nz_RX4_18 dX4_init_21 ⟨Nat.le_of_ble_eq_true rfl, Nat.le_of_ble_eq_true rfl⟩ (fun q3 => ?_)
  change Zx o 24 [some (.ref h0)] [.ref q3, .ref h0] (((h0, .inr (4, [.ref q1, .ref q2, .null, .null, .null, .null, .null, .null, .int 0, .int 0])) :: ([(q1, .inl (o.2.2.1.2.1, 8, .inl (fun _ => 0)))] ++ [(q2, .inl (o.2.2.1.2.1, 8, .inl (fun _ => 0)))])) ++ [(q3, .inr (7, [.int 0, .int 0, .null, .int 0]))]) 3 (20)
  refine z_dup C dX4_init_24 ?_
  refine z_bipush (v := nI 7) C dX4_init_25 (by decide +kernel) ?_
  refine z_iconst (v := (nI 4)) C dX4_init_27 (by decide +kernel) ?_
  refine z_ctor C bz_RX4_20 (kn_X9 (l := 7) (w := 4) (N := 28) (by decide +kernel) (by decide +kernel) (by omega)) ⟨Nat.le_of_ble_eq_true rfl, Nat.le_of_ble_eq_true rfl⟩ ⟨Nat.le_of_ble_eq_true rfl, Nat.le_of_ble_eq_true rfl⟩ rfl (Nat.le_of_ble_eq_true rfl) rfl dX4_init_28 (fun u4 => ?_)
  change Zx o 31 [some (.ref h0)] [.ref q3, .ref h0] ((h0, .inr (4, [.ref q1, .ref q2, .null, .null, .null, .null, .null, .null, .int 0, .int 0])) :: (([(q1, .inl (o.2.2.1.2.1, 8, .inl (fun _ => 0)))] ++ [(q2, .inl (o.2.2.1.2.1, 8, .inl (fun _ => 0)))]) ++ (wX9 7 4 28 o.2.2.1.2.1 o.2.2.1.2.2.1 q3 u4))) 4 (48)
  refine z_put (i := 0) C hin fz_RX4_23 dX4_init_31 rfl rfl rfl (Nat.le_of_ble_eq_true rfl) ?_
  change Zx o 34 [some (.ref h0)] [] ((h0, .inr (4, [.ref q1, .ref q2, .ref q3, .null, .null, .null, .null, .null, .int 0, .int 0])) :: (([(q1, .inl (o.2.2.1.2.1, 8, .inl (fun _ => 0)))] ++ [(q2, .inl (o.2.2.1.2.1, 8, .inl (fun _ => 0)))]) ++ (wX9 7 4 28 o.2.2.1.2.1 o.2.2.1.2.2.1 q3 u4))) 4 (48)
  refine z_aload C dX4_init_34 rfl rfl ?_
  refine z_new C nz_RX4_18 dX4_init_35 ⟨Nat.le_of_ble_eq_true rfl, Nat.le_of_ble_eq_true rfl⟩ (fun q5 => ?_)
  change Zx o 38 [some (.ref h0)] [.ref q5, .ref h0] (((h0, .inr (4, [.ref q1, .ref q2, .ref q3, .null, .null, .null, .null, .null, .int 0, .int 0])) :: (([(q1, .inl (o.2.2.1.2.1, 8, .inl (fun _ => 0)))] ++ [(q2, .inl (o.2.2.1.2.1, 8, .inl (fun _ => 0)))]) ++ (wX9 7 4 28 o.2.2.1.2.1 o.2.2.1.2.2.1 q3 u4))) ++ [(q5, .inr (7, [.int 0, .int 0, .null, .int 0]))]) 5 (52)
  refine z_dup C dX4_init_38 ?_
  refine z_iconst (v := (nI 5)) C dX4_init_39 (by decide +kernel) ?_
  refine z_iconst (v := (nI 4)) C dX4_init_40 (by decide +kernel) ?_
  refine z_ctor C bz_RX4_20 (kn_X9 (l := 5) (w := 4) (N := 20) (by decide +kernel) (by decide +kernel) (by omega)) ⟨Nat.le_of_ble_eq_true rfl, Nat.le_of_ble_eq_true rfl⟩ ⟨Nat.le_of_ble_eq_true rfl, Nat.le_of_ble_eq_true rfl⟩ rfl (Nat.le_of_ble_eq_true rfl) rfl dX4_init_41 (fun u6 => ?_)
  change Zx o 44 [some (.ref h0)] [.ref q5, .ref h0] ((h0, .inr (4, [.ref q1, .ref q2, .ref q3, .null, .null, .null, .null, .null, .int 0, .int 0])) :: ((([(q1, .inl (o.2.2.1.2.1, 8, .inl (fun _ => 0)))] ++ [(q2, .inl (o.2.2.1.2.1, 8, .inl (fun _ => 0)))]) ++ (wX9 7 4 28 o.2.2.1.2.1 o.2.2.1.2.2.1 q3 u4)) ++ (wX9 5 4 20 o.2.2.1.2.1 o.2.2.1.2.2.1 q5 u6))) 6 (72)
  refine z_put (i := 0) C hin fz_RX4_27 dX4_init_44 rfl rfl rfl (Nat.le_of_ble_eq_true rfl) ?_
  change Zx o 47 [some (.ref h0)] [] ((h0, .inr (4, [.ref q1, .ref q2, .ref q3, .ref q5, .null, .null, .null, .null, .int 0, .int 0])) :: ((([(q1, .inl (o.2.2.1.2.1, 8, .inl (fun _ => 0)))] ++ [(q2, .inl (o.2.2.1.2.1, 8, .inl (fun _ => 0)))]) ++ (wX9 7 4 28 o.2.2.1.2.1 o.2.2.1.2.2.1 q3 u4)) ++ (wX9 5 4 20 o.2.2.1.2.1 o.2.2.1.2.2.1 q5 u6))) 6 (72)
  refine z_aload C dX4_init_47 rfl rfl ?_
  refine z_new C nz_RX4_18 dX4_init_48 ⟨Nat.le_of_ble_eq_true rfl, Nat.le_of_ble_eq_true rfl⟩ (fun q7 => ?_)
  change Zx o 51 [some (.ref h0)] [.ref q7, .ref h0] (((h0, .inr (4, [.ref q1, .ref q2, .ref q3, .ref q5, .null, .null, .null, .null, .int 0, .int 0])) :: ((([(q1, .inl (o.2.2.1.2.1, 8, .inl (fun _ => 0)))] ++ [(q2, .inl (o.2.2.1.2.1, 8, .inl (fun _ => 0)))]) ++ (wX9 7 4 28 o.2.2.1.2.1 o.2.2.1.2.2.1 q3 u4)) ++ (wX9 5 4 20 o.2.2.1.2.1 o.2.2.1.2.2.1 q5 u6))) ++ [(q7, .inr (7, [.int 0, .int 0, .null, .int 0]))]) 7 (76)
  refine z_dup C dX4_init_51 ?_
  refine z_iconst (v := (nI 4)) C dX4_init_52 (by decide +kernel) ?_
  refine z_iconst (v := (nI 3)) C dX4_init_53 (by decide +kernel) ?_
  refine z_ctor C bz_RX4_20 (kn_X9 (l := 4) (w := 3) (N := 12) (by decide +kernel) (by decide +kernel) (by omega)) ⟨Nat.le_of_ble_eq_true rfl, Nat.le_of_ble_eq_true rfl⟩ ⟨Nat.le_of_ble_eq_true rfl, Nat.le_of_ble_eq_true rfl⟩ rfl (Nat.le_of_ble_eq_true rfl) rfl dX4_init_54 (fun u8 => ?_)
  change Zx o 57 [some (.ref h0)] [.ref q7, .ref h0] ((h0, .inr (4, [.ref q1, .ref q2, .ref q3, .ref q5, .null, .null, .null, .null, .int 0, .int 0])) :: (((([(q1, .inl (o.2.2.1.2.1, 8, .inl (fun _ => 0)))] ++ [(q2, .inl (o.2.2.1.2.1, 8, .inl (fun _ => 0)))]) ++ (wX9 7 4 28 o.2.2.1.2.1 o.2.2.1.2.2.1 q3 u4)) ++ (wX9 5 4 20 o.2.2.1.2.1 o.2.2.1.2.2.1 q5 u6)) ++ (wX9 4 3 12 o.2.2.1.2.1 o.2.2.1.2.2.1 q7 u8))) 8 (88)
  refine z_put (i := 0) C hin fz_RX4_30 dX4_init_57 rfl rfl rfl (Nat.le_of_ble_eq_true rfl) ?_
  change Zx o 60 [some (.ref h0)] [] ((h0, .inr (4, [.ref q1, .ref q2, .ref q3, .ref q5, .ref q7, .null, .null, .null, .int 0, .int 0])) :: (((([(q1, .inl (o.2.2.1.2.1, 8, .inl (fun _ => 0)))] ++ [(q2, .inl (o.2.2.1.2.1, 8, .inl (fun _ => 0)))]) ++ (wX9 7 4 28 o.2.2.1.2.1 o.2.2.1.2.2.1 q3 u4)) ++ (wX9 5 4 20 o.2.2.1.2.1 o.2.2.1.2.2.1 q5 u6)) ++ (wX9 4 3 12 o.2.2.1.2.1 o.2.2.1.2.2.1 q7 u8))) 8 (88)
  refine z_aload C dX4_init_60 rfl rfl ?_
  refine z_new C nz_RX4_18 dX4_init_61 ⟨Nat.le_of_ble_eq_true rfl, Nat.le_of_ble_eq_true rfl⟩ (fun q9 => ?_)
  change Zx o 64 [some (.ref h0)] [.ref q9, .ref h0] (((h0, .inr (4, [.ref q1, .ref q2, .ref q3, .ref q5, .ref q7, .null, .null, .null, .int 0, .int 0])) :: (((([(q1, .inl (o.2.2.1.2.1, 8, .inl (fun _ => 0)))] ++ [(q2, .inl (o.2.2.1.2.1, 8, .inl (fun _ => 0)))]) ++ (wX9 7 4 28 o.2.2.1.2.1 o.2.2.1.2.2.1 q3 u4)) ++ (wX9 5 4 20 o.2.2.1.2.1 o.2.2.1.2.2.1 q5 u6)) ++ (wX9 4 3 12 o.2.2.1.2.1 o.2.2.1.2.2.1 q7 u8))) ++ [(q9, .inr (7, [.int 0, .int 0, .null, .int 0]))]) 9 (92)
  refine z_dup C dX4_init_64 ?_
  refine z_bipush (v := nI 6) C dX4_init_65 (by decide +kernel) ?_
  refine z_iconst (v := (nI 5)) C dX4_init_67 (by decide +kernel) ?_
  refine z_ctor C bz_RX4_20 (kn_X9 (l := 6) (w := 5) (N := 30) (by decide +kernel) (by decide +kernel) (by omega)) ⟨Nat.le_of_ble_eq_true rfl, Nat.le_of_ble_eq_true rfl⟩ ⟨Nat.le_of_ble_eq_true rfl, Nat.le_of_ble_eq_true rfl⟩ rfl (Nat.le_of_ble_eq_true rfl) rfl dX4_init_68 (fun u10 => ?_)
  change Zx o 71 [some (.ref h0)] [.ref q9, .ref h0] ((h0, .inr (4, [.ref q1, .ref q2, .ref q3, .ref q5, .ref q7, .null, .null, .null, .int 0, .int 0])) :: ((((([(q1, .inl (o.2.2.1.2.1, 8, .inl (fun _ => 0)))] ++ [(q2, .inl (o.2.2.1.2.1, 8, .inl (fun _ => 0)))]) ++ (wX9 7 4 28 o.2.2.1.2.1 o.2.2.1.2.2.1 q3 u4)) ++ (wX9 5 4 20 o.2.2.1.2.1 o.2.2.1.2.2.1 q5 u6)) ++ (wX9 4 3 12 o.2.2.1.2.1 o.2.2.1.2.2.1 q7 u8)) ++ (wX9 6 5 30 o.2.2.1.2.1 o.2.2.1.2.2.1 q9 u10))) 10 (122)
  refine z_put (i := 0) C hin fz_RX4_33 dX4_init_71 rfl rfl rfl (Nat.le_of_ble_eq_true rfl) ?_
  change Zx o 74 [some (.ref h0)] [] ((h0, .inr (4, [.ref q1, .ref q2, .ref q3, .ref q5, .ref q7, .ref q9, .null, .null, .int 0, .int 0])) :: ((((([(q1, .inl (o.2.2.1.2.1, 8, .inl (fun _ => 0)))] ++ [(q2, .inl (o.2.2.1.2.1, 8, .inl (fun _ => 0)))]) ++ (wX9 7 4 28 o.2.2.1.2.1 o.2.2.1.2.2.1 q3 u4)) ++ (wX9 5 4 20 o.2.2.1.2.1 o.2.2.1.2.2.1 q5 u6)) ++ (wX9 4 3 12 o.2.2.1.2.1 o.2.2.1.2.2.1 q7 u8)) ++ (wX9 6 5 30 o.2.2.1.2.1 o.2.2.1.2.2.1 q9 u10))) 10 (122)
  refine z_aload C dX4_init_74 rfl rfl ?_
  refine z_new C nz_RX4_18 dX4_init_75 ⟨Nat.le_of_ble_eq_true rfl, Nat.le_of_ble_eq_true rfl⟩ (fun q11 => ?_)
  change Zx o 78 [some (.ref h0)] [.ref q11, .ref h0] (((h0, .inr (4, [.ref q1, .ref q2, .ref q3, .ref q5, .ref q7, .ref q9, .null, .null, .int 0, .int 0])) :: ((((([(q1, .inl (o.2.2.1.2.1, 8, .inl (fun _ => 0)))] ++ [(q2, .inl (o.2.2.1.2.1, 8, .inl (fun _ => 0)))]) ++ (wX9 7 4 28 o.2.2.1.2.1 o.2.2.1.2.2.1 q3 u4)) ++ (wX9 5 4 20 o.2.2.1.2.1 o.2.2.1.2.2.1 q5 u6)) ++ (wX9 4 3 12 o.2.2.1.2.1 o.2.2.1.2.2.1 q7 u8)) ++ (wX9 6 5 30 o.2.2.1.2.1 o.2.2.1.2.2.1 q9 u10))) ++ [(q11, .inr (7, [.int 0, .int 0, .null, .int 0]))]) 11 (126)
  refine z_dup C dX4_init_78 ?_
  refine z_bipush (v := nI 6) C dX4_init_79 (by decide +kernel) ?_
  refine z_iconst (v := (nI 4)) C dX4_init_81 (by decide +kernel) ?_
  refine z_ctor C bz_RX4_20 (kn_X9 (l := 6) (w := 4) (N := 24) (by decide +kernel) (by decide +kernel) (by omega)) ⟨Nat.le_of_ble_eq_true rfl, Nat.le_of_ble_eq_true rfl⟩ ⟨Nat.le_of_ble_eq_true rfl, Nat.le_of_ble_eq_true rfl⟩ rfl (Nat.le_of_ble_eq_true rfl) rfl dX4_init_82 (fun u12 => ?_)
  change Zx o 85 [some (.ref h0)] [.ref q11, .ref h0] ((h0, .inr (4, [.ref q1, .ref q2, .ref q3, .ref q5, .ref q7, .ref q9, .null, .null, .int 0, .int 0])) :: (((((([(q1, .inl (o.2.2.1.2.1, 8, .inl (fun _ => 0)))] ++ [(q2, .inl (o.2.2.1.2.1, 8, .inl (fun _ => 0)))]) ++ (wX9 7 4 28 o.2.2.1.2.1 o.2.2.1.2.2.1 q3 u4)) ++ (wX9 5 4 20 o.2.2.1.2.1 o.2.2.1.2.2.1 q5 u6)) ++ (wX9 4 3 12 o.2.2.1.2.1 o.2.2.1.2.2.1 q7 u8)) ++ (wX9 6 5 30 o.2.2.1.2.1 o.2.2.1.2.2.1 q9 u10)) ++ (wX9 6 4 24 o.2.2.1.2.1 o.2.2.1.2.2.1 q11 u12))) 12 (150)
  refine z_put (i := 0) C hin fz_RX4_36 dX4_init_85 rfl rfl rfl (Nat.le_of_ble_eq_true rfl) ?_
  change Zx o 88 [some (.ref h0)] [] ((h0, .inr (4, [.ref q1, .ref q2, .ref q3, .ref q5, .ref q7, .ref q9, .ref q11, .null, .int 0, .int 0])) :: (((((([(q1, .inl (o.2.2.1.2.1, 8, .inl (fun _ => 0)))] ++ [(q2, .inl (o.2.2.1.2.1, 8, .inl (fun _ => 0)))]) ++ (wX9 7 4 28 o.2.2.1.2.1 o.2.2.1.2.2.1 q3 u4)) ++ (wX9 5 4 20 o.2.2.1.2.1 o.2.2.1.2.2.1 q5 u6)) ++ (wX9 4 3 12 o.2.2.1.2.1 o.2.2.1.2.2.1 q7 u8)) ++ (wX9 6 5 30 o.2.2.1.2.1 o.2.2.1.2.2.1 q9 u10)) ++ (wX9 6 4 24 o.2.2.1.2.1 o.2.2.1.2.2.1 q11 u12))) 12 (150)
  refine z_aload C dX4_init_88 rfl rfl ?_
  refine z_new C nz_RX4_18 dX4_init_89 ⟨Nat.le_of_ble_eq_true rfl, Nat.le_of_ble_eq_true rfl⟩ (fun q13 => ?_)
  change Zx o 92 [some (.ref h0)] [.ref q13, .ref h0] (((h0, .inr (4, [.ref q1, .ref q2, .ref q3, .ref q5, .ref q7, .ref q9, .ref q11, .null, .int 0, .int 0])) :: (((((([(q1, .inl (o.2.2.1.2.1, 8, .inl (fun _ => 0)))] ++ [(q2, .inl (o.2.2.1.2.1, 8, .inl (fun _ => 0)))]) ++ (wX9 7 4 28 o.2.2.1.2.1 o.2.2.1.2.2.1 q3 u4)) ++ (wX9 5 4 20 o.2.2.1.2.1 o.2.2.1.2.2.1 q5 u6)) ++ (wX9 4 3 12 o.2.2.1.2.1 o.2.2.1.2.2.1 q7 u8)) ++ (wX9 6 5 30 o.2.2.1.2.1 o.2.2.1.2.2.1 q9 u10)) ++ (wX9 6 4 24 o.2.2.1.2.1 o.2.2.1.2.2.1 q11 u12))) ++ [(q13, .inr (7, [.int 0, .int 0, .null, .int 0]))]) 13 (154)
  refine z_dup C dX4_init_92 ?_
  refine z_bipush (v := nI 8) C dX4_init_93 (by decide +kernel) ?_
  refine z_bipush (v := nI 15) C dX4_init_95 (by decide +kernel) ?_
  refine z_ctor C bz_RX4_20 (kn_X9 (l := 8) (w := 15) (N := 120) (by decide +kernel) (by decide +kernel) (by omega)) ⟨Nat.le_of_ble_eq_true rfl, Nat.le_of_ble_eq_true rfl⟩ ⟨Nat.le_of_ble_eq_true rfl, Nat.le_of_ble_eq_true rfl⟩ rfl (Nat.le_of_ble_eq_true rfl) rfl dX4_init_97 (fun u14 => ?_)
  change Zx o 100 [some (.ref h0)] [.ref q13, .ref h0] ((h0, .inr (4, [.ref q1, .ref q2, .ref q3, .ref q5, .ref q7, .ref q9, .ref q11, .null, .int 0, .int 0])) :: ((((((([(q1, .inl (o.2.2.1.2.1, 8, .inl (fun _ => 0)))] ++ [(q2, .inl (o.2.2.1.2.1, 8, .inl (fun _ => 0)))]) ++ (wX9 7 4 28 o.2.2.1.2.1 o.2.2.1.2.2.1 q3 u4)) ++ (wX9 5 4 20 o.2.2.1.2.1 o.2.2.1.2.2.1 q5 u6)) ++ (wX9 4 3 12 o.2.2.1.2.1 o.2.2.1.2.2.1 q7 u8)) ++ (wX9 6 5 30 o.2.2.1.2.1 o.2.2.1.2.2.1 q9 u10)) ++ (wX9 6 4 24 o.2.2.1.2.1 o.2.2.1.2.2.1 q11 u12)) ++ (wX9 8 15 120 o.2.2.1.2.1 o.2.2.1.2.2.1 q13 u14))) 14 (274)
  refine z_put (i := 0) C hin fz_RX4_39 dX4_init_100 rfl rfl rfl (Nat.le_of_ble_eq_true rfl) ?_
  change Zx o 103 [some (.ref h0)] [] ((h0, .inr (4, [.ref q1, .ref q2, .ref q3, .ref q5, .ref q7, .ref q9, .ref q11, .ref q13, .int 0, .int 0])) :: ((((((([(q1, .inl (o.2.2.1.2.1, 8, .inl (fun _ => 0)))] ++ [(q2, .inl (o.2.2.1.2.1, 8, .inl (fun _ => 0)))]) ++ (wX9 7 4 28 o.2.2.1.2.1 o.2.2.1.2.2.1 q3 u4)) ++ (wX9 5 4 20 o.2.2.1.2.1 o.2.2.1.2.2.1 q5 u6)) ++ (wX9 4 3 12 o.2.2.1.2.1 o.2.2.1.2.2.1 q7 u8)) ++ (wX9 6 5 30 o.2.2.1.2.1 o.2.2.1.2.2.1 q9 u10)) ++ (wX9 6 4 24 o.2.2.1.2.1 o.2.2.1.2.2.1 q11 u12)) ++ (wX9 8 15 120 o.2.2.1.2.1 o.2.2.1.2.2.1 q13 u14))) 14 (274)
  exact fin 103 _ (fun c => [0, q1, q2, q3, u4 0, q5, u6 0, q7, u8 0, q9, u10 0, q11, u12 0, q13, u14 0].getD c 0) _ _ (Nat.le_refl _) (Nat.le_refl _) dX4_init_103
def wX7 (ta tb : Nat) : ClassId → ClassId → Nat → (Nat → Nat) → va_W := fun cI cZ h0 u => (h0, .inr (5, [.ref ta, .ref tb, .ref (u 1), .int 0, .int 0, .int 0, .int 0])) :: wX4 cI cZ (u 1) (fun i => u (1 + i))
set_option maxHeartbeats 4000000 in
set_option maxRecDepth 100000 in
theorem kn_X7 {ta tb : Nat} : KN yX7_init cX7_init 3 3 54 15 (284) 5 [.null, .null, .null, .int 0, .int 0, .int 0, .int 0] (wX7 ta tb) [.ref ta, .ref tb] := by
  refine cn_of (by decide +kernel) rfl (fun h0 => [some (.ref h0), some (.ref ta), some (.ref tb)]) (fun h0 => by have h := lx_entry (.ref h0 :: [.ref ta, .ref tb]) (nL := 3) (fun α => Nat.le_of_ble_eq_true rfl) id; exact h) (fun o h0 C hin fin => ?_)
  refine z_aload C dX7_init_0 rfl rfl ?_
  refine z_obj C dX7_init_1 tz_ob_RX7 ⟨Nat.le_of_ble_eq_true rfl, Nat.le_of_ble_eq_true rfl⟩ tz_oi tz_oc ?_
  refine z_aload C dX7_init_4 rfl rfl ?_
  refine z_new C nz_RX7_9 dX7_init_5 ⟨Nat.le_of_ble_eq_true rfl, Nat.le_of_ble_eq_true rfl⟩ (fun q1 => ?_)
  change Zx o 8 [some (.ref h0), some (.ref ta), some (.ref tb)] [.ref q1, .ref h0] ([(h0, .inr (5, [.null, .null, .null, .int 0, .int 0, .int 0, .int 0]))] ++ [(q1, .inr (4, [.null, .null, .null, .null, .null, .null, .null, .null, .int 0, .int 0]))]) 1 (10)
  refine z_dup C dX7_init_8 ?_
  refine z_ctor C bz_RX7_11 kn_X4 ⟨Nat.le_of_ble_eq_true rfl, Nat.le_of_ble_eq_true rfl⟩ ⟨Nat.le_of_ble_eq_true rfl, Nat.le_of_ble_eq_true rfl⟩ rfl (Nat.le_of_ble_eq_true rfl) rfl dX7_init_9 (fun u2 => ?_)
  change Zx o 12 [some (.ref h0), some (.ref ta), some (.ref tb)] [.ref q1, .ref h0] ((h0, .inr (5, [.null, .null, .null, .int 0, .int 0, .int 0, .int 0])) :: (wX4 o.2.2.1.2.1 o.2.2.1.2.2.1 q1 u2)) 15 (284)
  refine z_put (i := 0) C hin fz_RX7_12 dX7_init_12 rfl rfl rfl (Nat.le_of_ble_eq_true rfl) ?_
  change Zx o 15 [some (.ref h0), some (.ref ta), some (.ref tb)] [] ((h0, .inr (5, [.null, .null, .ref q1, .int 0, .int 0, .int 0, .int 0])) :: (wX4 o.2.2.1.2.1 o.2.2.1.2.2.1 q1 u2)) 15 (284)
  refine z_aload C dX7_init_15 rfl rfl ?_
  refine z_aload C dX7_init_16 rfl rfl ?_
  refine z_put (i := 0) C hin fz_RX7_18 dX7_init_17 rfl rfl rfl (Nat.le_of_ble_eq_true rfl) ?_
  change Zx o 20 [some (.ref h0), some (.ref ta), some (.ref tb)] [] ((h0, .inr (5, [.ref ta, .null, .ref q1, .int 0, .int 0, .int 0, .int 0])) :: (wX4 o.2.2.1.2.1 o.2.2.1.2.2.1 q1 u2)) 15 (284)
  refine z_aload C dX7_init_20 rfl rfl ?_
  refine z_aload C dX7_init_21 rfl rfl ?_
  refine z_put (i := 0) C hin fz_RX7_22 dX7_init_22 rfl rfl rfl (Nat.le_of_ble_eq_true rfl) ?_
  change Zx o 25 [some (.ref h0), some (.ref ta), some (.ref tb)] [] ((h0, .inr (5, [.ref ta, .ref tb, .ref q1, .int 0, .int 0, .int 0, .int 0])) :: (wX4 o.2.2.1.2.1 o.2.2.1.2.2.1 q1 u2)) 15 (284)
  exact fin 25 _ (fun c => if c = 1 then q1 else u2 (c - 1)) _ _ (Nat.le_refl _) (Nat.le_refl _) dX7_init_25
def wX2 (tb : Nat) : ClassId → ClassId → Nat → (Nat → Nat) → va_W := fun cI cZ h0 u => [(h0, .inr (2, [.ref tb, .ref (u 1), .ref (u 3), .int 0, .int 0])), (u 1, .inr (7, [.int (nI 4), .int (nI 7), .ref (u 2), .int 0])), (u 2, .inl (cI, 28, .inl (fun _ => 0))), (u 3, .inl (cI, 128, .inl (fun _ => 0)))]
set_option maxHeartbeats 4000000 in
set_option maxRecDepth 100000 in
theorem kn_X2 {tb : Nat} : KN yX2_init cX2_init 2 2 34 3 (160) 2 [.null, .null, .null, .int 0, .int 0] (wX2 tb) [.ref tb] := by
  refine cn_of (by decide +kernel) rfl (fun h0 => [some (.ref h0), some (.ref tb)]) (fun h0 => by have h := lx_entry (.ref h0 :: [.ref tb]) (nL := 2) (fun α => Nat.le_of_ble_eq_true rfl) id; exact h) (fun o h0 C hin fin => ?_)
  refine z_aload C dX2_init_0 rfl rfl ?_
  refine z_obj C dX2_init_1 tz_ob_RX2 ⟨Nat.le_of_ble_eq_true rfl, Nat.le_of_ble_eq_true rfl⟩ tz_oi tz_oc ?_
  refine z_aload C dX2_init_4 rfl rfl ?_
  refine z_new C nz_RX2_9 dX2_init_5 ⟨Nat.le_of_ble_eq_true rfl, Nat.le_of_ble_eq_true rfl⟩ (fun q1 => ?_)
  change Zx o 8 [some (.ref h0), some (.ref tb)] [.ref q1, .ref h0] ([(h0, .inr (2, [.null, .null, .null, .int 0, .int 0]))] ++ [(q1, .inr (7, [.int 0, .int 0, .null, .int 0]))]) 1 (4)
  refine z_dup C dX2_init_8 ?_
  refine z_bipush (v := nI 7) C dX2_init_9 (by decide +kernel) ?_
  refine z_iconst (v := (nI 4)) C dX2_init_11 (by decide +kernel) ?_
  refine z_ctor C bz_RX2_11 (kn_X9 (l := 7) (w := 4) (N := 28) (by decide +kernel) (by decide +kernel) (by omega)) ⟨Nat.le_of_ble_eq_true rfl, Nat.le_of_ble_eq_true rfl⟩ ⟨Nat.le_of_ble_eq_true rfl, Nat.le_of_ble_eq_true rfl⟩ rfl (Nat.le_of_ble_eq_true rfl) rfl dX2_init_12 (fun u2 => ?_)
  change Zx o 15 [some (.ref h0), some (.ref tb)] [.ref q1, .ref h0] ((h0, .inr (2, [.null, .null, .null, .int 0, .int 0])) :: (wX9 7 4 28 o.2.2.1.2.1 o.2.2.1.2.2.1 q1 u2)) 2 (32)
  refine z_put (i := 0) C hin fz_RX2_14 dX2_init_15 rfl rfl rfl (Nat.le_of_ble_eq_true rfl) ?_
  change Zx o 18 [some (.ref h0), some (.ref tb)] [] ((h0, .inr (2, [.null, .ref q1, .null, .int 0, .int 0])) :: (wX9 7 4 28 o.2.2.1.2.1 o.2.2.1.2.2.1 q1 u2)) 2 (32)
  refine z_aload C dX2_init_18 rfl rfl ?_
  refine z_sipush (v := nI 128) C dX2_init_19 (by decide +kernel) ?_
  refine z_newI (N := 128) C tz_aI dX2_init_22 (nI_pos (by omega)) (ix_n (by omega)) (by omega) ⟨Nat.le_of_ble_eq_true rfl, Nat.le_of_ble_eq_true rfl⟩ (fun q3 => ?_)
  change Zx o 24 [some (.ref h0), some (.ref tb)] [.ref q3, .ref h0] ((h0, .inr (2, [.null, .ref q1, .null, .int 0, .int 0])) :: ((wX9 7 4 28 o.2.2.1.2.1 o.2.2.1.2.2.1 q1 u2) ++ [(q3, .inl (o.2.2.1.2.1, 128, .inl (fun _ => 0)))])) 3 (160)
  refine z_put (i := 0) C hin fz_RX2_20 dX2_init_24 rfl rfl rfl (Nat.le_of_ble_eq_true rfl) ?_
  change Zx o 27 [some (.ref h0), some (.ref tb)] [] ((h0, .inr (2, [.null, .ref q1, .ref q3, .int 0, .int 0])) :: ((wX9 7 4 28 o.2.2.1.2.1 o.2.2.1.2.2.1 q1 u2) ++ [(q3, .inl (o.2.2.1.2.1, 128, .inl (fun _ => 0)))])) 3 (160)
  refine z_aload C dX2_init_27 rfl rfl ?_
  refine z_aload C dX2_init_28 rfl rfl ?_
  refine z_put (i := 0) C hin fz_RX2_24 dX2_init_29 rfl rfl rfl (Nat.le_of_ble_eq_true rfl) ?_
  change Zx o 32 [some (.ref h0), some (.ref tb)] [] ((h0, .inr (2, [.ref tb, .ref q1, .ref q3, .int 0, .int 0])) :: ((wX9 7 4 28 o.2.2.1.2.1 o.2.2.1.2.2.1 q1 u2) ++ [(q3, .inl (o.2.2.1.2.1, 128, .inl (fun _ => 0)))])) 3 (160)
  exact fin 32 _ (fun c => [0, q1, u2 0, q3].getD c 0) _ _ (Nat.le_refl _) (Nat.le_refl _) dX2_init_32
def wX1 (tb : Nat) : ClassId → ClassId → Nat → (Nat → Nat) → va_W := fun cI cZ h0 u => [(h0, .inr (1, [.ref tb, .ref (u 1), .int 0, .int 0, .int 0])), (u 1, .inl (cI, 6, .inl (fun _ => 0)))]
set_option maxHeartbeats 4000000 in
set_option maxRecDepth 100000 in
theorem kn_X1 {tb : Nat} : KN yX1_init cX1_init 2 1 12 1 (6) 1 [.null, .null, .int 0, .int 0, .int 0] (wX1 tb) [.ref tb] := by
  refine cn_of (by decide +kernel) rfl (fun h0 => [some (.ref h0), some (.ref tb)]) (fun h0 => by have h := lx_entry (.ref h0 :: [.ref tb]) (nL := 2) (fun α => Nat.le_of_ble_eq_true rfl) id; exact h) (fun o h0 C hin fin => ?_)
  refine z_aload C dX1_init_0 rfl rfl ?_
  refine z_obj C dX1_init_1 tz_ob_RX1 ⟨Nat.le_of_ble_eq_true rfl, Nat.le_of_ble_eq_true rfl⟩ tz_oi tz_oc ?_
  refine z_aload C dX1_init_4 rfl rfl ?_
  refine z_bipush (v := nI 6) C dX1_init_5 (by decide +kernel) ?_
  refine z_newI (N := 6) C tz_aI dX1_init_7 (nI_pos (by omega)) (ix_n (by omega)) (by omega) ⟨Nat.le_of_ble_eq_true rfl, Nat.le_of_ble_eq_true rfl⟩ (fun q1 => ?_)
  change Zx o 9 [some (.ref h0), some (.ref tb)] [.ref q1, .ref h0] ((h0, .inr (1, [.null, .null, .int 0, .int 0, .int 0])) :: [(q1, .inl (o.2.2.1.2.1, 6, .inl (fun _ => 0)))]) 1 (6)
  refine z_put (i := 0) C hin fz_RX1_9 dX1_init_9 rfl rfl rfl (Nat.le_of_ble_eq_true rfl) ?_
  change Zx o 12 [some (.ref h0), some (.ref tb)] [] ((h0, .inr (1, [.null, .ref q1, .int 0, .int 0, .int 0])) :: [(q1, .inl (o.2.2.1.2.1, 6, .inl (fun _ => 0)))]) 1 (6)
  refine z_aload C dX1_init_12 rfl rfl ?_
  refine z_aload C dX1_init_13 rfl rfl ?_
  refine z_put (i := 0) C hin fz_RX1_15 dX1_init_14 rfl rfl rfl (Nat.le_of_ble_eq_true rfl) ?_
  change Zx o 17 [some (.ref h0), some (.ref tb)] [] ((h0, .inr (1, [.ref tb, .ref q1, .int 0, .int 0, .int 0])) :: [(q1, .inl (o.2.2.1.2.1, 6, .inl (fun _ => 0)))]) 1 (6)
  exact fin 17 _ (fun c => [0, q1].getD c 0) _ _ (Nat.le_refl _) (Nat.le_refl _) dX1_init_17
def wX11 : ClassId → ClassId → Nat → (Nat → Nat) → va_W := fun cI cZ h0 u => (h0, .inr (9, [.ref (u 1), .ref (u 16), .ref (u 31), .int 0, .int 0, .ref (u 46), .ref (u 48), .ref (u 52), .ref (u 68), .ref (u 72), .ref (u 75), .ref (u 77), .int 0, .int 0, .int 0])) :: ((((((((((wX4 cI cZ (u 1) (fun i => u (1 + i))) ++ (wX4 cI cZ (u 16) (fun i => u (16 + i)))) ++ (wX4 cI cZ (u 31) (fun i => u (31 + i)))) ++ (wX10 cI cZ (u 46) (fun i => u (47 + i)))) ++ (wX0 cI cZ (u 48) (fun i => u (48 + i)))) ++ (wX7 (u 46) (u 48) cI cZ (u 52) (fun i => u (52 + i)))) ++ (wX2 (u 48) cI cZ (u 68) (fun i => u (68 + i)))) ++ (wX8 cI cZ (u 72) (fun i => u (72 + i)))) ++ (wX1 (u 48) cI cZ (u 75) (fun i => u (75 + i)))) ++ (wX3 cI cZ (u 77) (fun i => u (77 + i))))
set_option maxHeartbeats 4000000 in
set_option maxRecDepth 100000 in
theorem kn_X11  : KN yX11_init cX11_init 1 4 76 77 (1521) 9 [.null, .null, .null, .int 0, .int 0, .null, .null, .null, .null, .null, .null, .null, .int 0, .int 0, .int 0] wX11 [] := by
  refine cn_of (by decide +kernel) rfl (fun h0 => [some (.ref h0)]) (fun h0 => by have h := lx_entry (.ref h0 :: []) (nL := 1) (fun α => Nat.le_of_ble_eq_true rfl) id; exact h) (fun o h0 C hin fin => ?_)
  refine z_aload C dX11_init_0 rfl rfl ?_
  refine z_obj C dX11_init_1 tz_ob_RX11 ⟨Nat.le_of_ble_eq_true rfl, Nat.le_of_ble_eq_true rfl⟩ tz_oi tz_oc ?_
  refine z_aload C dX11_init_4 rfl rfl ?_
  refine z_new C nz_RX11_9 dX11_init_5 ⟨Nat.le_of_ble_eq_true rfl, Nat.le_of_ble_eq_true rfl⟩ (fun q1 => ?_)
  change Zx o 8 [some (.ref h0)] [.ref q1, .ref h0] ([(h0, .inr (9, [.null, .null, .null, .int 0, .int 0, .null, .null, .null, .null, .null, .null, .null, .int 0, .int 0, .int 0]))] ++ [(q1, .inr (4, [.null, .null, .null, .null, .null, .null, .null, .null, .int 0, .int 0]))]) 1 (10)
  refine z_dup C dX11_init_8 ?_
  refine z_ctor C bz_RX11_11 kn_X4 ⟨Nat.le_of_ble_eq_true rfl, Nat.le_of_ble_eq_true rfl⟩ ⟨Nat.le_of_ble_eq_true rfl, Nat.le_of_ble_eq_true rfl⟩ rfl (Nat.le_of_ble_eq_true rfl) rfl dX11_init_9 (fun u2 => ?_)
  change Zx o 12 [some (.ref h0)] [.ref q1, .ref h0] ((h0, .inr (9, [.null, .null, .null, .int 0, .int 0, .null, .null, .null, .null, .null, .null, .null, .int 0, .int 0, .int 0])) :: (wX4 o.2.2.1.2.1 o.2.2.1.2.2.1 q1 u2)) 15 (284)
  refine z_put (i := 0) C hin fz_RX11_12 dX11_init_12 rfl rfl rfl (Nat.le_of_ble_eq_true rfl) ?_
  change Zx o 15 [some (.ref h0)] [] ((h0, .inr (9, [.ref q1, .null, .null, .int 0, .int 0, .null, .null, .null, .null, .null, .null, .null, .int 0, .int 0, .int 0])) :: (wX4 o.2.2.1.2.1 o.2.2.1.2.2.1 q1 u2)) 15 (284)
  refine z_aload C dX11_init_15 rfl rfl ?_
  refine z_new C nz_RX11_9 dX11_init_16 ⟨Nat.le_of_ble_eq_true rfl, Nat.le_of_ble_eq_true rfl⟩ (fun q3 => ?_)
  change Zx o 19 [some (.ref h0)] [.ref q3, .ref h0] (((h0, .inr (9, [.ref q1, .null, .null, .int 0, .int 0, .null, .null, .null, .null, .null, .null, .null, .int 0, .int 0, .int 0])) :: (wX4 o.2.2.1.2.1 o.2.2.1.2.2.1 q1 u2)) ++ [(q3, .inr (4, [.null, .null, .null, .null, .null, .null, .null, .null, .int 0, .int 0]))]) 16 (294)
  refine z_dup C dX11_init_19 ?_
  refine z_ctor C bz_RX11_11 kn_X4 ⟨Nat.le_of_ble_eq_true rfl, Nat.le_of_ble_eq_true rfl⟩ ⟨Nat.le_of_ble_eq_true rfl, Nat.le_of_ble_eq_true rfl⟩ rfl (Nat.le_of_ble_eq_true rfl) rfl dX11_init_20 (fun u4 => ?_)
  change Zx o 23 [some (.ref h0)] [.ref q3, .ref h0] ((h0, .inr (9, [.ref q1, .null, .null, .int 0, .int 0, .null, .null, .null, .null, .null, .null, .null, .int 0, .int 0, .int 0])) :: ((wX4 o.2.2.1.2.1 o.2.2.1.2.2.1 q1 u2) ++ (wX4 o.2.2.1.2.1 o.2.2.1.2.2.1 q3 u4))) 30 (568)
  refine z_put (i := 0) C hin fz_RX11_16 dX11_init_23 rfl rfl rfl (Nat.le_of_ble_eq_true rfl) ?_
  change Zx o 26 [some (.ref h0)] [] ((h0, .inr (9, [.ref q1, .ref q3, .null, .int 0, .int 0, .null, .null, .null, .null, .null, .null, .null, .int 0, .int 0, .int 0])) :: ((wX4 o.2.2.1.2.1 o.2.2.1.2.2.1 q1 u2) ++ (wX4 o.2.2.1.2.1 o.2.2.1.2.2.1 q3 u4))) 30 (568)
  refine z_aload C dX11_init_26 rfl rfl ?_
  refine z_new C nz_RX11_9 dX11_init_27 ⟨Nat.le_of_ble_eq_true rfl, Nat.le_of_ble_eq_true rfl⟩ (fun q5 => ?_)
  change Zx o 30 [some (.ref h0)] [.ref q5, .ref h0] (((h0, .inr (9, [.ref q1, .ref q3, .null, .int 0, .int 0, .null, .null, .null, .null, .null, .null, .null, .int 0, .int 0, .int 0])) :: ((wX4 o.2.2.1.2.1 o.2.2.1.2.2.1 q1 u2) ++ (wX4 o.2.2.1.2.1 o.2.2.1.2.2.1 q3 u4))) ++ [(q5, .inr (4, [.null, .null, .null, .null, .null, .null, .null, .null, .int 0, .int 0]))]) 31 (578)
  refine z_dup C dX11_init_30 ?_
  refine z_ctor C bz_RX11_11 kn_X4 ⟨Nat.le_of_ble_eq_true rfl, Nat.le_of_ble_eq_true rfl⟩ ⟨Nat.le_of_ble_eq_true rfl, Nat.le_of_ble_eq_true rfl⟩ rfl (Nat.le_of_ble_eq_true rfl) rfl dX11_init_31 (fun u6 => ?_)
  change Zx o 34 [some (.ref h0)] [.ref q5, .ref h0] ((h0, .inr (9, [.ref q1, .ref q3, .null, .int 0, .int 0, .null, .null, .null, .null, .null, .null, .null, .int 0, .int 0, .int 0])) :: (((wX4 o.2.2.1.2.1 o.2.2.1.2.2.1 q1 u2) ++ (wX4 o.2.2.1.2.1 o.2.2.1.2.2.1 q3 u4)) ++ (wX4 o.2.2.1.2.1 o.2.2.1.2.2.1 q5 u6))) 45 (852)
  refine z_put (i := 0) C hin fz_RX11_19 dX11_init_34 rfl rfl rfl (Nat.le_of_ble_eq_true rfl) ?_
  change Zx o 37 [some (.ref h0)] [] ((h0, .inr (9, [.ref q1, .ref q3, .ref q5, .int 0, .int 0, .null, .null, .null, .null, .null, .null, .null, .int 0, .int 0, .int 0])) :: (((wX4 o.2.2.1.2.1 o.2.2.1.2.2.1 q1 u2) ++ (wX4 o.2.2.1.2.1 o.2.2.1.2.2.1 q3 u4)) ++ (wX4 o.2.2.1.2.1 o.2.2.1.2.2.1 q5 u6))) 45 (852)
  refine z_aload C dX11_init_37 rfl rfl ?_
  refine z_new C nz_RX11_22 dX11_init_38 ⟨Nat.le_of_ble_eq_true rfl, Nat.le_of_ble_eq_true rfl⟩ (fun q7 => ?_)
  change Zx o 41 [some (.ref h0)] [.ref q7, .ref h0] (((h0, .inr (9, [.ref q1, .ref q3, .ref q5, .int 0, .int 0, .null, .null, .null, .null, .null, .null, .null, .int 0, .int 0, .int 0])) :: (((wX4 o.2.2.1.2.1 o.2.2.1.2.2.1 q1 u2) ++ (wX4 o.2.2.1.2.1 o.2.2.1.2.2.1 q3 u4)) ++ (wX4 o.2.2.1.2.1 o.2.2.1.2.2.1 q5 u6))) ++ [(q7, .inr (8, [.null, .int 0]))]) 46 (854)
  refine z_dup C dX11_init_41 ?_
  refine z_ctor C bz_RX11_24 kn_X10 ⟨Nat.le_of_ble_eq_true rfl, Nat.le_of_ble_eq_true rfl⟩ ⟨Nat.le_of_ble_eq_true rfl, Nat.le_of_ble_eq_true rfl⟩ rfl (Nat.le_of_ble_eq_true rfl) rfl dX11_init_42 (fun u8 => ?_)
  change Zx o 45 [some (.ref h0)] [.ref q7, .ref h0] ((h0, .inr (9, [.ref q1, .ref q3, .ref q5, .int 0, .int 0, .null, .null, .null, .null, .null, .null, .null, .int 0, .int 0, .int 0])) :: ((((wX4 o.2.2.1.2.1 o.2.2.1.2.2.1 q1 u2) ++ (wX4 o.2.2.1.2.1 o.2.2.1.2.2.1 q3 u4)) ++ (wX4 o.2.2.1.2.1 o.2.2.1.2.2.1 q5 u6)) ++ (wX10 o.2.2.1.2.1 o.2.2.1.2.2.1 q7 u8))) 47 (1004)
  refine z_put (i := 0) C hin fz_RX11_25 dX11_init_45 rfl rfl rfl (Nat.le_of_ble_eq_true rfl) ?_
  change Zx o 48 [some (.ref h0)] [] ((h0, .inr (9, [.ref q1, .ref q3, .ref q5, .int 0, .int 0, .ref q7, .null, .null, .null, .null, .null, .null, .int 0, .int 0, .int 0])) :: ((((wX4 o.2.2.1.2.1 o.2.2.1.2.2.1 q1 u2) ++ (wX4 o.2.2.1.2.1 o.2.2.1.2.2.1 q3 u4)) ++ (wX4 o.2.2.1.2.1 o.2.2.1.2.2.1 q5 u6)) ++ (wX10 o.2.2.1.2.1 o.2.2.1.2.2.1 q7 u8))) 47 (1004)
  refine z_aload C dX11_init_48 rfl rfl ?_
  refine z_new C nz_RX11_29 dX11_init_49 ⟨Nat.le_of_ble_eq_true rfl, Nat.le_of_ble_eq_true rfl⟩ (fun q9 => ?_)
  change Zx o 52 [some (.ref h0)] [.ref q9, .ref h0] (((h0, .inr (9, [.ref q1, .ref q3, .ref q5, .int 0, .int 0, .ref q7, .null, .null, .null, .null, .null, .null, .int 0, .int 0, .int 0])) :: ((((wX4 o.2.2.1.2.1 o.2.2.1.2.2.1 q1 u2) ++ (wX4 o.2.2.1.2.1 o.2.2.1.2.2.1 q3 u4)) ++ (wX4 o.2.2.1.2.1 o.2.2.1.2.2.1 q5 u6)) ++ (wX10 o.2.2.1.2.1 o.2.2.1.2.2.1 q7 u8))) ++ [(q9, .inr (0, [.null, .null, .null]))]) 48 (1007)
  refine z_dup C dX11_init_52 ?_
  refine z_ctor C bz_RX11_31 kn_X0 ⟨Nat.le_of_ble_eq_true rfl, Nat.le_of_ble_eq_true rfl⟩ ⟨Nat.le_of_ble_eq_true rfl, Nat.le_of_ble_eq_true rfl⟩ rfl (Nat.le_of_ble_eq_true rfl) rfl dX11_init_53 (fun u10 => ?_)
  change Zx o 56 [some (.ref h0)] [.ref q9, .ref h0] ((h0, .inr (9, [.ref q1, .ref q3, .ref q5, .int 0, .int 0, .ref q7, .null, .null, .null, .null, .null, .null, .int 0, .int 0, .int 0])) :: (((((wX4 o.2.2.1.2.1 o.2.2.1.2.2.1 q1 u2) ++ (wX4 o.2.2.1.2.1 o.2.2.1.2.2.1 q3 u4)) ++ (wX4 o.2.2.1.2.1 o.2.2.1.2.2.1 q5 u6)) ++ (wX10 o.2.2.1.2.1 o.2.2.1.2.2.1 q7 u8)) ++ (wX0 o.2.2.1.2.1 o.2.2.1.2.2.1 q9 u10))) 51 (1038)
  refine z_put (i := 0) C hin fz_RX11_32 dX11_init_56 rfl rfl rfl (Nat.le_of_ble_eq_true rfl) ?_
  change Zx o 59 [some (.ref h0)] [] ((h0, .inr (9, [.ref q1, .ref q3, .ref q5, .int 0, .int 0, .ref q7, .ref q9, .null, .null, .null, .null, .null, .int 0, .int 0, .int 0])) :: (((((wX4 o.2.2.1.2.1 o.2.2.1.2.2.1 q1 u2) ++ (wX4 o.2.2.1.2.1 o.2.2.1.2.2.1 q3 u4)) ++ (wX4 o.2.2.1.2.1 o.2.2.1.2.2.1 q5 u6)) ++ (wX10 o.2.2.1.2.1 o.2.2.1.2.2.1 q7 u8)) ++ (wX0 o.2.2.1.2.1 o.2.2.1.2.2.1 q9 u10))) 51 (1038)
  refine z_aload C dX11_init_59 rfl rfl ?_
  refine z_new C nz_RX11_36 dX11_init_60 ⟨Nat.le_of_ble_eq_true rfl, Nat.le_of_ble_eq_true rfl⟩ (fun q11 => ?_)
  change Zx o 63 [some (.ref h0)] [.ref q11, .ref h0] (((h0, .inr (9, [.ref q1, .ref q3, .ref q5, .int 0, .int 0, .ref q7, .ref q9, .null, .null, .null, .null, .null, .int 0, .int 0, .int 0])) :: (((((wX4 o.2.2.1.2.1 o.2.2.1.2.2.1 q1 u2) ++ (wX4 o.2.2.1.2.1 o.2.2.1.2.2.1 q3 u4)) ++ (wX4 o.2.2.1.2.1 o.2.2.1.2.2.1 q5 u6)) ++ (wX10 o.2.2.1.2.1 o.2.2.1.2.2.1 q7 u8)) ++ (wX0 o.2.2.1.2.1 o.2.2.1.2.2.1 q9 u10))) ++ [(q11, .inr (5, [.null, .null, .null, .int 0, .int 0, .int 0, .int 0]))]) 52 (1045)
  refine z_dup C dX11_init_63 ?_
  refine z_aload C dX11_init_64 rfl rfl ?_
  refine z_get (i := 0) (v := .ref q7) C fz_RX11_25 dX11_init_65 rfl rfl ?_
  refine z_aload C dX11_init_68 rfl rfl ?_
  refine z_get (i := 0) (v := .ref q9) C fz_RX11_32 dX11_init_69 rfl rfl ?_
  refine z_ctor C bz_RX11_38 (kn_X7 (ta := q7) (tb := q9)) ⟨Nat.le_of_ble_eq_true rfl, Nat.le_of_ble_eq_true rfl⟩ ⟨Nat.le_of_ble_eq_true rfl, Nat.le_of_ble_eq_true rfl⟩ rfl (Nat.le_of_ble_eq_true rfl) rfl dX11_init_72 (fun u12 => ?_)
  change Zx o 75 [some (.ref h0)] [.ref q11, .ref h0] ((h0, .inr (9, [.ref q1, .ref q3, .ref q5, .int 0, .int 0, .ref q7, .ref q9, .null, .null, .null, .null, .null, .int 0, .int 0, .int 0])) :: ((((((wX4 o.2.2.1.2.1 o.2.2.1.2.2.1 q1 u2) ++ (wX4 o.2.2.1.2.1 o.2.2.1.2.2.1 q3 u4)) ++ (wX4 o.2.2.1.2.1 o.2.2.1.2.2.1 q5 u6)) ++ (wX10 o.2.2.1.2.1 o.2.2.1.2.2.1 q7 u8)) ++ (wX0 o.2.2.1.2.1 o.2.2.1.2.2.1 q9 u10)) ++ (wX7 q7 q9 o.2.2.1.2.1 o.2.2.1.2.2.1 q11 u12))) 67 (1329)
  refine z_put (i := 0) C hin fz_RX11_41 dX11_init_75 rfl rfl rfl (Nat.le_of_ble_eq_true rfl) ?_
  change Zx o 78 [some (.ref h0)] [] ((h0, .inr (9, [.ref q1, .ref q3, .ref q5, .int 0, .int 0, .ref q7, .ref q9, .ref q11, .null, .null, .null, .null, .int 0, .int 0, .int 0])) :: ((((((wX4 o.2.2.1.2.1 o.2.2.1.2.2.1 q1 u2) ++ (wX4 o.2.2.1.2.1 o.2.2.1.2.2.1 q3 u4)) ++ (wX4 o.2.2.1.2.1 o.2.2.1.2.2.1 q5 u6)) ++ (wX10 o.2.2.1.2.1 o.2.2.1.2.2.1 q7 u8)) ++ (wX0 o.2.2.1.2.1 o.2.2.1.2.2.1 q9 u10)) ++ (wX7 q7 q9 o.2.2.1.2.1 o.2.2.1.2.2.1 q11 u12))) 67 (1329)
  refine z_aload C dX11_init_78 rfl rfl ?_
  refine z_new C nz_RX11_45 dX11_init_79 ⟨Nat.le_of_ble_eq_true rfl, Nat.le_of_ble_eq_true rfl⟩ (fun q13 => ?_)
  change Zx o 82 [some (.ref h0)] [.ref q13, .ref h0] (((h0, .inr (9, [.ref q1, .ref q3, .ref q5, .int 0, .int 0, .ref q7, .ref q9, .ref q11, .null, .null, .null, .null, .int 0, .int 0, .int 0])) :: ((((((wX4 o.2.2.1.2.1 o.2.2.1.2.2.1 q1 u2) ++ (wX4 o.2.2.1.2.1 o.2.2.1.2.2.1 q3 u4)) ++ (wX4 o.2.2.1.2.1 o.2.2.1.2.2.1 q5 u6)) ++ (wX10 o.2.2.1.2.1 o.2.2.1.2.2.1 q7 u8)) ++ (wX0 o.2.2.1.2.1 o.2.2.1.2.2.1 q9 u10)) ++ (wX7 q7 q9 o.2.2.1.2.1 o.2.2.1.2.2.1 q11 u12))) ++ [(q13, .inr (2, [.null, .null, .null, .int 0, .int 0]))]) 68 (1334)
  refine z_dup C dX11_init_82 ?_
  refine z_aload C dX11_init_83 rfl rfl ?_
  refine z_get (i := 0) (v := .ref q9) C fz_RX11_32 dX11_init_84 rfl rfl ?_
  refine z_ctor C bz_RX11_47 (kn_X2 (tb := q9)) ⟨Nat.le_of_ble_eq_true rfl, Nat.le_of_ble_eq_true rfl⟩ ⟨Nat.le_of_ble_eq_true rfl, Nat.le_of_ble_eq_true rfl⟩ rfl (Nat.le_of_ble_eq_true rfl) rfl dX11_init_87 (fun u14 => ?_)
  change Zx o 90 [some (.ref h0)] [.ref q13, .ref h0] ((h0, .inr (9, [.ref q1, .ref q3, .ref q5, .int 0, .int 0, .ref q7, .ref q9, .ref q11, .null, .null, .null, .null, .int 0, .int 0, .int 0])) :: (((((((wX4 o.2.2.1.2.1 o.2.2.1.2.2.1 q1 u2) ++ (wX4 o.2.2.1.2.1 o.2.2.1.2.2.1 q3 u4)) ++ (wX4 o.2.2.1.2.1 o.2.2.1.2.2.1 q5 u6)) ++ (wX10 o.2.2.1.2.1 o.2.2.1.2.2.1 q7 u8)) ++ (wX0 o.2.2.1.2.1 o.2.2.1.2.2.1 q9 u10)) ++ (wX7 q7 q9 o.2.2.1.2.1 o.2.2.1.2.2.1 q11 u12)) ++ (wX2 q9 o.2.2.1.2.1 o.2.2.1.2.2.1 q13 u14))) 71 (1494)
  refine z_put (i := 0) C hin fz_RX11_50 dX11_init_90 rfl rfl rfl (Nat.le_of_ble_eq_true rfl) ?_
  change Zx o 93 [some (.ref h0)] [] ((h0, .inr (9, [.ref q1, .ref q3, .ref q5, .int 0, .int 0, .ref q7, .ref q9, .ref q11, .ref q13, .null, .null, .null, .int 0, .int 0, .int 0])) :: (((((((wX4 o.2.2.1.2.1 o.2.2.1.2.2.1 q1 u2) ++ (wX4 o.2.2.1.2.1 o.2.2.1.2.2.1 q3 u4)) ++ (wX4 o.2.2.1.2.1 o.2.2.1.2.2.1 q5 u6)) ++ (wX10 o.2.2.1.2.1 o.2.2.1.2.2.1 q7 u8)) ++ (wX0 o.2.2.1.2.1 o.2.2.1.2.2.1 q9 u10)) ++ (wX7 q7 q9 o.2.2.1.2.1 o.2.2.1.2.2.1 q11 u12)) ++ (wX2 q9 o.2.2.1.2.1 o.2.2.1.2.2.1 q13 u14))) 71 (1494)
  refine z_aload C dX11_init_93 rfl rfl ?_
  refine z_new C nz_RX11_54 dX11_init_94 ⟨Nat.le_of_ble_eq_true rfl, Nat.le_of_ble_eq_true rfl⟩ (fun q15 => ?_)
  change Zx o 97 [some (.ref h0)] [.ref q15, .ref h0] (((h0, .inr (9, [.ref q1, .ref q3, .ref q5, .int 0, .int 0, .ref q7, .ref q9, .ref q11, .ref q13, .null, .null, .null, .int 0, .int 0, .int 0])) :: (((((((wX4 o.2.2.1.2.1 o.2.2.1.2.2.1 q1 u2) ++ (wX4 o.2.2.1.2.1 o.2.2.1.2.2.1 q3 u4)) ++ (wX4 o.2.2.1.2.1 o.2.2.1.2.2.1 q5 u6)) ++ (wX10 o.2.2.1.2.1 o.2.2.1.2.2.1 q7 u8)) ++ (wX0 o.2.2.1.2.1 o.2.2.1.2.2.1 q9 u10)) ++ (wX7 q7 q9 o.2.2.1.2.1 o.2.2.1.2.2.1 q11 u12)) ++ (wX2 q9 o.2.2.1.2.1 o.2.2.1.2.2.1 q13 u14))) ++ [(q15, .inr (6, [.null, .null, .int 0, .int 0]))]) 72 (1498)
  refine z_dup C dX11_init_97 ?_
  refine z_ctor C bz_RX11_56 kn_X8 ⟨Nat.le_of_ble_eq_true rfl, Nat.le_of_ble_eq_true rfl⟩ ⟨Nat.le_of_ble_eq_true rfl, Nat.le_of_ble_eq_true rfl⟩ rfl (Nat.le_of_ble_eq_true rfl) rfl dX11_init_98 (fun u16 => ?_)
  change Zx o 101 [some (.ref h0)] [.ref q15, .ref h0] ((h0, .inr (9, [.ref q1, .ref q3, .ref q5, .int 0, .int 0, .ref q7, .ref q9, .ref q11, .ref q13, .null, .null, .null, .int 0, .int 0, .int 0])) :: ((((((((wX4 o.2.2.1.2.1 o.2.2.1.2.2.1 q1 u2) ++ (wX4 o.2.2.1.2.1 o.2.2.1.2.2.1 q3 u4)) ++ (wX4 o.2.2.1.2.1 o.2.2.1.2.2.1 q5 u6)) ++ (wX10 o.2.2.1.2.1 o.2.2.1.2.2.1 q7 u8)) ++ (wX0 o.2.2.1.2.1 o.2.2.1.2.2.1 q9 u10)) ++ (wX7 q7 q9 o.2.2.1.2.1 o.2.2.1.2.2.1 q11 u12)) ++ (wX2 q9 o.2.2.1.2.1 o.2.2.1.2.2.1 q13 u14)) ++ (wX8 o.2.2.1.2.1 o.2.2.1.2.2.1 q15 u16))) 74 (1508)
  refine z_put (i := 0) C hin fz_RX11_57 dX11_init_101 rfl rfl rfl (Nat.le_of_ble_eq_true rfl) ?_
  change Zx o 104 [some (.ref h0)] [] ((h0, .inr (9, [.ref q1, .ref q3, .ref q5, .int 0, .int 0, .ref q7, .ref q9, .ref q11, .ref q13, .ref q15, .null, .null, .int 0, .int 0, .int 0])) :: ((((((((wX4 o.2.2.1.2.1 o.2.2.1.2.2.1 q1 u2) ++ (wX4 o.2.2.1.2.1 o.2.2.1.2.2.1 q3 u4)) ++ (wX4 o.2.2.1.2.1 o.2.2.1.2.2.1 q5 u6)) ++ (wX10 o.2.2.1.2.1 o.2.2.1.2.2.1 q7 u8)) ++ (wX0 o.2.2.1.2.1 o.2.2.1.2.2.1 q9 u10)) ++ (wX7 q7 q9 o.2.2.1.2.1 o.2.2.1.2.2.1 q11 u12)) ++ (wX2 q9 o.2.2.1.2.1 o.2.2.1.2.2.1 q13 u14)) ++ (wX8 o.2.2.1.2.1 o.2.2.1.2.2.1 q15 u16))) 74 (1508)
  refine z_aload C dX11_init_104 rfl rfl ?_
  refine z_new C nz_RX11_61 dX11_init_105 ⟨Nat.le_of_ble_eq_true rfl, Nat.le_of_ble_eq_true rfl⟩ (fun q17 => ?_)
  change Zx o 108 [some (.ref h0)] [.ref q17, .ref h0] (((h0, .inr (9, [.ref q1, .ref q3, .ref q5, .int 0, .int 0, .ref q7, .ref q9, .ref q11, .ref q13, .ref q15, .null, .null, .int 0, .int 0, .int 0])) :: ((((((((wX4 o.2.2.1.2.1 o.2.2.1.2.2.1 q1 u2) ++ (wX4 o.2.2.1.2.1 o.2.2.1.2.2.1 q3 u4)) ++ (wX4 o.2.2.1.2.1 o.2.2.1.2.2.1 q5 u6)) ++ (wX10 o.2.2.1.2.1 o.2.2.1.2.2.1 q7 u8)) ++ (wX0 o.2.2.1.2.1 o.2.2.1.2.2.1 q9 u10)) ++ (wX7 q7 q9 o.2.2.1.2.1 o.2.2.1.2.2.1 q11 u12)) ++ (wX2 q9 o.2.2.1.2.1 o.2.2.1.2.2.1 q13 u14)) ++ (wX8 o.2.2.1.2.1 o.2.2.1.2.2.1 q15 u16))) ++ [(q17, .inr (1, [.null, .null, .int 0, .int 0, .int 0]))]) 75 (1513)
  refine z_dup C dX11_init_108 ?_
  refine z_aload C dX11_init_109 rfl rfl ?_
  refine z_get (i := 0) (v := .ref q9) C fz_RX11_32 dX11_init_110 rfl rfl ?_
  refine z_ctor C bz_RX11_63 (kn_X1 (tb := q9)) ⟨Nat.le_of_ble_eq_true rfl, Nat.le_of_ble_eq_true rfl⟩ ⟨Nat.le_of_ble_eq_true rfl, Nat.le_of_ble_eq_true rfl⟩ rfl (Nat.le_of_ble_eq_true rfl) rfl dX11_init_113 (fun u18 => ?_)
  change Zx o 116 [some (.ref h0)] [.ref q17, .ref h0] ((h0, .inr (9, [.ref q1, .ref q3, .ref q5, .int 0, .int 0, .ref q7, .ref q9, .ref q11, .ref q13, .ref q15, .null, .null, .int 0, .int 0, .int 0])) :: (((((((((wX4 o.2.2.1.2.1 o.2.2.1.2.2.1 q1 u2) ++ (wX4 o.2.2.1.2.1 o.2.2.1.2.2.1 q3 u4)) ++ (wX4 o.2.2.1.2.1 o.2.2.1.2.2.1 q5 u6)) ++ (wX10 o.2.2.1.2.1 o.2.2.1.2.2.1 q7 u8)) ++ (wX0 o.2.2.1.2.1 o.2.2.1.2.2.1 q9 u10)) ++ (wX7 q7 q9 o.2.2.1.2.1 o.2.2.1.2.2.1 q11 u12)) ++ (wX2 q9 o.2.2.1.2.1 o.2.2.1.2.2.1 q13 u14)) ++ (wX8 o.2.2.1.2.1 o.2.2.1.2.2.1 q15 u16)) ++ (wX1 q9 o.2.2.1.2.1 o.2.2.1.2.2.1 q17 u18))) 76 (1519)
  refine z_put (i := 0) C hin fz_RX11_64 dX11_init_116 rfl rfl rfl (Nat.le_of_ble_eq_true rfl) ?_
  change Zx o 119 [some (.ref h0)] [] ((h0, .inr (9, [.ref q1, .ref q3, .ref q5, .int 0, .int 0, .ref q7, .ref q9, .ref q11, .ref q13, .ref q15, .ref q17, .null, .int 0, .int 0, .int 0])) :: (((((((((wX4 o.2.2.1.2.1 o.2.2.1.2.2.1 q1 u2) ++ (wX4 o.2.2.1.2.1 o.2.2.1.2.2.1 q3 u4)) ++ (wX4 o.2.2.1.2.1 o.2.2.1.2.2.1 q5 u6)) ++ (wX10 o.2.2.1.2.1 o.2.2.1.2.2.1 q7 u8)) ++ (wX0 o.2.2.1.2.1 o.2.2.1.2.2.1 q9 u10)) ++ (wX7 q7 q9 o.2.2.1.2.1 o.2.2.1.2.2.1 q11 u12)) ++ (wX2 q9 o.2.2.1.2.1 o.2.2.1.2.2.1 q13 u14)) ++ (wX8 o.2.2.1.2.1 o.2.2.1.2.2.1 q15 u16)) ++ (wX1 q9 o.2.2.1.2.1 o.2.2.1.2.2.1 q17 u18))) 76 (1519)
  refine z_aload C dX11_init_119 rfl rfl ?_
  refine z_new C nz_RX11_68 dX11_init_120 ⟨Nat.le_of_ble_eq_true rfl, Nat.le_of_ble_eq_true rfl⟩ (fun q19 => ?_)
  change Zx o 123 [some (.ref h0)] [.ref q19, .ref h0] (((h0, .inr (9, [.ref q1, .ref q3, .ref q5, .int 0, .int 0, .ref q7, .ref q9, .ref q11, .ref q13, .ref q15, .ref q17, .null, .int 0, .int 0, .int 0])) :: (((((((((wX4 o.2.2.1.2.1 o.2.2.1.2.2.1 q1 u2) ++ (wX4 o.2.2.1.2.1 o.2.2.1.2.2.1 q3 u4)) ++ (wX4 o.2.2.1.2.1 o.2.2.1.2.2.1 q5 u6)) ++ (wX10 o.2.2.1.2.1 o.2.2.1.2.2.1 q7 u8)) ++ (wX0 o.2.2.1.2.1 o.2.2.1.2.2.1 q9 u10)) ++ (wX7 q7 q9 o.2.2.1.2.1 o.2.2.1.2.2.1 q11 u12)) ++ (wX2 q9 o.2.2.1.2.1 o.2.2.1.2.2.1 q13 u14)) ++ (wX8 o.2.2.1.2.1 o.2.2.1.2.2.1 q15 u16)) ++ (wX1 q9 o.2.2.1.2.1 o.2.2.1.2.2.1 q17 u18))) ++ [(q19, .inr (3, [.long 0, .long 0]))]) 77 (1521)
  refine z_dup C dX11_init_123 ?_
  refine z_ctor C bz_RX11_70 kn_X3 ⟨Nat.le_of_ble_eq_true rfl, Nat.le_of_ble_eq_true rfl⟩ ⟨Nat.le_of_ble_eq_true rfl, Nat.le_of_ble_eq_true rfl⟩ rfl (Nat.le_of_ble_eq_true rfl) rfl dX11_init_124 (fun u20 => ?_)
  change Zx o 127 [some (.ref h0)] [.ref q19, .ref h0] ((h0, .inr (9, [.ref q1, .ref q3, .ref q5, .int 0, .int 0, .ref q7, .ref q9, .ref q11, .ref q13, .ref q15, .ref q17, .null, .int 0, .int 0, .int 0])) :: ((((((((((wX4 o.2.2.1.2.1 o.2.2.1.2.2.1 q1 u2) ++ (wX4 o.2.2.1.2.1 o.2.2.1.2.2.1 q3 u4)) ++ (wX4 o.2.2.1.2.1 o.2.2.1.2.2.1 q5 u6)) ++ (wX10 o.2.2.1.2.1 o.2.2.1.2.2.1 q7 u8)) ++ (wX0 o.2.2.1.2.1 o.2.2.1.2.2.1 q9 u10)) ++ (wX7 q7 q9 o.2.2.1.2.1 o.2.2.1.2.2.1 q11 u12)) ++ (wX2 q9 o.2.2.1.2.1 o.2.2.1.2.2.1 q13 u14)) ++ (wX8 o.2.2.1.2.1 o.2.2.1.2.2.1 q15 u16)) ++ (wX1 q9 o.2.2.1.2.1 o.2.2.1.2.2.1 q17 u18)) ++ (wX3 o.2.2.1.2.1 o.2.2.1.2.2.1 q19 u20))) 77 (1521)
  refine z_put (i := 0) C hin fz_RX11_71 dX11_init_127 rfl rfl rfl (Nat.le_of_ble_eq_true rfl) ?_
  change Zx o 130 [some (.ref h0)] [] ((h0, .inr (9, [.ref q1, .ref q3, .ref q5, .int 0, .int 0, .ref q7, .ref q9, .ref q11, .ref q13, .ref q15, .ref q17, .ref q19, .int 0, .int 0, .int 0])) :: ((((((((((wX4 o.2.2.1.2.1 o.2.2.1.2.2.1 q1 u2) ++ (wX4 o.2.2.1.2.1 o.2.2.1.2.2.1 q3 u4)) ++ (wX4 o.2.2.1.2.1 o.2.2.1.2.2.1 q5 u6)) ++ (wX10 o.2.2.1.2.1 o.2.2.1.2.2.1 q7 u8)) ++ (wX0 o.2.2.1.2.1 o.2.2.1.2.2.1 q9 u10)) ++ (wX7 q7 q9 o.2.2.1.2.1 o.2.2.1.2.2.1 q11 u12)) ++ (wX2 q9 o.2.2.1.2.1 o.2.2.1.2.2.1 q13 u14)) ++ (wX8 o.2.2.1.2.1 o.2.2.1.2.2.1 q15 u16)) ++ (wX1 q9 o.2.2.1.2.1 o.2.2.1.2.2.1 q17 u18)) ++ (wX3 o.2.2.1.2.1 o.2.2.1.2.2.1 q19 u20))) 77 (1521)
  exact fin 130 _ (fun c => [0, q1, u2 1, u2 2, u2 3, u2 4, u2 5, u2 6, u2 7, u2 8, u2 9, u2 10, u2 11, u2 12, u2 13, u2 14, q3, u4 1, u4 2, u4 3, u4 4, u4 5, u4 6, u4 7, u4 8, u4 9, u4 10, u4 11, u4 12, u4 13, u4 14, q5, u6 1, u6 2, u6 3, u6 4, u6 5, u6 6, u6 7, u6 8, u6 9, u6 10, u6 11, u6 12, u6 13, u6 14, q7, u8 0, q9, u10 1, u10 2, u10 3, q11, u12 1, u12 2, u12 3, u12 4, u12 5, u12 6, u12 7, u12 8, u12 9, u12 10, u12 11, u12 12, u12 13, u12 14, u12 15, q13, u14 1, u14 2, u14 3, q15, u16 1, u16 2, q17, u18 1, q19].getD c 0) _ _ (Nat.le_refl _) (Nat.le_refl _) dX11_init_130
def wX12 : ClassId → ClassId → Nat → (Nat → Nat) → va_W := fun cI cZ h0 u => [(h0, .inr (10, [.ref (u 1), .ref (u 2), .ref (u 3), .ref (u 4), .long 0, .long 1, .ref (u 5), .ref (u 6), .ref (u 7), .ref (u 8), .ref (u 9), .int 0, .int 0, .int (-1), .int 0, .int 0, .ref (u 10), .ref (u 11), .ref (u 12)])), (u 1, .inl (cI, 378, .inl (fun _ => 0))), (u 2, .inl (cI, 378, .inl (fun _ => 0))), (u 3, .inl (cI, 756, .inl (fun _ => 0))), (u 4, .inl (cZ, 2, .inl (fun _ => 0))), (u 5, .inl (cI, 3, .inl (fun _ => 0))), (u 6, .inl (cI, 7, .inl (fun _ => 0))), (u 7, .inl (cI, 12, .inl (fun _ => 0))), (u 8, .inl (cI, 12, .inl (fun _ => 0))), (u 9, .inl (cI, 150, .inl (fun _ => 0))), (u 10, .inl (cI, 5, .inl (fun _ => 0))), (u 11, .inl (cI, 5, .inl (fun _ => 0))), (u 12, .inl (cI, 7, .inl (fun _ => 0)))]
set_option maxHeartbeats 4000000 in
set_option maxRecDepth 100000 in
theorem kn_X12  : KN yX12_init cX12_init 1 1 12 12 (1715) 10 [.null, .null, .null, .null, .long 0, .long 0, .null, .null, .null, .null, .null, .int 0, .int 0, .int 0, .int 0, .int 0, .null, .null, .null] wX12 [] := by
  refine cn_of (by decide +kernel) rfl (fun h0 => [some (.ref h0)]) (fun h0 => by have h := lx_entry (.ref h0 :: []) (nL := 1) (fun α => Nat.le_of_ble_eq_true rfl) id; exact h) (fun o h0 C hin fin => ?_)
  refine z_aload C dX12_init_0 rfl rfl ?_
  refine z_obj C dX12_init_1 tz_ob_RX12 ⟨Nat.le_of_ble_eq_true rfl, Nat.le_of_ble_eq_true rfl⟩ tz_oi tz_oc ?_
  refine z_aload C dX12_init_4 rfl rfl ?_
  refine z_sipush (v := nI 378) C dX12_init_5 (by decide +kernel) ?_
  refine z_newI (N := 378) C tz_aI dX12_init_8 (nI_pos (by omega)) (ix_n (by omega)) (by omega) ⟨Nat.le_of_ble_eq_true rfl, Nat.le_of_ble_eq_true rfl⟩ (fun q1 => ?_)
  change Zx o 10 [some (.ref h0)] [.ref q1, .ref h0] ((h0, .inr (10, [.null, .null, .null, .null, .long 0, .long 0, .null, .null, .null, .null, .null, .int 0, .int 0, .int 0, .int 0, .int 0, .null, .null, .null])) :: [(q1, .inl (o.2.2.1.2.1, 378, .inl (fun _ => 0)))]) 1 (378)
  refine z_put (i := 0) C hin fz_RX12_7 dX12_init_10 rfl rfl rfl (Nat.le_of_ble_eq_true rfl) ?_
  change Zx o 13 [some (.ref h0)] [] ((h0, .inr (10, [.ref q1, .null, .null, .null, .long 0, .long 0, .null, .null, .null, .null, .null, .int 0, .int 0, .int 0, .int 0, .int 0, .null, .null, .null])) :: [(q1, .inl (o.2.2.1.2.1, 378, .inl (fun _ => 0)))]) 1 (378)
  refine z_aload C dX12_init_13 rfl rfl ?_
  refine z_sipush (v := nI 378) C dX12_init_14 (by decide +kernel) ?_
  refine z_newI (N := 378) C tz_aI dX12_init_17 (nI_pos (by omega)) (ix_n (by omega)) (by omega) ⟨Nat.le_of_ble_eq_true rfl, Nat.le_of_ble_eq_true rfl⟩ (fun q2 => ?_)
  change Zx o 19 [some (.ref h0)] [.ref q2, .ref h0] ((h0, .inr (10, [.ref q1, .null, .null, .null, .long 0, .long 0, .null, .null, .null, .null, .null, .int 0, .int 0, .int 0, .int 0, .int 0, .null, .null, .null])) :: ([(q1, .inl (o.2.2.1.2.1, 378, .inl (fun _ => 0)))] ++ [(q2, .inl (o.2.2.1.2.1, 378, .inl (fun _ => 0)))])) 2 (756)
  refine z_put (i := 0) C hin fz_RX12_13 dX12_init_19 rfl rfl rfl (Nat.le_of_ble_eq_true rfl) ?_
  change Zx o 22 [some (.ref h0)] [] ((h0, .inr (10, [.ref q1, .ref q2, .null, .null, .long 0, .long 0, .null, .null, .null, .null, .null, .int 0, .int 0, .int 0, .int 0, .int 0, .null, .null, .null])) :: ([(q1, .inl (o.2.2.1.2.1, 378, .inl (fun _ => 0)))] ++ [(q2, .inl (o.2.2.1.2.1, 378, .inl (fun _ => 0)))])) 2 (756)
  refine z_aload C dX12_init_22 rfl rfl ?_
  refine z_sipush (v := nI 756) C dX12_init_23 (by decide +kernel) ?_
  refine z_newI (N := 756) C tz_aI dX12_init_26 (nI_pos (by omega)) (ix_n (by omega)) (by omega) ⟨Nat.le_of_ble_eq_true rfl, Nat.le_of_ble_eq_true rfl⟩ (fun q3 => ?_)
  change Zx o 28 [some (.ref h0)] [.ref q3, .ref h0] ((h0, .inr (10, [.ref q1, .ref q2, .null, .null, .long 0, .long 0, .null, .null, .null, .null, .null, .int 0, .int 0, .int 0, .int 0, .int 0, .null, .null, .null])) :: (([(q1, .inl (o.2.2.1.2.1, 378, .inl (fun _ => 0)))] ++ [(q2, .inl (o.2.2.1.2.1, 378, .inl (fun _ => 0)))]) ++ [(q3, .inl (o.2.2.1.2.1, 756, .inl (fun _ => 0)))])) 3 (1512)
  refine z_put (i := 0) C hin fz_RX12_16 dX12_init_28 rfl rfl rfl (Nat.le_of_ble_eq_true rfl) ?_
  change Zx o 31 [some (.ref h0)] [] ((h0, .inr (10, [.ref q1, .ref q2, .ref q3, .null, .long 0, .long 0, .null, .null, .null, .null, .null, .int 0, .int 0, .int 0, .int 0, .int 0, .null, .null, .null])) :: (([(q1, .inl (o.2.2.1.2.1, 378, .inl (fun _ => 0)))] ++ [(q2, .inl (o.2.2.1.2.1, 378, .inl (fun _ => 0)))]) ++ [(q3, .inl (o.2.2.1.2.1, 756, .inl (fun _ => 0)))])) 3 (1512)
  refine z_aload C dX12_init_31 rfl rfl ?_
  refine z_iconst (v := (nI 2)) C dX12_init_32 (by decide +kernel) ?_
  refine z_newZ (N := 2) C tz_aZ dX12_init_33 (nI_pos (by omega)) (ix_n (by omega)) (by omega) ⟨Nat.le_of_ble_eq_true rfl, Nat.le_of_ble_eq_true rfl⟩ (fun q4 => ?_)
  change Zx o 35 [some (.ref h0)] [.ref q4, .ref h0] ((h0, .inr (10, [.ref q1, .ref q2, .ref q3, .null, .long 0, .long 0, .null, .null, .null, .null, .null, .int 0, .int 0, .int 0, .int 0, .int 0, .null, .null, .null])) :: ((([(q1, .inl (o.2.2.1.2.1, 378, .inl (fun _ => 0)))] ++ [(q2, .inl (o.2.2.1.2.1, 378, .inl (fun _ => 0)))]) ++ [(q3, .inl (o.2.2.1.2.1, 756, .inl (fun _ => 0)))]) ++ [(q4, .inl (o.2.2.1.2.2.1, 2, .inl (fun _ => 0)))])) 4 (1514)
  refine z_put (i := 0) C hin fz_RX12_19 dX12_init_35 rfl rfl rfl (Nat.le_of_ble_eq_true rfl) ?_
  change Zx o 38 [some (.ref h0)] [] ((h0, .inr (10, [.ref q1, .ref q2, .ref q3, .ref q4, .long 0, .long 0, .null, .null, .null, .null, .null, .int 0, .int 0, .int 0, .int 0, .int 0, .null, .null, .null])) :: ((([(q1, .inl (o.2.2.1.2.1, 378, .inl (fun _ => 0)))] ++ [(q2, .inl (o.2.2.1.2.1, 378, .inl (fun _ => 0)))]) ++ [(q3, .inl (o.2.2.1.2.1, 756, .inl (fun _ => 0)))]) ++ [(q4, .inl (o.2.2.1.2.2.1, 2, .inl (fun _ => 0)))])) 4 (1514)
  refine z_aload C dX12_init_38 rfl rfl ?_
  refine z_lconst (v := 1) C dX12_init_39 (by decide +kernel) ?_
  refine z_put (i := 0) C hin fz_RX12_23 dX12_init_40 rfl rfl rfl (Nat.le_of_ble_eq_true rfl) ?_
  change Zx o 43 [some (.ref h0)] [] ((h0, .inr (10, [.ref q1, .ref q2, .ref q3, .ref q4, .long 0, .long 1, .null, .null, .null, .null, .null, .int 0, .int 0, .int 0, .int 0, .int 0, .null, .null, .null])) :: ((([(q1, .inl (o.2.2.1.2.1, 378, .inl (fun _ => 0)))] ++ [(q2, .inl (o.2.2.1.2.1, 378, .inl (fun _ => 0)))]) ++ [(q3, .inl (o.2.2.1.2.1, 756, .inl (fun _ => 0)))]) ++ [(q4, .inl (o.2.2.1.2.2.1, 2, .inl (fun _ => 0)))])) 4 (1514)
  refine z_aload C dX12_init_43 rfl rfl ?_
  refine z_iconst (v := (nI 3)) C dX12_init_44 (by decide +kernel) ?_
  refine z_newI (N := 3) C tz_aI dX12_init_45 (nI_pos (by omega)) (ix_n (by omega)) (by omega) ⟨Nat.le_of_ble_eq_true rfl, Nat.le_of_ble_eq_true rfl⟩ (fun q5 => ?_)
  change Zx o 47 [some (.ref h0)] [.ref q5, .ref h0] ((h0, .inr (10, [.ref q1, .ref q2, .ref q3, .ref q4, .long 0, .long 1, .null, .null, .null, .null, .null, .int 0, .int 0, .int 0, .int 0, .int 0, .null, .null, .null])) :: (((([(q1, .inl (o.2.2.1.2.1, 378, .inl (fun _ => 0)))] ++ [(q2, .inl (o.2.2.1.2.1, 378, .inl (fun _ => 0)))]) ++ [(q3, .inl (o.2.2.1.2.1, 756, .inl (fun _ => 0)))]) ++ [(q4, .inl (o.2.2.1.2.2.1, 2, .inl (fun _ => 0)))]) ++ [(q5, .inl (o.2.2.1.2.1, 3, .inl (fun _ => 0)))])) 5 (1517)
  refine z_put (i := 0) C hin fz_RX12_27 dX12_init_47 rfl rfl rfl (Nat.le_of_ble_eq_true rfl) ?_
  change Zx o 50 [some (.ref h0)] [] ((h0, .inr (10, [.ref q1, .ref q2, .ref q3, .ref q4, .long 0, .long 1, .ref q5, .null, .null, .null, .null, .int 0, .int 0, .int 0, .int 0, .int 0, .null, .null, .null])) :: (((([(q1, .inl (o.2.2.1.2.1, 378, .inl (fun _ => 0)))] ++ [(q2, .inl (o.2.2.1.2.1, 378, .inl (fun _ => 0)))]) ++ [(q3, .inl (o.2.2.1.2.1, 756, .inl (fun _ => 0)))]) ++ [(q4, .inl (o.2.2.1.2.2.1, 2, .inl (fun _ => 0)))]) ++ [(q5, .inl (o.2.2.1.2.1, 3, .inl (fun _ => 0)))])) 5 (1517)
  refine z_aload C dX12_init_50 rfl rfl ?_
  refine z_bipush (v := nI 7) C dX12_init_51 (by decide +kernel) ?_
  refine z_newI (N := 7) C tz_aI dX12_init_53 (nI_pos (by omega)) (ix_n (by omega)) (by omega) ⟨Nat.le_of_ble_eq_true rfl, Nat.le_of_ble_eq_true rfl⟩ (fun q6 => ?_)
  change Zx o 55 [some (.ref h0)] [.ref q6, .ref h0] ((h0, .inr (10, [.ref q1, .ref q2, .ref q3, .ref q4, .long 0, .long 1, .ref q5, .null, .null, .null, .null, .int 0, .int 0, .int 0, .int 0, .int 0, .null, .null, .null])) :: ((((([(q1, .inl (o.2.2.1.2.1, 378, .inl (fun _ => 0)))] ++ [(q2, .inl (o.2.2.1.2.1, 378, .inl (fun _ => 0)))]) ++ [(q3, .inl (o.2.2.1.2.1, 756, .inl (fun _ => 0)))]) ++ [(q4, .inl (o.2.2.1.2.2.1, 2, .inl (fun _ => 0)))]) ++ [(q5, .inl (o.2.2.1.2.1, 3, .inl (fun _ => 0)))]) ++ [(q6, .inl (o.2.2.1.2.1, 7, .inl (fun _ => 0)))])) 6 (1524)
  refine z_put (i := 0) C hin fz_RX12_30 dX12_init_55 rfl rfl rfl (Nat.le_of_ble_eq_true rfl) ?_
  change Zx o 58 [some (.ref h0)] [] ((h0, .inr (10, [.ref q1, .ref q2, .ref q3, .ref q4, .long 0, .long 1, .ref q5, .ref q6, .null, .null, .null, .int 0, .int 0, .int 0, .int 0, .int 0, .null, .null, .null])) :: ((((([(q1, .inl (o.2.2.1.2.1, 378, .inl (fun _ => 0)))] ++ [(q2, .inl (o.2.2.1.2.1, 378, .inl (fun _ => 0)))]) ++ [(q3, .inl (o.2.2.1.2.1, 756, .inl (fun _ => 0)))]) ++ [(q4, .inl (o.2.2.1.2.2.1, 2, .inl (fun _ => 0)))]) ++ [(q5, .inl (o.2.2.1.2.1, 3, .inl (fun _ => 0)))]) ++ [(q6, .inl (o.2.2.1.2.1, 7, .inl (fun _ => 0)))])) 6 (1524)
  refine z_aload C dX12_init_58 rfl rfl ?_
  refine z_bipush (v := nI 12) C dX12_init_59 (by decide +kernel) ?_
  refine z_newI (N := 12) C tz_aI dX12_init_61 (nI_pos (by omega)) (ix_n (by omega)) (by omega) ⟨Nat.le_of_ble_eq_true rfl, Nat.le_of_ble_eq_true rfl⟩ (fun q7 => ?_)
  change Zx o 63 [some (.ref h0)] [.ref q7, .ref h0] ((h0, .inr (10, [.ref q1, .ref q2, .ref q3, .ref q4, .long 0, .long 1, .ref q5, .ref q6, .null, .null, .null, .int 0, .int 0, .int 0, .int 0, .int 0, .null, .null, .null])) :: (((((([(q1, .inl (o.2.2.1.2.1, 378, .inl (fun _ => 0)))] ++ [(q2, .inl (o.2.2.1.2.1, 378, .inl (fun _ => 0)))]) ++ [(q3, .inl (o.2.2.1.2.1, 756, .inl (fun _ => 0)))]) ++ [(q4, .inl (o.2.2.1.2.2.1, 2, .inl (fun _ => 0)))]) ++ [(q5, .inl (o.2.2.1.2.1, 3, .inl (fun _ => 0)))]) ++ [(q6, .inl (o.2.2.1.2.1, 7, .inl (fun _ => 0)))]) ++ [(q7, .inl (o.2.2.1.2.1, 12, .inl (fun _ => 0)))])) 7 (1536)
  refine z_put (i := 0) C hin fz_RX12_33 dX12_init_63 rfl rfl rfl (Nat.le_of_ble_eq_true rfl) ?_
  change Zx o 66 [some (.ref h0)] [] ((h0, .inr (10, [.ref q1, .ref q2, .ref q3, .ref q4, .long 0, .long 1, .ref q5, .ref q6, .ref q7, .null, .null, .int 0, .int 0, .int 0, .int 0, .int 0, .null, .null, .null])) :: (((((([(q1, .inl (o.2.2.1.2.1, 378, .inl (fun _ => 0)))] ++ [(q2, .inl (o.2.2.1.2.1, 378, .inl (fun _ => 0)))]) ++ [(q3, .inl (o.2.2.1.2.1, 756, .inl (fun _ => 0)))]) ++ [(q4, .inl (o.2.2.1.2.2.1, 2, .inl (fun _ => 0)))]) ++ [(q5, .inl (o.2.2.1.2.1, 3, .inl (fun _ => 0)))]) ++ [(q6, .inl (o.2.2.1.2.1, 7, .inl (fun _ => 0)))]) ++ [(q7, .inl (o.2.2.1.2.1, 12, .inl (fun _ => 0)))])) 7 (1536)
  refine z_aload C dX12_init_66 rfl rfl ?_
  refine z_bipush (v := nI 12) C dX12_init_67 (by decide +kernel) ?_
  refine z_newI (N := 12) C tz_aI dX12_init_69 (nI_pos (by omega)) (ix_n (by omega)) (by omega) ⟨Nat.le_of_ble_eq_true rfl, Nat.le_of_ble_eq_true rfl⟩ (fun q8 => ?_)
  change Zx o 71 [some (.ref h0)] [.ref q8, .ref h0] ((h0, .inr (10, [.ref q1, .ref q2, .ref q3, .ref q4, .long 0, .long 1, .ref q5, .ref q6, .ref q7, .null, .null, .int 0, .int 0, .int 0, .int 0, .int 0, .null, .null, .null])) :: ((((((([(q1, .inl (o.2.2.1.2.1, 378, .inl (fun _ => 0)))] ++ [(q2, .inl (o.2.2.1.2.1, 378, .inl (fun _ => 0)))]) ++ [(q3, .inl (o.2.2.1.2.1, 756, .inl (fun _ => 0)))]) ++ [(q4, .inl (o.2.2.1.2.2.1, 2, .inl (fun _ => 0)))]) ++ [(q5, .inl (o.2.2.1.2.1, 3, .inl (fun _ => 0)))]) ++ [(q6, .inl (o.2.2.1.2.1, 7, .inl (fun _ => 0)))]) ++ [(q7, .inl (o.2.2.1.2.1, 12, .inl (fun _ => 0)))]) ++ [(q8, .inl (o.2.2.1.2.1, 12, .inl (fun _ => 0)))])) 8 (1548)
  refine z_put (i := 0) C hin fz_RX12_36 dX12_init_71 rfl rfl rfl (Nat.le_of_ble_eq_true rfl) ?_
  change Zx o 74 [some (.ref h0)] [] ((h0, .inr (10, [.ref q1, .ref q2, .ref q3, .ref q4, .long 0, .long 1, .ref q5, .ref q6, .ref q7, .ref q8, .null, .int 0, .int 0, .int 0, .int 0, .int 0, .null, .null, .null])) :: ((((((([(q1, .inl (o.2.2.1.2.1, 378, .inl (fun _ => 0)))] ++ [(q2, .inl (o.2.2.1.2.1, 378, .inl (fun _ => 0)))]) ++ [(q3, .inl (o.2.2.1.2.1, 756, .inl (fun _ => 0)))]) ++ [(q4, .inl (o.2.2.1.2.2.1, 2, .inl (fun _ => 0)))]) ++ [(q5, .inl (o.2.2.1.2.1, 3, .inl (fun _ => 0)))]) ++ [(q6, .inl (o.2.2.1.2.1, 7, .inl (fun _ => 0)))]) ++ [(q7, .inl (o.2.2.1.2.1, 12, .inl (fun _ => 0)))]) ++ [(q8, .inl (o.2.2.1.2.1, 12, .inl (fun _ => 0)))])) 8 (1548)
  refine z_aload C dX12_init_74 rfl rfl ?_
  refine z_sipush (v := nI 150) C dX12_init_75 (by decide +kernel) ?_
  refine z_newI (N := 150) C tz_aI dX12_init_78 (nI_pos (by omega)) (ix_n (by omega)) (by omega) ⟨Nat.le_of_ble_eq_true rfl, Nat.le_of_ble_eq_true rfl⟩ (fun q9 => ?_)
  change Zx o 80 [some (.ref h0)] [.ref q9, .ref h0] ((h0, .inr (10, [.ref q1, .ref q2, .ref q3, .ref q4, .long 0, .long 1, .ref q5, .ref q6, .ref q7, .ref q8, .null, .int 0, .int 0, .int 0, .int 0, .int 0, .null, .null, .null])) :: (((((((([(q1, .inl (o.2.2.1.2.1, 378, .inl (fun _ => 0)))] ++ [(q2, .inl (o.2.2.1.2.1, 378, .inl (fun _ => 0)))]) ++ [(q3, .inl (o.2.2.1.2.1, 756, .inl (fun _ => 0)))]) ++ [(q4, .inl (o.2.2.1.2.2.1, 2, .inl (fun _ => 0)))]) ++ [(q5, .inl (o.2.2.1.2.1, 3, .inl (fun _ => 0)))]) ++ [(q6, .inl (o.2.2.1.2.1, 7, .inl (fun _ => 0)))]) ++ [(q7, .inl (o.2.2.1.2.1, 12, .inl (fun _ => 0)))]) ++ [(q8, .inl (o.2.2.1.2.1, 12, .inl (fun _ => 0)))]) ++ [(q9, .inl (o.2.2.1.2.1, 150, .inl (fun _ => 0)))])) 9 (1698)
  refine z_put (i := 0) C hin fz_RX12_39 dX12_init_80 rfl rfl rfl (Nat.le_of_ble_eq_true rfl) ?_
  change Zx o 83 [some (.ref h0)] [] ((h0, .inr (10, [.ref q1, .ref q2, .ref q3, .ref q4, .long 0, .long 1, .ref q5, .ref q6, .ref q7, .ref q8, .ref q9, .int 0, .int 0, .int 0, .int 0, .int 0, .null, .null, .null])) :: (((((((([(q1, .inl (o.2.2.1.2.1, 378, .inl (fun _ => 0)))] ++ [(q2, .inl (o.2.2.1.2.1, 378, .inl (fun _ => 0)))]) ++ [(q3, .inl (o.2.2.1.2.1, 756, .inl (fun _ => 0)))]) ++ [(q4, .inl (o.2.2.1.2.2.1, 2, .inl (fun _ => 0)))]) ++ [(q5, .inl (o.2.2.1.2.1, 3, .inl (fun _ => 0)))]) ++ [(q6, .inl (o.2.2.1.2.1, 7, .inl (fun _ => 0)))]) ++ [(q7, .inl (o.2.2.1.2.1, 12, .inl (fun _ => 0)))]) ++ [(q8, .inl (o.2.2.1.2.1, 12, .inl (fun _ => 0)))]) ++ [(q9, .inl (o.2.2.1.2.1, 150, .inl (fun _ => 0)))])) 9 (1698)
  refine z_aload C dX12_init_83 rfl rfl ?_
  refine z_iconst (v := (-1)) C dX12_init_84 (by decide +kernel) ?_
  refine z_put (i := 0) C hin fz_RX12_42 dX12_init_85 rfl rfl rfl (Nat.le_of_ble_eq_true rfl) ?_
  change Zx o 88 [some (.ref h0)] [] ((h0, .inr (10, [.ref q1, .ref q2, .ref q3, .ref q4, .long 0, .long 1, .ref q5, .ref q6, .ref q7, .ref q8, .ref q9, .int 0, .int 0, .int (-1), .int 0, .int 0, .null, .null, .null])) :: (((((((([(q1, .inl (o.2.2.1.2.1, 378, .inl (fun _ => 0)))] ++ [(q2, .inl (o.2.2.1.2.1, 378, .inl (fun _ => 0)))]) ++ [(q3, .inl (o.2.2.1.2.1, 756, .inl (fun _ => 0)))]) ++ [(q4, .inl (o.2.2.1.2.2.1, 2, .inl (fun _ => 0)))]) ++ [(q5, .inl (o.2.2.1.2.1, 3, .inl (fun _ => 0)))]) ++ [(q6, .inl (o.2.2.1.2.1, 7, .inl (fun _ => 0)))]) ++ [(q7, .inl (o.2.2.1.2.1, 12, .inl (fun _ => 0)))]) ++ [(q8, .inl (o.2.2.1.2.1, 12, .inl (fun _ => 0)))]) ++ [(q9, .inl (o.2.2.1.2.1, 150, .inl (fun _ => 0)))])) 9 (1698)
  refine z_aload C dX12_init_88 rfl rfl ?_
  refine z_iconst (v := (nI 5)) C dX12_init_89 (by decide +kernel) ?_
  refine z_newI (N := 5) C tz_aI dX12_init_90 (nI_pos (by omega)) (ix_n (by omega)) (by omega) ⟨Nat.le_of_ble_eq_true rfl, Nat.le_of_ble_eq_true rfl⟩ (fun q10 => ?_)
  change Zx o 92 [some (.ref h0)] [.ref q10, .ref h0] ((h0, .inr (10, [.ref q1, .ref q2, .ref q3, .ref q4, .long 0, .long 1, .ref q5, .ref q6, .ref q7, .ref q8, .ref q9, .int 0, .int 0, .int (-1), .int 0, .int 0, .null, .null, .null])) :: ((((((((([(q1, .inl (o.2.2.1.2.1, 378, .inl (fun _ => 0)))] ++ [(q2, .inl (o.2.2.1.2.1, 378, .inl (fun _ => 0)))]) ++ [(q3, .inl (o.2.2.1.2.1, 756, .inl (fun _ => 0)))]) ++ [(q4, .inl (o.2.2.1.2.2.1, 2, .inl (fun _ => 0)))]) ++ [(q5, .inl (o.2.2.1.2.1, 3, .inl (fun _ => 0)))]) ++ [(q6, .inl (o.2.2.1.2.1, 7, .inl (fun _ => 0)))]) ++ [(q7, .inl (o.2.2.1.2.1, 12, .inl (fun _ => 0)))]) ++ [(q8, .inl (o.2.2.1.2.1, 12, .inl (fun _ => 0)))]) ++ [(q9, .inl (o.2.2.1.2.1, 150, .inl (fun _ => 0)))]) ++ [(q10, .inl (o.2.2.1.2.1, 5, .inl (fun _ => 0)))])) 10 (1703)
  refine z_put (i := 0) C hin fz_RX12_46 dX12_init_92 rfl rfl rfl (Nat.le_of_ble_eq_true rfl) ?_
  change Zx o 95 [some (.ref h0)] [] ((h0, .inr (10, [.ref q1, .ref q2, .ref q3, .ref q4, .long 0, .long 1, .ref q5, .ref q6, .ref q7, .ref q8, .ref q9, .int 0, .int 0, .int (-1), .int 0, .int 0, .ref q10, .null, .null])) :: ((((((((([(q1, .inl (o.2.2.1.2.1, 378, .inl (fun _ => 0)))] ++ [(q2, .inl (o.2.2.1.2.1, 378, .inl (fun _ => 0)))]) ++ [(q3, .inl (o.2.2.1.2.1, 756, .inl (fun _ => 0)))]) ++ [(q4, .inl (o.2.2.1.2.2.1, 2, .inl (fun _ => 0)))]) ++ [(q5, .inl (o.2.2.1.2.1, 3, .inl (fun _ => 0)))]) ++ [(q6, .inl (o.2.2.1.2.1, 7, .inl (fun _ => 0)))]) ++ [(q7, .inl (o.2.2.1.2.1, 12, .inl (fun _ => 0)))]) ++ [(q8, .inl (o.2.2.1.2.1, 12, .inl (fun _ => 0)))]) ++ [(q9, .inl (o.2.2.1.2.1, 150, .inl (fun _ => 0)))]) ++ [(q10, .inl (o.2.2.1.2.1, 5, .inl (fun _ => 0)))])) 10 (1703)
  refine z_aload C dX12_init_95 rfl rfl ?_
  refine z_iconst (v := (nI 5)) C dX12_init_96 (by decide +kernel) ?_
  refine z_newI (N := 5) C tz_aI dX12_init_97 (nI_pos (by omega)) (ix_n (by omega)) (by omega) ⟨Nat.le_of_ble_eq_true rfl, Nat.le_of_ble_eq_true rfl⟩ (fun q11 => ?_)
  change Zx o 99 [some (.ref h0)] [.ref q11, .ref h0] ((h0, .inr (10, [.ref q1, .ref q2, .ref q3, .ref q4, .long 0, .long 1, .ref q5, .ref q6, .ref q7, .ref q8, .ref q9, .int 0, .int 0, .int (-1), .int 0, .int 0, .ref q10, .null, .null])) :: (((((((((([(q1, .inl (o.2.2.1.2.1, 378, .inl (fun _ => 0)))] ++ [(q2, .inl (o.2.2.1.2.1, 378, .inl (fun _ => 0)))]) ++ [(q3, .inl (o.2.2.1.2.1, 756, .inl (fun _ => 0)))]) ++ [(q4, .inl (o.2.2.1.2.2.1, 2, .inl (fun _ => 0)))]) ++ [(q5, .inl (o.2.2.1.2.1, 3, .inl (fun _ => 0)))]) ++ [(q6, .inl (o.2.2.1.2.1, 7, .inl (fun _ => 0)))]) ++ [(q7, .inl (o.2.2.1.2.1, 12, .inl (fun _ => 0)))]) ++ [(q8, .inl (o.2.2.1.2.1, 12, .inl (fun _ => 0)))]) ++ [(q9, .inl (o.2.2.1.2.1, 150, .inl (fun _ => 0)))]) ++ [(q10, .inl (o.2.2.1.2.1, 5, .inl (fun _ => 0)))]) ++ [(q11, .inl (o.2.2.1.2.1, 5, .inl (fun _ => 0)))])) 11 (1708)
  refine z_put (i := 0) C hin fz_RX12_49 dX12_init_99 rfl rfl rfl (Nat.le_of_ble_eq_true rfl) ?_
  change Zx o 102 [some (.ref h0)] [] ((h0, .inr (10, [.ref q1, .ref q2, .ref q3, .ref q4, .long 0, .long 1, .ref q5, .ref q6, .ref q7, .ref q8, .ref q9, .int 0, .int 0, .int (-1), .int 0, .int 0, .ref q10, .ref q11, .null])) :: (((((((((([(q1, .inl (o.2.2.1.2.1, 378, .inl (fun _ => 0)))] ++ [(q2, .inl (o.2.2.1.2.1, 378, .inl (fun _ => 0)))]) ++ [(q3, .inl (o.2.2.1.2.1, 756, .inl (fun _ => 0)))]) ++ [(q4, .inl (o.2.2.1.2.2.1, 2, .inl (fun _ => 0)))]) ++ [(q5, .inl (o.2.2.1.2.1, 3, .inl (fun _ => 0)))]) ++ [(q6, .inl (o.2.2.1.2.1, 7, .inl (fun _ => 0)))]) ++ [(q7, .inl (o.2.2.1.2.1, 12, .inl (fun _ => 0)))]) ++ [(q8, .inl (o.2.2.1.2.1, 12, .inl (fun _ => 0)))]) ++ [(q9, .inl (o.2.2.1.2.1, 150, .inl (fun _ => 0)))]) ++ [(q10, .inl (o.2.2.1.2.1, 5, .inl (fun _ => 0)))]) ++ [(q11, .inl (o.2.2.1.2.1, 5, .inl (fun _ => 0)))])) 11 (1708)
  refine z_aload C dX12_init_102 rfl rfl ?_
  refine z_bipush (v := nI 7) C dX12_init_103 (by decide +kernel) ?_
  refine z_newI (N := 7) C tz_aI dX12_init_105 (nI_pos (by omega)) (ix_n (by omega)) (by omega) ⟨Nat.le_of_ble_eq_true rfl, Nat.le_of_ble_eq_true rfl⟩ (fun q12 => ?_)
  change Zx o 107 [some (.ref h0)] [.ref q12, .ref h0] ((h0, .inr (10, [.ref q1, .ref q2, .ref q3, .ref q4, .long 0, .long 1, .ref q5, .ref q6, .ref q7, .ref q8, .ref q9, .int 0, .int 0, .int (-1), .int 0, .int 0, .ref q10, .ref q11, .null])) :: ((((((((((([(q1, .inl (o.2.2.1.2.1, 378, .inl (fun _ => 0)))] ++ [(q2, .inl (o.2.2.1.2.1, 378, .inl (fun _ => 0)))]) ++ [(q3, .inl (o.2.2.1.2.1, 756, .inl (fun _ => 0)))]) ++ [(q4, .inl (o.2.2.1.2.2.1, 2, .inl (fun _ => 0)))]) ++ [(q5, .inl (o.2.2.1.2.1, 3, .inl (fun _ => 0)))]) ++ [(q6, .inl (o.2.2.1.2.1, 7, .inl (fun _ => 0)))]) ++ [(q7, .inl (o.2.2.1.2.1, 12, .inl (fun _ => 0)))]) ++ [(q8, .inl (o.2.2.1.2.1, 12, .inl (fun _ => 0)))]) ++ [(q9, .inl (o.2.2.1.2.1, 150, .inl (fun _ => 0)))]) ++ [(q10, .inl (o.2.2.1.2.1, 5, .inl (fun _ => 0)))]) ++ [(q11, .inl (o.2.2.1.2.1, 5, .inl (fun _ => 0)))]) ++ [(q12, .inl (o.2.2.1.2.1, 7, .inl (fun _ => 0)))])) 12 (1715)
  refine z_put (i := 0) C hin fz_RX12_52 dX12_init_107 rfl rfl rfl (Nat.le_of_ble_eq_true rfl) ?_
  change Zx o 110 [some (.ref h0)] [] ((h0, .inr (10, [.ref q1, .ref q2, .ref q3, .ref q4, .long 0, .long 1, .ref q5, .ref q6, .ref q7, .ref q8, .ref q9, .int 0, .int 0, .int (-1), .int 0, .int 0, .ref q10, .ref q11, .ref q12])) :: ((((((((((([(q1, .inl (o.2.2.1.2.1, 378, .inl (fun _ => 0)))] ++ [(q2, .inl (o.2.2.1.2.1, 378, .inl (fun _ => 0)))]) ++ [(q3, .inl (o.2.2.1.2.1, 756, .inl (fun _ => 0)))]) ++ [(q4, .inl (o.2.2.1.2.2.1, 2, .inl (fun _ => 0)))]) ++ [(q5, .inl (o.2.2.1.2.1, 3, .inl (fun _ => 0)))]) ++ [(q6, .inl (o.2.2.1.2.1, 7, .inl (fun _ => 0)))]) ++ [(q7, .inl (o.2.2.1.2.1, 12, .inl (fun _ => 0)))]) ++ [(q8, .inl (o.2.2.1.2.1, 12, .inl (fun _ => 0)))]) ++ [(q9, .inl (o.2.2.1.2.1, 150, .inl (fun _ => 0)))]) ++ [(q10, .inl (o.2.2.1.2.1, 5, .inl (fun _ => 0)))]) ++ [(q11, .inl (o.2.2.1.2.1, 5, .inl (fun _ => 0)))]) ++ [(q12, .inl (o.2.2.1.2.1, 7, .inl (fun _ => 0)))])) 12 (1715)
  exact fin 110 _ (fun c => [0, q1, q2, q3, q4, q5, q6, q7, q8, q9, q10, q11, q12].getD c 0) _ _ (Nat.le_refl _) (Nat.le_refl _) dX12_init_110
