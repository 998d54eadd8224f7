theorem tw (i : Nat) {w : Cond} (h : tables_1[i]? = some w) (g : goodWord w = true) : w ∈ gw_tbl := gw_in (List.mem_append_right _ (List.mem_of_getElem? h)) g
theorem tp (i : Nat) {w : Cond} (h : (k2_sels lw_privs)[i]? = some w) (g : goodWord w = true) : w ∈ gw_tbl := gw_in (List.mem_append_left _ (List.mem_of_getElem? h)) g
theorem in_r {big ws : List Cond} (ps : List Nat) (h : ws = ps.filterMap (fun i => big[i]?)) : ∀ w ∈ ws, w ∈ big := fun w hw => by
  rw [h] at hw
  obtain ⟨i, -, hi⟩ := List.mem_filterMap.mp hw
  exact List.mem_of_getElem? hi
theorem dis_arm (a b : Nat) : gArm a + 2 ≤ 34 + gArm b ∨ 34 + gArm b + 2 ≤ gArm a := by
  have h1 : a % 4 < 4 := Nat.mod_lt _ (by omega)
  have h2 : b % 4 < 4 := Nat.mod_lt _ (by omega)
  unfold gArm
  omega
theorem look_out {x : Int32} (h1 : ¬ x.toInt = 33) (h2 : ¬ x.toInt = 40) (h3 : ¬ x.toInt = 41) (h4 : ¬ x.toInt = 44) (h5 : ¬ x.toInt = 63) : Op.lookupswitch.offset #[((33 : Int), (51 : Int)), (40, 63), (41, 73), (44, 68), (63, 57)].toList 78 x.toInt = 78 := by
  simp [Op.lookupswitch.offset, h1, h2, h3, h4, h5, eq_comm]
theorem pn_X0 : plainName RX0 = true := by decide +kernel
theorem isC_X0 : isC 0 RX0 TX0 5 := ⟨rfl, fun w hw => gw_in (List.mem_append_right _ (in_r (ws := u_ws RX0 TX0 5) [47, 49, 51, 53, 55] (by decide +kernel) w hw)) (List.all_eq_true.mp (show (u_ws RX0 TX0 5).all goodWord = true by decide +kernel) w hw)⟩
theorem isT_X0 : isT TX0 tyX0 5 := ⟨tyX0_ok, nmX0⟩
theorem pn_X1 : plainName RX1 = true := by decide +kernel
theorem isC_X1 : isC 1 RX1 TX1 8 := ⟨rfl, fun w hw => gw_in (List.mem_append_right _ (in_r (ws := u_ws RX1 TX1 8) [121, 123, 125, 127, 129, 131, 133, 135] (by decide +kernel) w hw)) (List.all_eq_true.mp (show (u_ws RX1 TX1 8).all goodWord = true by decide +kernel) w hw)⟩
theorem isT_X1 : isT TX1 tyX1 8 := ⟨tyX1_ok, nmX1⟩
theorem pn_X2 : plainName RX2 = true := by decide +kernel
theorem isC_X2 : isC 2 RX2 TX2 3 := ⟨rfl, fun w hw => gw_in (List.mem_append_right _ (in_r (ws := u_ws RX2 TX2 3) [153, 155, 157] (by decide +kernel) w hw)) (List.all_eq_true.mp (show (u_ws RX2 TX2 3).all goodWord = true by decide +kernel) w hw)⟩
theorem isT_X2 : isT TX2 tyX2 3 := ⟨tyX2_ok, nmX2⟩
theorem pn_X3 : plainName RX3 = true := by decide +kernel
theorem isC_X3 : isC 3 RX3 TX3 3 := ⟨rfl, fun w hw => gw_in (List.mem_append_right _ (in_r (ws := u_ws RX3 TX3 3) [252, 254, 256] (by decide +kernel) w hw)) (List.all_eq_true.mp (show (u_ws RX3 TX3 3).all goodWord = true by decide +kernel) w hw)⟩
theorem isT_X3 : isT TX3 tyX3 3 := ⟨tyX3_ok, nmX3⟩
theorem pn_X4 : plainName RX4 = true := by decide +kernel
theorem isC_X4 : isC 4 RX4 TX4 9 := ⟨rfl, fun w hw => gw_in (List.mem_append_right _ (in_r (ws := u_ws RX4 TX4 9) [87, 89, 91, 93, 95, 97, 99, 101, 103] (by decide +kernel) w hw)) (List.all_eq_true.mp (show (u_ws RX4 TX4 9).all goodWord = true by decide +kernel) w hw)⟩
theorem isT_X4 : isT TX4 tyX4 9 := ⟨tyX4_ok, nmX4⟩
theorem pn_X5 : plainName RX5 = true := by decide +kernel
theorem isC_X5 : isC 5 RX5 TX5 10 := ⟨rfl, fun w hw => gw_in (List.mem_append_right _ (in_r (ws := u_ws RX5 TX5 10) [218, 220, 222, 224, 226, 228, 230, 232, 234, 236] (by decide +kernel) w hw)) (List.all_eq_true.mp (show (u_ws RX5 TX5 10).all goodWord = true by decide +kernel) w hw)⟩
theorem isT_X5 : isT TX5 tyX5 10 := ⟨tyX5_ok, nmX5⟩
theorem pn_X6 : plainName RX6 = true := by decide +kernel
theorem isC_X6 : isC 6 RX6 TX6 9 := ⟨rfl, fun w hw => gw_in (List.mem_append_right _ (in_r (ws := u_ws RX6 TX6 9) [178, 180, 182, 184, 186, 188, 190, 192, 194] (by decide +kernel) w hw)) (List.all_eq_true.mp (show (u_ws RX6 TX6 9).all goodWord = true by decide +kernel) w hw)⟩
theorem isT_X6 : isT TX6 tyX6 9 := ⟨tyX6_ok, nmX6⟩
theorem pn_X7 : plainName RX7 = true := by decide +kernel
theorem isC_X7 : isC 7 RX7 TX7 6 := ⟨rfl, fun w hw => gw_in (List.mem_append_right _ (in_r (ws := u_ws RX7 TX7 6) [266, 268, 270, 272, 274, 276] (by decide +kernel) w hw)) (List.all_eq_true.mp (show (u_ws RX7 TX7 6).all goodWord = true by decide +kernel) w hw)⟩
theorem isT_X7 : isT TX7 tyX7 6 := ⟨tyX7_ok, nmX7⟩
theorem pn_X8 : plainName RX8 = true := by decide +kernel
theorem isC_X8 : isC 8 RX8 TX8 55 := ⟨rfl, fun w hw => gw_in (List.mem_append_right _ (in_r (ws := u_ws RX8 TX8 55) [738, 740, 742, 744, 746, 748, 750, 752, 754, 756, 758, 760, 762, 764, 766, 768, 770, 772, 774, 776, 778, 780, 782, 784, 786, 788, 790, 792, 794, 796, 798, 800, 802, 804, 806, 808, 810, 812, 814, 816, 818, 820, 822, 824, 826, 828, 830, 832, 834, 836, 838, 840, 842, 844, 846] (by decide +kernel) w hw)) (List.all_eq_true.mp (show (u_ws RX8 TX8 55).all goodWord = true by decide +kernel) w hw)⟩
theorem isT_X8 : isT TX8 tyX8 55 := ⟨tyX8_ok, nmX8⟩
theorem fd_dbl_2_SArm_2_0 : FLD (dbl 2 SArm) 4 (2) 0 0 (some (.inl (3))) := ⟨by decide, _, rfl, rfl⟩
theorem fw_X0_9 : Cond.fieldLink RX0 9 (TX0 0).1 (TX0 0).2.1 (TX0 0).2.2.1 ∈ gw_tbl := tw 33 (by decide +kernel) (by decide +kernel)
theorem ic_0 : Int32.ofInt (0) = 0 := by decide
theorem fd_dbl_2_SArm_0_0 : FLD (dbl 2 SArm) 4 (0) 0 0 (some (.inl (1))) := ⟨by decide, _, rfl, rfl⟩
theorem ar_dbl_2_SArm_1 : ARR (dbl 2 SArm) 4 (1) 0 32 := ⟨by decide, rfl⟩
theorem ml_X0_28 : Cond.methodLink RX0 28 arraycopyName ∈ gw_tbl := tw 504 (by decide +kernel) (by decide +kernel)
theorem acn : Cond.native arraycopyName ∈ gw_tbl := tw 506 (by decide +kernel) (by decide +kernel)
theorem acs : Cond.static arraycopyName ∈ gw_tbl := tw 505 (by decide +kernel) (by decide +kernel)
theorem aci : Cond.initialized "java/lang/System" ∈ gw_tbl := tw 11 (by decide +kernel) (by decide +kernel)
theorem ar_dbl_2_SArm_3 : ARR (dbl 2 SArm) 4 (3) 0 32 := ⟨by decide, rfl⟩
theorem fd_dbl_2_SArm_2_1 : FLD (dbl 2 SArm) 4 (2) 0 1 none := ⟨by decide, _, rfl, rfl⟩
theorem fw_X0_15 : Cond.fieldLink RX0 15 (TX0 1).1 (TX0 1).2.1 (TX0 1).2.2.1 ∈ gw_tbl := tw 35 (by decide +kernel) (by decide +kernel)
theorem fd_dbl_2_SArm_0_1 : FLD (dbl 2 SArm) 4 (0) 0 1 none := ⟨by decide, _, rfl, rfl⟩
theorem fd_dbl_2_SArm_2_2 : FLD (dbl 2 SArm) 4 (2) 0 2 none := ⟨by decide, _, rfl, rfl⟩
theorem fw_X0_19 : Cond.fieldLink RX0 19 (TX0 2).1 (TX0 2).2.1 (TX0 2).2.2.1 ∈ gw_tbl := tw 38 (by decide +kernel) (by decide +kernel)
theorem fd_dbl_2_SArm_0_2 : FLD (dbl 2 SArm) 4 (0) 0 2 none := ⟨by decide, _, rfl, rfl⟩
theorem fd_dbl_2_SArm_2_3 : FLD (dbl 2 SArm) 4 (2) 0 3 none := ⟨by decide, _, rfl, rfl⟩
theorem fw_X0_22 : Cond.fieldLink RX0 22 (TX0 3).1 (TX0 3).2.1 (TX0 3).2.2.1 ∈ gw_tbl := tw 41 (by decide +kernel) (by decide +kernel)
theorem fd_dbl_2_SArm_0_3 : FLD (dbl 2 SArm) 4 (0) 0 3 none := ⟨by decide, _, rfl, rfl⟩
theorem fd_dbl_2_SArm_2_4 : FLD (dbl 2 SArm) 4 (2) 0 4 none := ⟨by decide, _, rfl, rfl⟩
theorem fw_X0_25 : Cond.fieldLink RX0 25 (TX0 4).1 (TX0 4).2.1 (TX0 4).2.2.1 ∈ gw_tbl := tw 44 (by decide +kernel) (by decide +kernel)
theorem fd_dbl_2_SArm_0_4 : FLD (dbl 2 SArm) 4 (0) 0 4 none := ⟨by decide, _, rfl, rfl⟩
theorem fd_SArm_0_1 : FLD SArm 2 (0) 0 1 none := ⟨by decide, _, rfl, rfl⟩
theorem bp_m5 : (Int8.ofInt (-5)).toInt32 = -5 := by decide
theorem fd_SArm_0_2 : FLD SArm 2 (0) 0 2 none := ⟨by decide, _, rfl, rfl⟩
theorem fd_SArm_0_3 : FLD SArm 2 (0) 0 3 none := ⟨by decide, _, rfl, rfl⟩
theorem fd_SArm_0_4 : FLD SArm 2 (0) 0 4 none := ⟨by decide, _, rfl, rfl⟩
theorem fd_SArm_0_0 : FLD SArm 2 (0) 0 0 (some (.inl (1))) := ⟨by decide, _, rfl, rfl⟩
theorem ar_SArm_1 : ARR SArm 2 (1) 0 32 := ⟨by decide, rfl⟩
theorem ic_1 : Int32.ofInt (1) = 1 := by decide
theorem ml_X0_34 : Cond.methodLink RX0 34 yX0_taskAt ∈ gw_tbl := tw 423 (by decide +kernel) (by decide +kernel)
theorem cb_X0_taskAt : CB yX0_taskAt cX0_taskAt 2 (some .int) 1 := ⟨(tw 400 (by decide +kernel) (by decide +kernel)), (tw 401 (by decide +kernel) (by decide +kernel)), (tw 3 (by decide +kernel) (by decide +kernel)), (tw 402 (by decide +kernel) (by decide +kernel)), by decide +kernel⟩
theorem ob_SArm : OBJ SArm 2 0 0 := ⟨by decide, _, rfl⟩
theorem ml_X0_38 : Cond.methodLink RX0 38 yX0_drop ∈ gw_tbl := tw 433 (by decide +kernel) (by decide +kernel)
theorem cb_X0_drop : CB yX0_drop cX0_drop 4 none 1 := ⟨(tw 434 (by decide +kernel) (by decide +kernel)), (tw 435 (by decide +kernel) (by decide +kernel)), (tw 3 (by decide +kernel) (by decide +kernel)), (tw 436 (by decide +kernel) (by decide +kernel)), by decide +kernel⟩
theorem fd_SEnt_0_6 : FLD SEnt 6 (0) 1 6 none := ⟨by decide, _, rfl, rfl⟩
theorem fw_X1_31 : Cond.fieldLink RX1 31 (TX1 6).1 (TX1 6).2.1 (TX1 6).2.2.1 ∈ gw_tbl := tw 118 (by decide +kernel) (by decide +kernel)
theorem fd_SEnt_0_7 : FLD SEnt 6 (0) 1 7 none := ⟨by decide, _, rfl, rfl⟩
theorem fw_X1_34 : Cond.fieldLink RX1 34 (TX1 7).1 (TX1 7).2.1 (TX1 7).2.2.1 ∈ gw_tbl := tw 119 (by decide +kernel) (by decide +kernel)
theorem bp_40 : (Int8.ofInt (40)).toInt32 = 40 := by decide
theorem fd_SEnt_0_0 : FLD SEnt 6 (0) 1 0 (some (.inl (1))) := ⟨by decide, _, rfl, rfl⟩
theorem fw_X1_9 : Cond.fieldLink RX1 9 (TX1 0).1 (TX1 0).2.1 (TX1 0).2.2.1 ∈ gw_tbl := tw 112 (by decide +kernel) (by decide +kernel)
theorem ar_SEnt_1 : ARR SEnt 6 (1) 0 40 := ⟨by decide, rfl⟩
theorem fd_SEnt_0_1 : FLD SEnt 6 (0) 1 1 (some (.inl (2))) := ⟨by decide, _, rfl, rfl⟩
theorem fw_X1_15 : Cond.fieldLink RX1 15 (TX1 1).1 (TX1 1).2.1 (TX1 1).2.2.1 ∈ gw_tbl := tw 113 (by decide +kernel) (by decide +kernel)
theorem ar_SEnt_2 : ARR SEnt 6 (2) 0 40 := ⟨by decide, rfl⟩
theorem fd_SEnt_0_2 : FLD SEnt 6 (0) 1 2 (some (.inl (3))) := ⟨by decide, _, rfl, rfl⟩
theorem fw_X1_18 : Cond.fieldLink RX1 18 (TX1 2).1 (TX1 2).2.1 (TX1 2).2.2.1 ∈ gw_tbl := tw 114 (by decide +kernel) (by decide +kernel)
theorem ar_SEnt_3 : ARR SEnt 6 (3) 0 40 := ⟨by decide, rfl⟩
theorem fd_SEnt_0_3 : FLD SEnt 6 (0) 1 3 (some (.inl (4))) := ⟨by decide, _, rfl, rfl⟩
theorem fw_X1_21 : Cond.fieldLink RX1 21 (TX1 3).1 (TX1 3).2.1 (TX1 3).2.2.1 ∈ gw_tbl := tw 115 (by decide +kernel) (by decide +kernel)
theorem ar_SEnt_4 : ARR SEnt 6 (4) 0 40 := ⟨by decide, rfl⟩
theorem fd_SEnt_0_5 : FLD SEnt 6 (0) 1 5 none := ⟨by decide, _, rfl, rfl⟩
theorem fw_X1_27 : Cond.fieldLink RX1 27 (TX1 5).1 (TX1 5).2.1 (TX1 5).2.2.1 ∈ gw_tbl := tw 117 (by decide +kernel) (by decide +kernel)
theorem fd_SEnt_0_4 : FLD SEnt 6 (0) 1 4 (some (.inl (5))) := ⟨by decide, _, rfl, rfl⟩
theorem fw_X1_24 : Cond.fieldLink RX1 24 (TX1 4).1 (TX1 4).2.1 (TX1 4).2.2.1 ∈ gw_tbl := tw 116 (by decide +kernel) (by decide +kernel)
theorem ar_SEnt_5 : ARR SEnt 6 (5) 0 40 := ⟨by decide, rfl⟩
theorem fd_dbl_6_SEnt_6_0 : FLD (dbl 6 SEnt) 12 (6) 1 0 (some (.inl (7))) := ⟨by decide, _, rfl, rfl⟩
theorem fd_dbl_6_SEnt_0_0 : FLD (dbl 6 SEnt) 12 (0) 1 0 (some (.inl (1))) := ⟨by decide, _, rfl, rfl⟩
theorem ml_X1_37 : Cond.methodLink RX1 37 arraycopyName ∈ gw_tbl := tw 516 (by decide +kernel) (by decide +kernel)
theorem ar_dbl_6_SEnt_7 : ARR (dbl 6 SEnt) 12 (7) 0 40 := ⟨by decide, rfl⟩
theorem ar_dbl_6_SEnt_1 : ARR (dbl 6 SEnt) 12 (1) 0 40 := ⟨by decide, rfl⟩
theorem fd_dbl_6_SEnt_6_1 : FLD (dbl 6 SEnt) 12 (6) 1 1 (some (.inl (8))) := ⟨by decide, _, rfl, rfl⟩
theorem fd_dbl_6_SEnt_0_1 : FLD (dbl 6 SEnt) 12 (0) 1 1 (some (.inl (2))) := ⟨by decide, _, rfl, rfl⟩
theorem ar_dbl_6_SEnt_8 : ARR (dbl 6 SEnt) 12 (8) 0 40 := ⟨by decide, rfl⟩
theorem ar_dbl_6_SEnt_2 : ARR (dbl 6 SEnt) 12 (2) 0 40 := ⟨by decide, rfl⟩
theorem fd_dbl_6_SEnt_6_2 : FLD (dbl 6 SEnt) 12 (6) 1 2 (some (.inl (9))) := ⟨by decide, _, rfl, rfl⟩
theorem fd_dbl_6_SEnt_0_2 : FLD (dbl 6 SEnt) 12 (0) 1 2 (some (.inl (3))) := ⟨by decide, _, rfl, rfl⟩
theorem ar_dbl_6_SEnt_9 : ARR (dbl 6 SEnt) 12 (9) 0 40 := ⟨by decide, rfl⟩
theorem ar_dbl_6_SEnt_3 : ARR (dbl 6 SEnt) 12 (3) 0 40 := ⟨by decide, rfl⟩
theorem fd_dbl_6_SEnt_6_3 : FLD (dbl 6 SEnt) 12 (6) 1 3 (some (.inl (10))) := ⟨by decide, _, rfl, rfl⟩
theorem fd_dbl_6_SEnt_0_3 : FLD (dbl 6 SEnt) 12 (0) 1 3 (some (.inl (4))) := ⟨by decide, _, rfl, rfl⟩
theorem ar_dbl_6_SEnt_10 : ARR (dbl 6 SEnt) 12 (10) 0 40 := ⟨by decide, rfl⟩
theorem ar_dbl_6_SEnt_4 : ARR (dbl 6 SEnt) 12 (4) 0 40 := ⟨by decide, rfl⟩
theorem fd_dbl_6_SEnt_6_6 : FLD (dbl 6 SEnt) 12 (6) 1 6 none := ⟨by decide, _, rfl, rfl⟩
theorem fd_dbl_6_SEnt_0_6 : FLD (dbl 6 SEnt) 12 (0) 1 6 none := ⟨by decide, _, rfl, rfl⟩
theorem fd_dbl_6_SEnt_6_7 : FLD (dbl 6 SEnt) 12 (6) 1 7 none := ⟨by decide, _, rfl, rfl⟩
theorem fd_dbl_6_SEnt_0_7 : FLD (dbl 6 SEnt) 12 (0) 1 7 none := ⟨by decide, _, rfl, rfl⟩
theorem ic_m1 : Int32.ofInt (-1) = -1 := by decide
theorem fd_SPrs_n_0_2 (n : Nat) : FLD (SPrs n) 3 (0) 2 2 none := ⟨by decide, _, rfl, rfl⟩
theorem fw_X2_24 : Cond.fieldLink RX2 24 (TX2 2).1 (TX2 2).2.1 (TX2 2).2.2.1 ∈ gw_tbl := tw 151 (by decide +kernel) (by decide +kernel)
theorem fd_SPrs_n_0_0 (n : Nat) : FLD (SPrs n) 3 (0) 2 0 (some (.inl (1))) := ⟨by decide, _, rfl, rfl⟩
theorem fw_X2_15 : Cond.fieldLink RX2 15 (TX2 0).1 (TX2 0).2.1 (TX2 0).2.2.1 ∈ gw_tbl := tw 147 (by decide +kernel) (by decide +kernel)
theorem ar_SPrs_n_1 (n : Nat) : ARR (SPrs n) 3 (1) 0 n := ⟨by decide, rfl⟩
theorem fd_SPrs_n_0_1 (n : Nat) : FLD (SPrs n) 3 (0) 2 1 (some (.inl (2))) := ⟨by decide, _, rfl, rfl⟩
theorem fw_X2_21 : Cond.fieldLink RX2 21 (TX2 1).1 (TX2 1).2.1 (TX2 1).2.2.1 ∈ gw_tbl := tw 149 (by decide +kernel) (by decide +kernel)
theorem ar_SPrs_n_2 (n : Nat) : ARR (SPrs n) 3 (2) 0 n := ⟨by decide, rfl⟩
theorem bp_m4 : (Int8.ofInt (-4)).toInt32 = -4 := by decide
theorem fd_dbl_3_SPrs_n_3_2 (n : Nat) : FLD (dbl 3 (SPrs n)) 6 (3) 2 2 none := ⟨by decide, _, rfl, rfl⟩
theorem fd_dbl_3_SPrs_n_0_0 (n : Nat) : FLD (dbl 3 (SPrs n)) 6 (0) 2 0 (some (.inl (1))) := ⟨by decide, _, rfl, rfl⟩
theorem ar_dbl_3_SPrs_n_1 (n : Nat) : ARR (dbl 3 (SPrs n)) 6 (1) 0 n := ⟨by decide, rfl⟩
theorem ml_X2_28 : Cond.methodLink RX2 28 Lib.Math.min.name ∈ gw_tbl := tw 521 (by decide +kernel) (by decide +kernel)
theorem mst_min : Cond.static Lib.Math.min.name ∈ gw_tbl := tw 522 (by decide +kernel) (by decide +kernel)
theorem mini_math : Cond.initialized "java/lang/Math" ∈ gw_tbl := tw 7 (by decide +kernel) (by decide +kernel)
theorem mcode_min : Cond.code Lib.Math.min.name Lib.Math.min.code 2 (some .int) ∈ gw_tbl := tw 523 (by decide +kernel) (by decide +kernel)
theorem fd_dbl_3_SPrs_n_0_2 (n : Nat) : FLD (dbl 3 (SPrs n)) 6 (0) 2 2 none := ⟨by decide, _, rfl, rfl⟩
theorem fd_dbl_3_SPrs_n_3_0 (n : Nat) : FLD (dbl 3 (SPrs n)) 6 (3) 2 0 (some (.inl (4))) := ⟨by decide, _, rfl, rfl⟩
theorem ml_X2_31 : Cond.methodLink RX2 31 arraycopyName ∈ gw_tbl := tw 524 (by decide +kernel) (by decide +kernel)
theorem ar_dbl_3_SPrs_n_4 (n : Nat) : ARR (dbl 3 (SPrs n)) 6 (4) 0 n := ⟨by decide, rfl⟩
theorem fd_dbl_3_SPrs_n_3_1 (n : Nat) : FLD (dbl 3 (SPrs n)) 6 (3) 2 1 (some (.inl (5))) := ⟨by decide, _, rfl, rfl⟩
theorem fd_dbl_3_SPrs_n_0_1 (n : Nat) : FLD (dbl 3 (SPrs n)) 6 (0) 2 1 (some (.inl (2))) := ⟨by decide, _, rfl, rfl⟩
theorem ar_dbl_3_SPrs_n_5 (n : Nat) : ARR (dbl 3 (SPrs n)) 6 (5) 0 n := ⟨by decide, rfl⟩
theorem ar_dbl_3_SPrs_n_2 (n : Nat) : ARR (dbl 3 (SPrs n)) 6 (2) 0 n := ⟨by decide, rfl⟩
theorem fd_STap_0_0 : FLD STap 2 (0) 3 0 (some (.inl (1))) := ⟨by decide, _, rfl, rfl⟩
theorem fw_X3_9 : Cond.fieldLink RX3 9 (TX3 0).1 (TX3 0).2.1 (TX3 0).2.2.1 ∈ gw_tbl := tw 246 (by decide +kernel) (by decide +kernel)
theorem ar_STap_1 : ARR STap 2 (1) 1 60 := ⟨by decide, rfl⟩
theorem fd_STap_0_1 : FLD STap 2 (0) 3 1 none := ⟨by decide, _, rfl, rfl⟩
theorem fw_X3_15 : Cond.fieldLink RX3 15 (TX3 1).1 (TX3 1).2.1 (TX3 1).2.2.1 ∈ gw_tbl := tw 248 (by decide +kernel) (by decide +kernel)
theorem fd_STap_0_2 : FLD STap 2 (0) 3 2 none := ⟨by decide, _, rfl, rfl⟩
theorem fw_X3_19 : Cond.fieldLink RX3 19 (TX3 2).1 (TX3 2).2.1 (TX3 2).2.2.1 ∈ gw_tbl := tw 250 (by decide +kernel) (by decide +kernel)
theorem lc_0 : Int64.ofNat ((0 : Fin 2) : Nat) = 0 := by decide
theorem lc_1 : Int64.ofNat ((1 : Fin 2) : Nat) = 1 := by decide
theorem fd_STas_0_8 : FLD STas 9 (0) 4 8 none := ⟨by decide, _, rfl, rfl⟩
theorem fw_X4_36 : Cond.fieldLink RX4 36 (TX4 8).1 (TX4 8).2.1 (TX4 8).2.2.1 ∈ gw_tbl := tw 84 (by decide +kernel) (by decide +kernel)
theorem bp_32 : (Int8.ofInt (32)).toInt32 = 32 := by decide
theorem fd_STas_0_0 : FLD STas 9 (0) 4 0 (some (.inl (1))) := ⟨by decide, _, rfl, rfl⟩
theorem fw_X4_9 : Cond.fieldLink RX4 9 (TX4 0).1 (TX4 0).2.1 (TX4 0).2.2.1 ∈ gw_tbl := tw 65 (by decide +kernel) (by decide +kernel)
theorem ar_STas_1 : ARR STas 9 (1) 0 32 := ⟨by decide, rfl⟩
theorem fd_STas_0_1 : FLD STas 9 (0) 4 1 (some (.inl (2))) := ⟨by decide, _, rfl, rfl⟩
theorem fw_X4_15 : Cond.fieldLink RX4 15 (TX4 1).1 (TX4 1).2.1 (TX4 1).2.2.1 ∈ gw_tbl := tw 67 (by decide +kernel) (by decide +kernel)
theorem ar_STas_2 : ARR STas 9 (2) 0 32 := ⟨by decide, rfl⟩
theorem fd_STas_0_2 : FLD STas 9 (0) 4 2 (some (.inl (3))) := ⟨by decide, _, rfl, rfl⟩
theorem fw_X4_18 : Cond.fieldLink RX4 18 (TX4 2).1 (TX4 2).2.1 (TX4 2).2.2.1 ∈ gw_tbl := tw 69 (by decide +kernel) (by decide +kernel)
theorem ar_STas_3 : ARR STas 9 (3) 0 32 := ⟨by decide, rfl⟩
theorem fd_STas_0_3 : FLD STas 9 (0) 4 3 (some (.inl (4))) := ⟨by decide, _, rfl, rfl⟩
theorem fw_X4_21 : Cond.fieldLink RX4 21 (TX4 3).1 (TX4 3).2.1 (TX4 3).2.2.1 ∈ gw_tbl := tw 71 (by decide +kernel) (by decide +kernel)
theorem ar_STas_4 : ARR STas 9 (4) 0 32 := ⟨by decide, rfl⟩
theorem fd_STas_0_4 : FLD STas 9 (0) 4 4 (some (.inl (5))) := ⟨by decide, _, rfl, rfl⟩
theorem fw_X4_24 : Cond.fieldLink RX4 24 (TX4 4).1 (TX4 4).2.1 (TX4 4).2.2.1 ∈ gw_tbl := tw 74 (by decide +kernel) (by decide +kernel)
theorem ar_STas_5 : ARR STas 9 (5) 0 32 := ⟨by decide, rfl⟩
theorem fd_STas_0_5 : FLD STas 9 (0) 4 5 (some (.inl (6))) := ⟨by decide, _, rfl, rfl⟩
theorem fw_X4_27 : Cond.fieldLink RX4 27 (TX4 5).1 (TX4 5).2.1 (TX4 5).2.2.1 ∈ gw_tbl := tw 77 (by decide +kernel) (by decide +kernel)
theorem ar_STas_6 : ARR STas 9 (6) 0 32 := ⟨by decide, rfl⟩
theorem fd_STas_0_6 : FLD STas 9 (0) 4 6 (some (.inl (7))) := ⟨by decide, _, rfl, rfl⟩
theorem fw_X4_30 : Cond.fieldLink RX4 30 (TX4 6).1 (TX4 6).2.1 (TX4 6).2.2.1 ∈ gw_tbl := tw 80 (by decide +kernel) (by decide +kernel)
theorem ar_STas_7 : ARR STas 9 (7) 0 32 := ⟨by decide, rfl⟩
theorem ic_3 : Int32.ofInt (3) = 3 := by decide
theorem fd_dbl_9_STas_9_8 : FLD (dbl 9 STas) 18 (9) 4 8 none := ⟨by decide, _, rfl, rfl⟩
theorem fd_dbl_9_STas_0_8 : FLD (dbl 9 STas) 18 (0) 4 8 none := ⟨by decide, _, rfl, rfl⟩
theorem fd_dbl_9_STas_9_0 : FLD (dbl 9 STas) 18 (9) 4 0 (some (.inl (10))) := ⟨by decide, _, rfl, rfl⟩
theorem fd_dbl_9_STas_0_0 : FLD (dbl 9 STas) 18 (0) 4 0 (some (.inl (1))) := ⟨by decide, _, rfl, rfl⟩
theorem ml_X4_40 : Cond.methodLink RX4 40 arraycopyName ∈ gw_tbl := tw 511 (by decide +kernel) (by decide +kernel)
theorem ar_dbl_9_STas_10 : ARR (dbl 9 STas) 18 (10) 0 32 := ⟨by decide, rfl⟩
theorem ar_dbl_9_STas_1 : ARR (dbl 9 STas) 18 (1) 0 32 := ⟨by decide, rfl⟩
theorem fd_dbl_9_STas_9_1 : FLD (dbl 9 STas) 18 (9) 4 1 (some (.inl (11))) := ⟨by decide, _, rfl, rfl⟩
theorem fd_dbl_9_STas_0_1 : FLD (dbl 9 STas) 18 (0) 4 1 (some (.inl (2))) := ⟨by decide, _, rfl, rfl⟩
theorem ar_dbl_9_STas_11 : ARR (dbl 9 STas) 18 (11) 0 32 := ⟨by decide, rfl⟩
theorem ar_dbl_9_STas_2 : ARR (dbl 9 STas) 18 (2) 0 32 := ⟨by decide, rfl⟩
theorem fd_dbl_9_STas_9_2 : FLD (dbl 9 STas) 18 (9) 4 2 (some (.inl (12))) := ⟨by decide, _, rfl, rfl⟩
theorem fd_dbl_9_STas_0_2 : FLD (dbl 9 STas) 18 (0) 4 2 (some (.inl (3))) := ⟨by decide, _, rfl, rfl⟩
theorem ar_dbl_9_STas_12 : ARR (dbl 9 STas) 18 (12) 0 32 := ⟨by decide, rfl⟩
theorem ar_dbl_9_STas_3 : ARR (dbl 9 STas) 18 (3) 0 32 := ⟨by decide, rfl⟩
theorem fd_dbl_9_STas_9_3 : FLD (dbl 9 STas) 18 (9) 4 3 (some (.inl (13))) := ⟨by decide, _, rfl, rfl⟩
theorem fd_dbl_9_STas_0_3 : FLD (dbl 9 STas) 18 (0) 4 3 (some (.inl (4))) := ⟨by decide, _, rfl, rfl⟩
theorem ar_dbl_9_STas_13 : ARR (dbl 9 STas) 18 (13) 0 32 := ⟨by decide, rfl⟩
theorem ar_dbl_9_STas_4 : ARR (dbl 9 STas) 18 (4) 0 32 := ⟨by decide, rfl⟩
theorem fd_dbl_9_STas_9_4 : FLD (dbl 9 STas) 18 (9) 4 4 (some (.inl (14))) := ⟨by decide, _, rfl, rfl⟩
theorem fd_dbl_9_STas_0_4 : FLD (dbl 9 STas) 18 (0) 4 4 (some (.inl (5))) := ⟨by decide, _, rfl, rfl⟩
theorem ar_dbl_9_STas_14 : ARR (dbl 9 STas) 18 (14) 0 32 := ⟨by decide, rfl⟩
theorem ar_dbl_9_STas_5 : ARR (dbl 9 STas) 18 (5) 0 32 := ⟨by decide, rfl⟩
theorem fd_dbl_9_STas_9_5 : FLD (dbl 9 STas) 18 (9) 4 5 (some (.inl (15))) := ⟨by decide, _, rfl, rfl⟩
theorem fd_dbl_9_STas_0_5 : FLD (dbl 9 STas) 18 (0) 4 5 (some (.inl (6))) := ⟨by decide, _, rfl, rfl⟩
theorem ar_dbl_9_STas_15 : ARR (dbl 9 STas) 18 (15) 0 32 := ⟨by decide, rfl⟩
theorem ar_dbl_9_STas_6 : ARR (dbl 9 STas) 18 (6) 0 32 := ⟨by decide, rfl⟩
theorem fd_dbl_9_STas_9_6 : FLD (dbl 9 STas) 18 (9) 4 6 (some (.inl (16))) := ⟨by decide, _, rfl, rfl⟩
theorem fd_dbl_9_STas_0_6 : FLD (dbl 9 STas) 18 (0) 4 6 (some (.inl (7))) := ⟨by decide, _, rfl, rfl⟩
theorem ar_dbl_9_STas_16 : ARR (dbl 9 STas) 18 (16) 0 32 := ⟨by decide, rfl⟩
theorem ar_dbl_9_STas_7 : ARR (dbl 9 STas) 18 (7) 0 32 := ⟨by decide, rfl⟩
theorem ic_4 : Int32.ofInt (4) = 4 := by decide
theorem ml_X4_46 : Cond.methodLink RX4 46 yX4_has ∈ gw_tbl := tw 378 (by decide +kernel) (by decide +kernel)
theorem cb_X4_has : CB yX4_has cX4_has 2 (some .boolean) 1 := ⟨(tw 288 (by decide +kernel) (by decide +kernel)), (tw 289 (by decide +kernel) (by decide +kernel)), (tw 4 (by decide +kernel) (by decide +kernel)), (tw 290 (by decide +kernel) (by decide +kernel)), by decide +kernel⟩
theorem ob_STas : OBJ STas 9 0 4 := ⟨by decide, _, rfl⟩
theorem ic_2 : Int32.ofInt (2) = 2 := by decide
theorem fd_STas_0_7 : FLD STas 9 (0) 4 7 (some (.inl (8))) := ⟨by decide, _, rfl, rfl⟩
theorem fw_X4_33 : Cond.fieldLink RX4 33 (TX4 7).1 (TX4 7).2.1 (TX4 7).2.2.1 ∈ gw_tbl := tw 83 (by decide +kernel) (by decide +kernel)
theorem ar_STas_8 : ARR STas 9 (8) 0 32 := ⟨by decide, rfl⟩
theorem ml_X4_50 : Cond.methodLink RX4 50 Lib.Math.max.name ∈ gw_tbl := tw 365 (by decide +kernel) (by decide +kernel)
theorem mst_max : Cond.static Lib.Math.max.name ∈ gw_tbl := tw 145 (by decide +kernel) (by decide +kernel)
theorem mcode_max : Cond.code Lib.Math.max.name Lib.Math.max.code 2 (some .int) ∈ gw_tbl := tw 146 (by decide +kernel) (by decide +kernel)
theorem ml_X4_56 : Cond.methodLink RX4 56 yX4_isBelow ∈ gw_tbl := tw 370 (by decide +kernel) (by decide +kernel)
theorem cb_X4_isBelow : CB yX4_isBelow cX4_isBelow 5 (some .boolean) 2 := ⟨(tw 371 (by decide +kernel) (by decide +kernel)), (tw 372 (by decide +kernel) (by decide +kernel)), (tw 4 (by decide +kernel) (by decide +kernel)), (tw 373 (by decide +kernel) (by decide +kernel)), by decide +kernel⟩
theorem fd_STxt_0_1 : FLD STxt 7 (0) 5 1 none := ⟨by decide, _, rfl, rfl⟩
theorem fw_X5_15 : Cond.fieldLink RX5 15 (TX5 1).1 (TX5 1).2.1 (TX5 1).2.2.1 ∈ gw_tbl := tw 204 (by decide +kernel) (by decide +kernel)
theorem fd_STxt_0_0 : FLD STxt 7 (0) 5 0 (some (.inl (1))) := ⟨by decide, _, rfl, rfl⟩
theorem fw_X5_9 : Cond.fieldLink RX5 9 (TX5 0).1 (TX5 0).2.1 (TX5 0).2.2.1 ∈ gw_tbl := tw 203 (by decide +kernel) (by decide +kernel)
theorem ar_STxt_1 : ARR STxt 7 (1) 0 100 := ⟨by decide, rfl⟩
theorem fd_STxt_0_5 : FLD STxt 7 (0) 5 5 none := ⟨by decide, _, rfl, rfl⟩
theorem fw_X5_28 : Cond.fieldLink RX5 28 (TX5 5).1 (TX5 5).2.1 (TX5 5).2.2.1 ∈ gw_tbl := tw 212 (by decide +kernel) (by decide +kernel)
theorem fd_STxt_0_2 : FLD STxt 7 (0) 5 2 (some (.inl (2))) := ⟨by decide, _, rfl, rfl⟩
theorem fw_X5_19 : Cond.fieldLink RX5 19 (TX5 2).1 (TX5 2).2.1 (TX5 2).2.2.1 ∈ gw_tbl := tw 206 (by decide +kernel) (by decide +kernel)
theorem ar_STxt_2 : ARR STxt 7 (2) 0 100 := ⟨by decide, rfl⟩
theorem fd_STxt_0_3 : FLD STxt 7 (0) 5 3 (some (.inl (3))) := ⟨by decide, _, rfl, rfl⟩
theorem fw_X5_22 : Cond.fieldLink RX5 22 (TX5 3).1 (TX5 3).2.1 (TX5 3).2.2.1 ∈ gw_tbl := tw 208 (by decide +kernel) (by decide +kernel)
theorem ar_STxt_3 : ARR STxt 7 (3) 0 100 := ⟨by decide, rfl⟩
theorem fd_STxt_0_4 : FLD STxt 7 (0) 5 4 (some (.inl (4))) := ⟨by decide, _, rfl, rfl⟩
theorem fw_X5_25 : Cond.fieldLink RX5 25 (TX5 4).1 (TX5 4).2.1 (TX5 4).2.2.1 ∈ gw_tbl := tw 210 (by decide +kernel) (by decide +kernel)
theorem ar_STxt_4 : ARR STxt 7 (4) 0 100 := ⟨by decide, rfl⟩
theorem fd_STxt_0_8 : FLD STxt 7 (0) 5 8 none := ⟨by decide, _, rfl, rfl⟩
theorem fw_X5_37 : Cond.fieldLink RX5 37 (TX5 8).1 (TX5 8).2.1 (TX5 8).2.2.1 ∈ gw_tbl := tw 216 (by decide +kernel) (by decide +kernel)
theorem fd_STxt_0_6 : FLD STxt 7 (0) 5 6 (some (.inl (5))) := ⟨by decide, _, rfl, rfl⟩
theorem fw_X5_31 : Cond.fieldLink RX5 31 (TX5 6).1 (TX5 6).2.1 (TX5 6).2.2.1 ∈ gw_tbl := tw 214 (by decide +kernel) (by decide +kernel)
theorem ar_STxt_5 : ARR STxt 7 (5) 0 4 := ⟨by decide, rfl⟩
theorem fd_STxt_0_7 : FLD STxt 7 (0) 5 7 (some (.inl (6))) := ⟨by decide, _, rfl, rfl⟩
theorem fw_X5_34 : Cond.fieldLink RX5 34 (TX5 7).1 (TX5 7).2.1 (TX5 7).2.2.1 ∈ gw_tbl := tw 215 (by decide +kernel) (by decide +kernel)
theorem ar_STxt_6 : ARR STxt 7 (6) 0 4 := ⟨by decide, rfl⟩
theorem fd_STxt_0_9 : FLD STxt 7 (0) 5 9 none := ⟨by decide, _, rfl, rfl⟩
theorem fw_X5_40 : Cond.fieldLink RX5 40 (TX5 9).1 (TX5 9).2.1 (TX5 9).2.2.1 ∈ gw_tbl := tw 217 (by decide +kernel) (by decide +kernel)
theorem bp_6 : (Int8.ofInt (6)).toInt32 = 6 := by decide
theorem ml_X5_50 : Cond.methodLink RX5 50 yX5_marks ∈ gw_tbl := tw 331 (by decide +kernel) (by decide +kernel)
theorem cb_X5_marks : CB yX5_marks cX5_marks 2 (some .boolean) 1 := ⟨(tw 333 (by decide +kernel) (by decide +kernel)), (tp 3 (by decide +kernel) (by decide +kernel)), (tw 8 (by decide +kernel) (by decide +kernel)), (tw 334 (by decide +kernel) (by decide +kernel)), by decide +kernel⟩
theorem ob_STxt : OBJ STxt 7 0 5 := ⟨by decide, _, rfl⟩
theorem ml_X5_53 : Cond.methodLink RX5 53 yX5_opens ∈ gw_tbl := tw 335 (by decide +kernel) (by decide +kernel)
theorem cb_X5_opens : CB yX5_opens cX5_opens 1 (some .boolean) 0 := ⟨(tw 337 (by decide +kernel) (by decide +kernel)), (tp 4 (by decide +kernel) (by decide +kernel)), (tw 8 (by decide +kernel) (by decide +kernel)), (tw 338 (by decide +kernel) (by decide +kernel)), by decide +kernel⟩
theorem ml_X5_60 : Cond.methodLink RX5 60 yX5_closes ∈ gw_tbl := tw 343 (by decide +kernel) (by decide +kernel)
theorem cb_X5_closes : CB yX5_closes cX5_closes 1 (some .boolean) 0 := ⟨(tw 345 (by decide +kernel) (by decide +kernel)), (tp 6 (by decide +kernel) (by decide +kernel)), (tw 8 (by decide +kernel) (by decide +kernel)), (tw 346 (by decide +kernel) (by decide +kernel)), by decide +kernel⟩
theorem ml_X5_57 : Cond.methodLink RX5 57 yX5_separates ∈ gw_tbl := tw 339 (by decide +kernel) (by decide +kernel)
theorem cb_X5_separates : CB yX5_separates cX5_separates 1 (some .boolean) 0 := ⟨(tw 341 (by decide +kernel) (by decide +kernel)), (tp 5 (by decide +kernel) (by decide +kernel)), (tw 8 (by decide +kernel) (by decide +kernel)), (tw 342 (by decide +kernel) (by decide +kernel)), by decide +kernel⟩
theorem bp_49 : (Int8.ofInt (49)).toInt32 = 49 := by decide
theorem bp_57 : (Int8.ofInt (57)).toInt32 = 57 := by decide
theorem bp_48 : (Int8.ofInt (48)).toInt32 = 48 := by decide
theorem ml_X5_47 : Cond.methodLink RX5 47 yX5_begin ∈ gw_tbl := tw 327 (by decide +kernel) (by decide +kernel)
theorem cb_X5_begin : CB yX5_begin cX5_begin 2 (some .boolean) 1 := ⟨(tw 329 (by decide +kernel) (by decide +kernel)), (tp 2 (by decide +kernel) (by decide +kernel)), (tw 8 (by decide +kernel) (by decide +kernel)), (tw 330 (by decide +kernel) (by decide +kernel)), by decide +kernel⟩
theorem ml_X5_43 : Cond.methodLink RX5 43 yX5_goesOn ∈ gw_tbl := tw 323 (by decide +kernel) (by decide +kernel)
theorem cb_X5_goesOn : CB yX5_goesOn cX5_goesOn 2 (some .boolean) 1 := ⟨(tw 325 (by decide +kernel) (by decide +kernel)), (tp 1 (by decide +kernel) (by decide +kernel)), (tw 8 (by decide +kernel) (by decide +kernel)), (tw 326 (by decide +kernel) (by decide +kernel)), by decide +kernel⟩
theorem fd_SWor_0_6 : FLD SWor 34 (0) 6 6 none := ⟨by decide, _, rfl, rfl⟩
theorem fw_X6_47 : Cond.fieldLink RX6 47 (TX6 6).1 (TX6 6).2.1 (TX6 6).2.2.1 ∈ gw_tbl := tw 172 (by decide +kernel) (by decide +kernel)
theorem fd_SWor_0_0 : FLD SWor 34 (0) 6 0 (some (.inl (1))) := ⟨by decide, _, rfl, rfl⟩
theorem fw_X6_11 : Cond.fieldLink RX6 11 (TX6 0).1 (TX6 0).2.1 (TX6 0).2.2.1 ∈ gw_tbl := tw 160 (by decide +kernel) (by decide +kernel)
theorem rr_SWor_1 : RAR SWor 34 (1) 3 4 (fun j => gArm (j)) := ⟨by decide, rfl⟩
theorem fd_SWor_gArm_2 (a : Nat) : FLD SWor 34 (gArm (a)) 0 2 none := fld_sub (i := 0) (sub_Wor_arm (a)) (⟨by decide, _, rfl, rfl⟩ : FLD SArm 2 0 0 2 none)
theorem fw_X6_70 : Cond.fieldLink RX6 70 (TX0 2).1 (TX0 2).2.1 (TX0 2).2.2.1 ∈ gw_tbl := tw 39 (by decide +kernel) (by decide +kernel)
theorem ml_X6_172 : Cond.methodLink RX6 172 yX0_holds ∈ gw_tbl := tw 387 (by decide +kernel) (by decide +kernel)
theorem cb_X0_holds : CB yX0_holds cX0_holds 3 (some .boolean) 1 := ⟨(tw 388 (by decide +kernel) (by decide +kernel)), (tw 389 (by decide +kernel) (by decide +kernel)), (tw 3 (by decide +kernel) (by decide +kernel)), (tw 390 (by decide +kernel) (by decide +kernel)), by decide +kernel⟩
theorem fd_dbl_34_SWor_0_0 : FLD (dbl 34 SWor) 68 (0) 6 0 (some (.inl (1))) := ⟨by decide, _, rfl, rfl⟩
theorem rr_dbl_34_SWor_1 : RAR (dbl 34 SWor) 68 (1) 3 4 (fun j => gArm (j)) := ⟨by decide, rfl⟩
theorem fd_dbl_34_SWor_0_1 : FLD (dbl 34 SWor) 68 (0) 6 1 (some (.inl (10))) := ⟨by decide, _, rfl, rfl⟩
theorem fw_X6_21 : Cond.fieldLink RX6 21 (TX6 1).1 (TX6 1).2.1 (TX6 1).2.2.1 ∈ gw_tbl := tw 162 (by decide +kernel) (by decide +kernel)
theorem fd_dbl_34_SWor_34_1 : FLD (dbl 34 SWor) 68 (34) 6 1 (some (.inl (44))) := ⟨by decide, _, rfl, rfl⟩
theorem ml_X6_61 : Cond.methodLink RX6 61 yX4_become ∈ gw_tbl := tw 507 (by decide +kernel) (by decide +kernel)
theorem cb_X4_become : CB yX4_become cX4_become 2 none 1 := ⟨(tw 508 (by decide +kernel) (by decide +kernel)), (tw 509 (by decide +kernel) (by decide +kernel)), (tw 4 (by decide +kernel) (by decide +kernel)), (tw 510 (by decide +kernel) (by decide +kernel)), by decide +kernel⟩
theorem sub_dbl_10 : SUB (dbl 34 SWor) 68 STas 9 (fun i => 10 + i) := sub_0 (sub_tr (sub_dbl1 clo_Wor) sub_Wor_tas)
theorem sub_dbl_44 : SUB (dbl 34 SWor) 68 STas 9 (fun i => 44 + i) := sub_tr (sub_dbl2 (S' := SWor) (n := 34)) sub_Wor_tas
theorem ob_dbl_9_STas : OBJ (dbl 9 STas) 18 0 4 := ⟨by decide, _, rfl⟩
theorem fd_dbl_34_SWor_0_2 : FLD (dbl 34 SWor) 68 (0) 6 2 (some (.inl (19))) := ⟨by decide, _, rfl, rfl⟩
theorem fw_X6_28 : Cond.fieldLink RX6 28 (TX6 2).1 (TX6 2).2.1 (TX6 2).2.2.1 ∈ gw_tbl := tw 164 (by decide +kernel) (by decide +kernel)
theorem fd_dbl_34_SWor_34_2 : FLD (dbl 34 SWor) 68 (34) 6 2 (some (.inl (53))) := ⟨by decide, _, rfl, rfl⟩
theorem ml_X6_64 : Cond.methodLink RX6 64 yX1_become ∈ gw_tbl := tw 512 (by decide +kernel) (by decide +kernel)
theorem cb_X1_become : CB yX1_become cX1_become 2 none 1 := ⟨(tw 513 (by decide +kernel) (by decide +kernel)), (tw 514 (by decide +kernel) (by decide +kernel)), (tw 5 (by decide +kernel) (by decide +kernel)), (tw 515 (by decide +kernel) (by decide +kernel)), by decide +kernel⟩
theorem sub_dbl_19 : SUB (dbl 34 SWor) 68 SEnt 6 (fun i => 19 + i) := sub_0 (sub_tr (sub_dbl1 clo_Wor) sub_Wor_ent)
theorem sub_dbl_53 : SUB (dbl 34 SWor) 68 SEnt 6 (fun i => 53 + i) := sub_tr (sub_dbl2 (S' := SWor) (n := 34)) sub_Wor_ent
theorem ob_dbl_6_SEnt : OBJ (dbl 6 SEnt) 12 0 1 := ⟨by decide, _, rfl⟩
theorem fd_dbl_34_SWor_0_3 : FLD (dbl 34 SWor) 68 (0) 6 3 (some (.inl (25))) := ⟨by decide, _, rfl, rfl⟩
theorem fw_X6_37 : Cond.fieldLink RX6 37 (TX6 3).1 (TX6 3).2.1 (TX6 3).2.2.1 ∈ gw_tbl := tw 166 (by decide +kernel) (by decide +kernel)
theorem fd_dbl_34_SWor_34_3 : FLD (dbl 34 SWor) 68 (34) 6 3 (some (.inl (59))) := ⟨by decide, _, rfl, rfl⟩
theorem ml_X6_67 : Cond.methodLink RX6 67 yX2_become ∈ gw_tbl := tw 517 (by decide +kernel) (by decide +kernel)
theorem cb_X2_become : CB yX2_become cX2_become 2 none 1 := ⟨(tw 518 (by decide +kernel) (by decide +kernel)), (tw 519 (by decide +kernel) (by decide +kernel)), (tw 6 (by decide +kernel) (by decide +kernel)), (tw 520 (by decide +kernel) (by decide +kernel)), by decide +kernel⟩
theorem sub_dbl_25 : SUB (dbl 34 SWor) 68 (SPrs 5) 3 (fun i => 25 + i) := sub_0 (sub_tr (sub_dbl1 clo_Wor) sub_Wor_seen)
theorem sub_dbl_59 : SUB (dbl 34 SWor) 68 (SPrs 5) 3 (fun i => 59 + i) := sub_tr (sub_dbl2 (S' := SWor) (n := 34)) sub_Wor_seen
theorem ob_dbl_3_SPrs_n (n : Nat) : OBJ (dbl 3 (SPrs n)) 6 0 2 := ⟨by decide, _, rfl⟩
theorem fd_dbl_34_SWor_0_4 : FLD (dbl 34 SWor) 68 (0) 6 4 (some (.inl (28))) := ⟨by decide, _, rfl, rfl⟩
theorem fw_X6_41 : Cond.fieldLink RX6 41 (TX6 4).1 (TX6 4).2.1 (TX6 4).2.2.1 ∈ gw_tbl := tw 168 (by decide +kernel) (by decide +kernel)
theorem fd_dbl_34_SWor_34_4 : FLD (dbl 34 SWor) 68 (34) 6 4 (some (.inl (62))) := ⟨by decide, _, rfl, rfl⟩
theorem sub_dbl_28 : SUB (dbl 34 SWor) 68 (SPrs 10) 3 (fun i => 28 + i) := sub_0 (sub_tr (sub_dbl1 clo_Wor) sub_Wor_plan)
theorem sub_dbl_62 : SUB (dbl 34 SWor) 68 (SPrs 10) 3 (fun i => 62 + i) := sub_tr (sub_dbl2 (S' := SWor) (n := 34)) sub_Wor_plan
theorem fd_dbl_34_SWor_0_5 : FLD (dbl 34 SWor) 68 (0) 6 5 (some (.inl (31))) := ⟨by decide, _, rfl, rfl⟩
theorem fw_X6_44 : Cond.fieldLink RX6 44 (TX6 5).1 (TX6 5).2.1 (TX6 5).2.2.1 ∈ gw_tbl := tw 170 (by decide +kernel) (by decide +kernel)
theorem fd_dbl_34_SWor_34_5 : FLD (dbl 34 SWor) 68 (34) 6 5 (some (.inl (65))) := ⟨by decide, _, rfl, rfl⟩
theorem sub_dbl_31 : SUB (dbl 34 SWor) 68 (SPrs 8) 3 (fun i => 31 + i) := sub_0 (sub_tr (sub_dbl1 clo_Wor) sub_Wor_book)
theorem sub_dbl_65 : SUB (dbl 34 SWor) 68 (SPrs 8) 3 (fun i => 65 + i) := sub_tr (sub_dbl2 (S' := SWor) (n := 34)) sub_Wor_book
theorem fd_dbl_34_SWor_34_6 : FLD (dbl 34 SWor) 68 (34) 6 6 none := ⟨by decide, _, rfl, rfl⟩
theorem fd_dbl_34_SWor_0_6 : FLD (dbl 34 SWor) 68 (0) 6 6 none := ⟨by decide, _, rfl, rfl⟩
theorem fd_dbl_34_SWor_34_7 : FLD (dbl 34 SWor) 68 (34) 6 7 none := ⟨by decide, _, rfl, rfl⟩
theorem fw_X6_51 : Cond.fieldLink RX6 51 (TX6 7).1 (TX6 7).2.1 (TX6 7).2.2.1 ∈ gw_tbl := tw 174 (by decide +kernel) (by decide +kernel)
theorem fd_dbl_34_SWor_0_7 : FLD (dbl 34 SWor) 68 (0) 6 7 none := ⟨by decide, _, rfl, rfl⟩
theorem fd_dbl_34_SWor_34_8 : FLD (dbl 34 SWor) 68 (34) 6 8 none := ⟨by decide, _, rfl, rfl⟩
theorem fw_X6_54 : Cond.fieldLink RX6 54 (TX6 8).1 (TX6 8).2.1 (TX6 8).2.2.1 ∈ gw_tbl := tw 176 (by decide +kernel) (by decide +kernel)
theorem fd_dbl_34_SWor_0_8 : FLD (dbl 34 SWor) 68 (0) 6 8 none := ⟨by decide, _, rfl, rfl⟩
theorem fd_dbl_34_SWor_34_0 : FLD (dbl 34 SWor) 68 (34) 6 0 (some (.inl (35))) := ⟨by decide, _, rfl, rfl⟩
theorem rr_dbl_34_SWor_35 : RAR (dbl 34 SWor) 68 (35) 3 4 (fun j => 34 + gArm (j)) := ⟨by decide, rfl⟩
theorem ml_X6_57 : Cond.methodLink RX6 57 yX0_become ∈ gw_tbl := tw 500 (by decide +kernel) (by decide +kernel)
theorem cb_X0_become : CB yX0_become cX0_become 2 none 1 := ⟨(tw 501 (by decide +kernel) (by decide +kernel)), (tw 502 (by decide +kernel) (by decide +kernel)), (tw 3 (by decide +kernel) (by decide +kernel)), (tw 503 (by decide +kernel) (by decide +kernel)), by decide +kernel⟩
theorem ob_dbl_2_SArm : OBJ (dbl 2 SArm) 4 0 0 := ⟨by decide, _, rfl⟩
theorem fd_SWor_0_1 : FLD SWor 34 (0) 6 1 (some (.inl (10))) := ⟨by decide, _, rfl, rfl⟩
theorem fd_SWor_10_8 : FLD SWor 34 (10) 4 8 none := ⟨by decide, _, rfl, rfl⟩
theorem fw_X6_93 : Cond.fieldLink RX6 93 (TX4 8).1 (TX4 8).2.1 (TX4 8).2.2.1 ∈ gw_tbl := tw 85 (by decide +kernel) (by decide +kernel)
theorem fd_SWor_10_3 : FLD SWor 34 (10) 4 3 (some (.inl (14))) := ⟨by decide, _, rfl, rfl⟩
theorem fw_X6_77 : Cond.fieldLink RX6 77 (TX4 3).1 (TX4 3).2.1 (TX4 3).2.2.1 ∈ gw_tbl := tw 72 (by decide +kernel) (by decide +kernel)
theorem ar_SWor_14 : ARR SWor 34 (14) 0 32 := ⟨by decide, rfl⟩
theorem ml_X6_166 : Cond.methodLink RX6 166 yX4_isBelow ∈ gw_tbl := tw 473 (by decide +kernel) (by decide +kernel)
theorem ic_5 : Int32.ofInt (5) = 5 := by decide
theorem fd_SWor_0_2 : FLD SWor 34 (0) 6 2 (some (.inl (19))) := ⟨by decide, _, rfl, rfl⟩
theorem fd_SWor_0_8 : FLD SWor 34 (0) 6 8 none := ⟨by decide, _, rfl, rfl⟩
theorem ml_X6_139 : Cond.methodLink RX6 139 yX1_add ∈ gw_tbl := tw 437 (by decide +kernel) (by decide +kernel)
theorem cb_X1_add : CB yX1_add cX1_add 6 none 4 := ⟨(tw 438 (by decide +kernel) (by decide +kernel)), (tw 439 (by decide +kernel) (by decide +kernel)), (tw 5 (by decide +kernel) (by decide +kernel)), (tw 440 (by decide +kernel) (by decide +kernel)), by decide +kernel⟩
theorem ob_SEnt : OBJ SEnt 6 0 1 := ⟨by decide, _, rfl⟩
theorem ml_X6_169 : Cond.methodLink RX6 169 yX0_drop ∈ gw_tbl := tw 474 (by decide +kernel) (by decide +kernel)
theorem fd_SWor_10_4 : FLD SWor 34 (10) 4 4 (some (.inl (15))) := ⟨by decide, _, rfl, rfl⟩
theorem fw_X6_153 : Cond.fieldLink RX6 153 (TX4 4).1 (TX4 4).2.1 (TX4 4).2.2.1 ∈ gw_tbl := tw 76 (by decide +kernel) (by decide +kernel)
theorem ar_SWor_15 : ARR SWor 34 (15) 0 32 := ⟨by decide, rfl⟩
theorem ml_X6_156 : Cond.methodLink RX6 156 yX4_isJoining ∈ gw_tbl := tw 465 (by decide +kernel) (by decide +kernel)
theorem cb_X4_isJoining : CB yX4_isJoining cX4_isJoining 2 (some .boolean) 1 := ⟨(tw 466 (by decide +kernel) (by decide +kernel)), (tw 467 (by decide +kernel) (by decide +kernel)), (tw 4 (by decide +kernel) (by decide +kernel)), (tw 468 (by decide +kernel) (by decide +kernel)), by decide +kernel⟩
theorem fd_SWor_10_5 : FLD SWor 34 (10) 4 5 (some (.inl (16))) := ⟨by decide, _, rfl, rfl⟩
theorem fw_X6_144 : Cond.fieldLink RX6 144 (TX4 5).1 (TX4 5).2.1 (TX4 5).2.2.1 ∈ gw_tbl := tw 79 (by decide +kernel) (by decide +kernel)
theorem ar_SWor_16 : ARR SWor 34 (16) 0 32 := ⟨by decide, rfl⟩
theorem ml_X6_159 : Cond.methodLink RX6 159 yX6_cancelFrom ∈ gw_tbl := tw 469 (by decide +kernel) (by decide +kernel)
theorem cb_X6_cancelFrom : CB yX6_cancelFrom cX6_cancelFrom 6 (some .int) 2 := ⟨(tw 471 (by decide +kernel) (by decide +kernel)), (tp 11 (by decide +kernel) (by decide +kernel)), (tw 2 (by decide +kernel) (by decide +kernel)), (tw 472 (by decide +kernel) (by decide +kernel)), by decide +kernel⟩
theorem ob_SWor : OBJ SWor 34 0 6 := ⟨by decide, _, rfl⟩
theorem fd_SWor_10_6 : FLD SWor 34 (10) 4 6 (some (.inl (17))) := ⟨by decide, _, rfl, rfl⟩
theorem fw_X6_163 : Cond.fieldLink RX6 163 (TX4 6).1 (TX4 6).2.1 (TX4 6).2.2.1 ∈ gw_tbl := tw 82 (by decide +kernel) (by decide +kernel)
theorem ar_SWor_17 : ARR SWor 34 (17) 0 32 := ⟨by decide, rfl⟩
theorem ml_X6_147 : Cond.methodLink RX6 147 yX4_allInAreEnded ∈ gw_tbl := tw 449 (by decide +kernel) (by decide +kernel)
theorem cb_X4_allInAreEnded : CB yX4_allInAreEnded cX4_allInAreEnded 3 (some .boolean) 1 := ⟨(tw 450 (by decide +kernel) (by decide +kernel)), (tw 451 (by decide +kernel) (by decide +kernel)), (tw 4 (by decide +kernel) (by decide +kernel)), (tw 452 (by decide +kernel) (by decide +kernel)), by decide +kernel⟩
theorem ml_X6_150 : Cond.methodLink RX6 150 yX4_finish ∈ gw_tbl := tw 453 (by decide +kernel) (by decide +kernel)
theorem cb_X4_finish : CB yX4_finish cX4_finish 4 none 1 := ⟨(tw 454 (by decide +kernel) (by decide +kernel)), (tw 455 (by decide +kernel) (by decide +kernel)), (tw 4 (by decide +kernel) (by decide +kernel)), (tw 456 (by decide +kernel) (by decide +kernel)), by decide +kernel⟩
theorem ml_X6_120 : Cond.methodLink RX6 120 yX6_tellUpward ∈ gw_tbl := tw 461 (by decide +kernel) (by decide +kernel)
theorem cb_X6_tellUpward : CB yX6_tellUpward cX6_tellUpward 5 none 1 := ⟨(tw 463 (by decide +kernel) (by decide +kernel)), (tp 10 (by decide +kernel) (by decide +kernel)), (tw 2 (by decide +kernel) (by decide +kernel)), (tw 464 (by decide +kernel) (by decide +kernel)), by decide +kernel⟩
theorem ml_X6_73 : Cond.methodLink RX6 73 yX4_has ∈ gw_tbl := tw 287 (by decide +kernel) (by decide +kernel)
theorem ml_X6_81 : Cond.methodLink RX6 81 yX0_put ∈ gw_tbl := tw 291 (by decide +kernel) (by decide +kernel)
theorem cb_X0_put : CB yX0_put cX0_put 2 none 1 := ⟨(tw 292 (by decide +kernel) (by decide +kernel)), (tw 293 (by decide +kernel) (by decide +kernel)), (tw 3 (by decide +kernel) (by decide +kernel)), (tw 294 (by decide +kernel) (by decide +kernel)), by decide +kernel⟩
theorem fd_SWor_gArm_1 (a : Nat) : FLD SWor 34 (gArm (a)) 0 1 none := fld_sub (i := 0) (sub_Wor_arm (a)) (⟨by decide, _, rfl, rfl⟩ : FLD SArm 2 0 0 1 none)
theorem fw_X6_84 : Cond.fieldLink RX6 84 (TX0 1).1 (TX0 1).2.1 (TX0 1).2.2.1 ∈ gw_tbl := tw 36 (by decide +kernel) (by decide +kernel)
theorem ml_X6_90 : Cond.methodLink RX6 90 yX0_clear ∈ gw_tbl := tw 295 (by decide +kernel) (by decide +kernel)
theorem cb_X0_clear : CB yX0_clear cX0_clear 1 none 0 := ⟨(tw 296 (by decide +kernel) (by decide +kernel)), (tw 297 (by decide +kernel) (by decide +kernel)), (tw 3 (by decide +kernel) (by decide +kernel)), (tw 298 (by decide +kernel) (by decide +kernel)), by decide +kernel⟩
theorem fd_SWor_gArm_0 (a : Nat) : FLD SWor 34 (gArm (a)) 0 0 (some (.inl (gArm (a) + 1))) := fld_sub (i := 0) (sub_Wor_arm (a)) (⟨by decide, _, rfl, rfl⟩ : FLD SArm 2 0 0 0 (some (.inl 1)))
theorem fw_X6_87 : Cond.fieldLink RX6 87 (TX0 0).1 (TX0 0).2.1 (TX0 0).2.2.1 ∈ gw_tbl := tw 34 (by decide +kernel) (by decide +kernel)
theorem ar_SWor_gArm_1 (a : Nat) : ARR SWor 34 (gArm (a) + 1) 0 32 := arr_sub (i := 1) (sub_Wor_arm (a)) (⟨by decide, rfl⟩ : ARR SArm 2 1 0 32)
theorem fd_SWor_0_7 : FLD SWor 34 (0) 6 7 none := ⟨by decide, _, rfl, rfl⟩
theorem kw_X6_143 : Cond.constant RX6 143 (1103515245) ∈ gw_tbl := tw 428 (by decide +kernel) (by decide +kernel)
theorem sp_12345 : (Int16.ofInt (12345)).toInt32 = 12345 := by decide
theorem bp_16 : (Int8.ofInt (16)).toInt32 = 16 := by decide
theorem ml_X6_103 : Cond.methodLink RX6 103 yX4_isEnded ∈ gw_tbl := tw 457 (by decide +kernel) (by decide +kernel)
theorem cb_X4_isEnded : CB yX4_isEnded cX4_isEnded 2 (some .boolean) 1 := ⟨(tw 458 (by decide +kernel) (by decide +kernel)), (tw 459 (by decide +kernel) (by decide +kernel)), (tw 4 (by decide +kernel) (by decide +kernel)), (tw 460 (by decide +kernel) (by decide +kernel)), by decide +kernel⟩
theorem ml_X6_123 : Cond.methodLink RX6 123 yX0_takeNear ∈ gw_tbl := tw 419 (by decide +kernel) (by decide +kernel)
theorem cb_X0_takeNear : CB yX0_takeNear cX0_takeNear 2 (some .int) 0 := ⟨(tw 420 (by decide +kernel) (by decide +kernel)), (tw 421 (by decide +kernel) (by decide +kernel)), (tw 3 (by decide +kernel) (by decide +kernel)), (tw 422 (by decide +kernel) (by decide +kernel)), by decide +kernel⟩
theorem ml_X6_127 : Cond.methodLink RX6 127 yX6_drawnArm ∈ gw_tbl := tw 424 (by decide +kernel) (by decide +kernel)
theorem cb_X6_drawnArm : CB yX6_drawnArm cX6_drawnArm 5 (some .int) 1 := ⟨(tw 426 (by decide +kernel) (by decide +kernel)), (tp 8 (by decide +kernel) (by decide +kernel)), (tw 2 (by decide +kernel) (by decide +kernel)), (tw 427 (by decide +kernel) (by decide +kernel)), by decide +kernel⟩
theorem ml_X6_133 : Cond.methodLink RX6 133 yX0_takeFar ∈ gw_tbl := tw 429 (by decide +kernel) (by decide +kernel)
theorem cb_X0_takeFar : CB yX0_takeFar cX0_takeFar 2 (some .int) 0 := ⟨(tw 430 (by decide +kernel) (by decide +kernel)), (tw 431 (by decide +kernel) (by decide +kernel)), (tw 3 (by decide +kernel) (by decide +kernel)), (tw 432 (by decide +kernel) (by decide +kernel)), by decide +kernel⟩
theorem fd_SWor_gArm_4 (a : Nat) : FLD SWor 34 (gArm (a)) 0 4 none := fld_sub (i := 0) (sub_Wor_arm (a)) (⟨by decide, _, rfl, rfl⟩ : FLD SArm 2 0 0 4 none)
theorem fw_X6_136 : Cond.fieldLink RX6 136 (TX0 4).1 (TX0 4).2.1 (TX0 4).2.2.1 ∈ gw_tbl := tw 46 (by decide +kernel) (by decide +kernel)
theorem fd_SWor_gArm_3 (a : Nat) : FLD SWor 34 (gArm (a)) 0 3 none := fld_sub (i := 0) (sub_Wor_arm (a)) (⟨by decide, _, rfl, rfl⟩ : FLD SArm 2 0 0 3 none)
theorem fw_X6_130 : Cond.fieldLink RX6 130 (TX0 3).1 (TX0 3).2.1 (TX0 3).2.2.1 ∈ gw_tbl := tw 43 (by decide +kernel) (by decide +kernel)
theorem ml_X6_113 : Cond.methodLink RX6 113 yX4_lessLeft ∈ gw_tbl := tw 441 (by decide +kernel) (by decide +kernel)
theorem cb_X4_lessLeft : CB yX4_lessLeft cX4_lessLeft 2 (some .int) 1 := ⟨(tw 442 (by decide +kernel) (by decide +kernel)), (tw 443 (by decide +kernel) (by decide +kernel)), (tw 4 (by decide +kernel) (by decide +kernel)), (tw 444 (by decide +kernel) (by decide +kernel)), by decide +kernel⟩
theorem ml_X6_116 : Cond.methodLink RX6 116 yX6_endsByItself ∈ gw_tbl := tw 445 (by decide +kernel) (by decide +kernel)
theorem cb_X6_endsByItself : CB yX6_endsByItself cX6_endsByItself 4 (some .boolean) 2 := ⟨(tw 447 (by decide +kernel) (by decide +kernel)), (tp 9 (by decide +kernel) (by decide +kernel)), (tw 2 (by decide +kernel) (by decide +kernel)), (tw 448 (by decide +kernel) (by decide +kernel)), by decide +kernel⟩
theorem ml_X6_110 : Cond.methodLink RX6 110 yX6_takeOne ∈ gw_tbl := tw 415 (by decide +kernel) (by decide +kernel)
theorem cb_X6_takeOne : CB yX6_takeOne cX6_takeOne 6 none 1 := ⟨(tw 417 (by decide +kernel) (by decide +kernel)), (tp 7 (by decide +kernel) (by decide +kernel)), (tw 2 (by decide +kernel) (by decide +kernel)), (tw 418 (by decide +kernel) (by decide +kernel)), by decide +kernel⟩
theorem ml_X6_106 : Cond.methodLink RX6 106 yX6_cancelByHand ∈ gw_tbl := tw 623 (by decide +kernel) (by decide +kernel)
theorem cb_X6_cancelByHand : CB yX6_cancelByHand cX6_cancelByHand 3 (some .int) 1 := ⟨(tw 481 (by decide +kernel) (by decide +kernel)), (tw 482 (by decide +kernel) (by decide +kernel)), (tw 2 (by decide +kernel) (by decide +kernel)), (tw 483 (by decide +kernel) (by decide +kernel)), by decide +kernel⟩
theorem ml_X6_96 : Cond.methodLink RX6 96 yX6_goRound ∈ gw_tbl := tw 411 (by decide +kernel) (by decide +kernel)
theorem cb_X6_goRound : CB yX6_goRound cX6_goRound 3 none 0 := ⟨(tw 412 (by decide +kernel) (by decide +kernel)), (tw 413 (by decide +kernel) (by decide +kernel)), (tw 2 (by decide +kernel) (by decide +kernel)), (tw 414 (by decide +kernel) (by decide +kernel)), by decide +kernel⟩
theorem ml_X6_99 : Cond.methodLink RX6 99 yX6_isOver ∈ gw_tbl := tw 590 (by decide +kernel) (by decide +kernel)
theorem cb_X6_isOver : CB yX6_isOver cX6_isOver 2 (some .boolean) 0 := ⟨(tw 489 (by decide +kernel) (by decide +kernel)), (tw 490 (by decide +kernel) (by decide +kernel)), (tw 2 (by decide +kernel) (by decide +kernel)), (tw 491 (by decide +kernel) (by decide +kernel)), by decide +kernel⟩
theorem fd_STop_0_0 : FLD STop 123 (0) 7 0 (some (.inl (1))) := ⟨by decide, _, rfl, rfl⟩
theorem fw_X7_12 : Cond.fieldLink RX7 12 (TX7 0).1 (TX7 0).2.1 (TX7 0).2.2.1 ∈ gw_tbl := tw 260 (by decide +kernel) (by decide +kernel)
theorem fd_STop_1_6 : FLD STop 123 (1) 6 6 none := ⟨by decide, _, rfl, rfl⟩
theorem fw_X7_42 : Cond.fieldLink RX7 42 (TX6 6).1 (TX6 6).2.1 (TX6 6).2.2.1 ∈ gw_tbl := tw 173 (by decide +kernel) (by decide +kernel)
theorem ml_X7_60 : Cond.methodLink RX7 60 yX7_isArm ∈ gw_tbl := tw 315 (by decide +kernel) (by decide +kernel)
theorem cb_X7_isArm : CB yX7_isArm cX7_isArm 2 (some .boolean) 1 := ⟨(tw 317 (by decide +kernel) (by decide +kernel)), (tp 0 (by decide +kernel) (by decide +kernel)), (tw 1 (by decide +kernel) (by decide +kernel)), (tw 318 (by decide +kernel) (by decide +kernel)), by decide +kernel⟩
theorem ob_STop : OBJ STop 123 0 7 := ⟨by decide, _, rfl⟩
theorem fd_STop_1_0 : FLD STop 123 (1) 6 0 (some (.inl (2))) := ⟨by decide, _, rfl, rfl⟩
theorem fw_X7_91 : Cond.fieldLink RX7 91 (TX6 0).1 (TX6 0).2.1 (TX6 0).2.2.1 ∈ gw_tbl := tw 161 (by decide +kernel) (by decide +kernel)
theorem rr_STop_2 : RAR STop 123 (2) 3 4 (fun j => 1 + gArm (j)) := ⟨by decide, rfl⟩
theorem fd_STop_1_gArm_1 (a : Nat) : FLD STop 123 (1 + gArm (a)) 0 1 none := fld_sub (i := 0) (sub_tr sub_Top_now (sub_Wor_arm (a))) (⟨by decide, _, rfl, rfl⟩ : FLD SArm 2 0 0 1 none)
theorem fw_X7_137 : Cond.fieldLink RX7 137 (TX0 1).1 (TX0 1).2.1 (TX0 1).2.2.1 ∈ gw_tbl := tw 37 (by decide +kernel) (by decide +kernel)
theorem fd_STop_1_gArm_2 (a : Nat) : FLD STop 123 (1 + gArm (a)) 0 2 none := fld_sub (i := 0) (sub_tr sub_Top_now (sub_Wor_arm (a))) (⟨by decide, _, rfl, rfl⟩ : FLD SArm 2 0 0 2 none)
theorem fw_X7_138 : Cond.fieldLink RX7 138 (TX0 2).1 (TX0 2).2.1 (TX0 2).2.2.1 ∈ gw_tbl := tw 40 (by decide +kernel) (by decide +kernel)
theorem fd_STop_1_gArm_3 (a : Nat) : FLD STop 123 (1 + gArm (a)) 0 3 none := fld_sub (i := 0) (sub_tr sub_Top_now (sub_Wor_arm (a))) (⟨by decide, _, rfl, rfl⟩ : FLD SArm 2 0 0 3 none)
theorem fw_X7_141 : Cond.fieldLink RX7 141 (TX0 3).1 (TX0 3).2.1 (TX0 3).2.2.1 ∈ gw_tbl := tw 42 (by decide +kernel) (by decide +kernel)
theorem fd_STop_1_gArm_4 (a : Nat) : FLD STop 123 (1 + gArm (a)) 0 4 none := fld_sub (i := 0) (sub_tr sub_Top_now (sub_Wor_arm (a))) (⟨by decide, _, rfl, rfl⟩ : FLD SArm 2 0 0 4 none)
theorem fw_X7_144 : Cond.fieldLink RX7 144 (TX0 4).1 (TX0 4).2.1 (TX0 4).2.2.1 ∈ gw_tbl := tw 45 (by decide +kernel) (by decide +kernel)
theorem bp_10 : (Int8.ofInt (10)).toInt32 = 10 := by decide
theorem ml_X7_147 : Cond.methodLink RX7 147 yX0_taskAt ∈ gw_tbl := tw 399 (by decide +kernel) (by decide +kernel)
theorem ml_X7_46 : Cond.methodLink RX7 46 yX6_changeArms ∈ gw_tbl := tw 283 (by decide +kernel) (by decide +kernel)
theorem cb_X6_changeArms : CB yX6_changeArms cX6_changeArms 5 none 1 := ⟨(tw 284 (by decide +kernel) (by decide +kernel)), (tw 285 (by decide +kernel) (by decide +kernel)), (tw 2 (by decide +kernel) (by decide +kernel)), (tw 286 (by decide +kernel) (by decide +kernel)), by decide +kernel⟩
theorem bp_m2 : (Int8.ofInt (-2)).toInt32 = -2 := by decide
theorem fd_STop_0_2 : FLD STop 123 (0) 7 2 (some (.inl (69))) := ⟨by decide, _, rfl, rfl⟩
theorem fw_X7_21 : Cond.fieldLink RX7 21 (TX7 2).1 (TX7 2).2.1 (TX7 2).2.2.1 ∈ gw_tbl := tw 262 (by decide +kernel) (by decide +kernel)
theorem ml_X7_183 : Cond.methodLink RX7 183 yX6_become ∈ gw_tbl := tw 496 (by decide +kernel) (by decide +kernel)
theorem cb_X6_become : CB yX6_become cX6_become 3 none 1 := ⟨(tw 497 (by decide +kernel) (by decide +kernel)), (tw 498 (by decide +kernel) (by decide +kernel)), (tw 2 (by decide +kernel) (by decide +kernel)), (tw 499 (by decide +kernel) (by decide +kernel)), by decide +kernel⟩
theorem ob_dbl_34_SWor : OBJ (dbl 34 SWor) 68 0 6 := ⟨by decide, _, rfl⟩
theorem sp_300 : (Int16.ofInt (300)).toInt32 = 300 := by decide
theorem ml_X7_162 : Cond.methodLink RX7 162 yX6_isOver ∈ gw_tbl := tw 488 (by decide +kernel) (by decide +kernel)
theorem ml_X7_266 : Cond.methodLink RX7 266 yX6_goRound ∈ gw_tbl := tw 525 (by decide +kernel) (by decide +kernel)
theorem sp_301 : (Int16.ofInt (301)).toInt32 = 301 := by decide
theorem ml_X7_166 : Cond.methodLink RX7 166 yX7_roundsTillOver ∈ gw_tbl := tw 492 (by decide +kernel) (by decide +kernel)
theorem cb_X7_roundsTillOver : CB yX7_roundsTillOver cX7_roundsTillOver 3 (some .int) 1 := ⟨(tw 494 (by decide +kernel) (by decide +kernel)), (tp 12 (by decide +kernel) (by decide +kernel)), (tw 1 (by decide +kernel) (by decide +kernel)), (tw 495 (by decide +kernel) (by decide +kernel)), by decide +kernel⟩
theorem fd_STop_1_1 : FLD STop 123 (1) 6 1 (some (.inl (11))) := ⟨by decide, _, rfl, rfl⟩
theorem fw_X7_67 : Cond.fieldLink RX7 67 (TX6 1).1 (TX6 1).2.1 (TX6 1).2.2.1 ∈ gw_tbl := tw 163 (by decide +kernel) (by decide +kernel)
theorem ml_X7_100 : Cond.methodLink RX7 100 yX4_has ∈ gw_tbl := tw 356 (by decide +kernel) (by decide +kernel)
theorem sub_Top_11 : SUB STop 123 STas 9 (fun i => 11 + i) := sub_tr sub_Top_now sub_Wor_tas
theorem fd_STop_1_5 : FLD STop 123 (1) 6 5 (some (.inl (32))) := ⟨by decide, _, rfl, rfl⟩
theorem fw_X7_239 : Cond.fieldLink RX7 239 (TX6 5).1 (TX6 5).2.1 (TX6 5).2.2.1 ∈ gw_tbl := tw 171 (by decide +kernel) (by decide +kernel)
theorem ml_X7_208 : Cond.methodLink RX7 208 yX2_add ∈ gw_tbl := tw 570 (by decide +kernel) (by decide +kernel)
theorem cb_X2_add : CB yX2_add cX2_add 3 (some .int) 2 := ⟨(tw 571 (by decide +kernel) (by decide +kernel)), (tw 572 (by decide +kernel) (by decide +kernel)), (tw 6 (by decide +kernel) (by decide +kernel)), (tw 573 (by decide +kernel) (by decide +kernel)), by decide +kernel⟩
theorem sub_Top_32 : SUB STop 123 (SPrs 8) 3 (fun i => 32 + i) := sub_tr sub_Top_now sub_Wor_book
theorem ob_SPrs_n (n : Nat) : OBJ (SPrs n) 3 0 2 := ⟨by decide, _, rfl⟩
theorem ml_X7_203 : Cond.methodLink RX7 203 yX2_clear ∈ gw_tbl := tw 566 (by decide +kernel) (by decide +kernel)
theorem cb_X2_clear : CB yX2_clear cX2_clear 1 (some .int) 0 := ⟨(tw 567 (by decide +kernel) (by decide +kernel)), (tw 568 (by decide +kernel) (by decide +kernel)), (tw 6 (by decide +kernel) (by decide +kernel)), (tw 569 (by decide +kernel) (by decide +kernel)), by decide +kernel⟩
theorem ml_X7_156 : Cond.methodLink RX7 156 yX4_isEnded ∈ gw_tbl := tw 479 (by decide +kernel) (by decide +kernel)
theorem ml_X7_159 : Cond.methodLink RX7 159 yX6_cancelByHand ∈ gw_tbl := tw 480 (by decide +kernel) (by decide +kernel)
theorem bp_m3 : (Int8.ofInt (-3)).toInt32 = -3 := by decide
theorem fd_STop_11_3 : FLD STop 123 (11) 4 3 (some (.inl (15))) := ⟨by decide, _, rfl, rfl⟩
theorem fw_X7_103 : Cond.fieldLink RX7 103 (TX4 3).1 (TX4 3).2.1 (TX4 3).2.2.1 ∈ gw_tbl := tw 73 (by decide +kernel) (by decide +kernel)
theorem ar_STop_15 : ARR STop 123 (15) 0 32 := ⟨by decide, rfl⟩
theorem fd_STop_11_6 : FLD STop 123 (11) 4 6 (some (.inl (18))) := ⟨by decide, _, rfl, rfl⟩
theorem fw_X7_134 : Cond.fieldLink RX7 134 (TX4 6).1 (TX4 6).2.1 (TX4 6).2.2.1 ∈ gw_tbl := tw 81 (by decide +kernel) (by decide +kernel)
theorem ar_STop_18 : ARR STop 123 (18) 0 32 := ⟨by decide, rfl⟩
theorem fd_STop_11_8 : FLD STop 123 (11) 4 8 none := ⟨by decide, _, rfl, rfl⟩
theorem fw_X7_71 : Cond.fieldLink RX7 71 (TX4 8).1 (TX4 8).2.1 (TX4 8).2.2.1 ∈ gw_tbl := tw 86 (by decide +kernel) (by decide +kernel)
theorem ml_X7_187 : Cond.methodLink RX7 187 yX4_howManyEnded ∈ gw_tbl := tw 542 (by decide +kernel) (by decide +kernel)
theorem cb_X4_howManyEnded : CB yX4_howManyEnded cX4_howManyEnded 3 (some .int) 0 := ⟨(tw 543 (by decide +kernel) (by decide +kernel)), (tw 544 (by decide +kernel) (by decide +kernel)), (tw 4 (by decide +kernel) (by decide +kernel)), (tw 545 (by decide +kernel) (by decide +kernel)), by decide +kernel⟩
theorem fd_STop_1_3 : FLD STop 123 (1) 6 3 (some (.inl (26))) := ⟨by decide, _, rfl, rfl⟩
theorem fw_X7_199 : Cond.fieldLink RX7 199 (TX6 3).1 (TX6 3).2.1 (TX6 3).2.2.1 ∈ gw_tbl := tw 167 (by decide +kernel) (by decide +kernel)
theorem fd_STop_26_2 : FLD STop 123 (26) 2 2 none := ⟨by decide, _, rfl, rfl⟩
theorem fw_X7_228 : Cond.fieldLink RX7 228 (TX2 2).1 (TX2 2).2.1 (TX2 2).2.2.1 ∈ gw_tbl := tw 152 (by decide +kernel) (by decide +kernel)
theorem fd_STop_1_4 : FLD STop 123 (1) 6 4 (some (.inl (29))) := ⟨by decide, _, rfl, rfl⟩
theorem fw_X7_225 : Cond.fieldLink RX7 225 (TX6 4).1 (TX6 4).2.1 (TX6 4).2.2.1 ∈ gw_tbl := tw 169 (by decide +kernel) (by decide +kernel)
theorem fd_STop_29_2 : FLD STop 123 (29) 2 2 none := ⟨by decide, _, rfl, rfl⟩
theorem fd_STop_32_2 : FLD STop 123 (32) 2 2 none := ⟨by decide, _, rfl, rfl⟩
theorem fd_STop_0_3 : FLD STop 123 (0) 7 3 (some (.inl (103))) := ⟨by decide, _, rfl, rfl⟩
theorem fw_X7_27 : Cond.fieldLink RX7 27 (TX7 3).1 (TX7 3).2.1 (TX7 3).2.2.1 ∈ gw_tbl := tw 263 (by decide +kernel) (by decide +kernel)
theorem fd_STop_103_1 : FLD STop 123 (103) 5 1 none := ⟨by decide, _, rfl, rfl⟩
theorem fw_X7_57 : Cond.fieldLink RX7 57 (TX5 1).1 (TX5 1).2.1 (TX5 1).2.2.1 ∈ gw_tbl := tw 205 (by decide +kernel) (by decide +kernel)
theorem fd_STop_69_1 : FLD STop 123 (69) 6 1 (some (.inl (79))) := ⟨by decide, _, rfl, rfl⟩
theorem ml_X7_222 : Cond.methodLink RX7 222 yX4_worthOfAllDone ∈ gw_tbl := tw 607 (by decide +kernel) (by decide +kernel)
theorem cb_X4_worthOfAllDone : CB yX4_worthOfAllDone cX4_worthOfAllDone 3 (some .int) 0 := ⟨(tw 608 (by decide +kernel) (by decide +kernel)), (tw 609 (by decide +kernel) (by decide +kernel)), (tw 4 (by decide +kernel) (by decide +kernel)), (tw 610 (by decide +kernel) (by decide +kernel)), by decide +kernel⟩
theorem sub_Top_79 : SUB STop 123 STas 9 (fun i => 79 + i) := sub_tr sub_Top_asked sub_Wor_tas
theorem fd_STop_29_0 : FLD STop 123 (29) 2 0 (some (.inl (30))) := ⟨by decide, _, rfl, rfl⟩
theorem fw_X7_229 : Cond.fieldLink RX7 229 (TX2 0).1 (TX2 0).2.1 (TX2 0).2.2.1 ∈ gw_tbl := tw 148 (by decide +kernel) (by decide +kernel)
theorem ar_STop_30 : ARR STop 123 (30) 0 10 := ⟨by decide, rfl⟩
theorem fd_STop_29_1 : FLD STop 123 (29) 2 1 (some (.inl (31))) := ⟨by decide, _, rfl, rfl⟩
theorem fw_X7_232 : Cond.fieldLink RX7 232 (TX2 1).1 (TX2 1).2.1 (TX2 1).2.2.1 ∈ gw_tbl := tw 150 (by decide +kernel) (by decide +kernel)
theorem ar_STop_31 : ARR STop 123 (31) 0 10 := ⟨by decide, rfl⟩
theorem ml_X7_235 : Cond.methodLink RX7 235 yX6_goAsPlanned ∈ gw_tbl := tw 619 (by decide +kernel) (by decide +kernel)
theorem cb_X6_goAsPlanned : CB yX6_goAsPlanned cX6_goAsPlanned 3 none 2 := ⟨(tw 620 (by decide +kernel) (by decide +kernel)), (tw 621 (by decide +kernel) (by decide +kernel)), (tw 2 (by decide +kernel) (by decide +kernel)), (tw 622 (by decide +kernel) (by decide +kernel)), by decide +kernel⟩
theorem bp_127 : (Int8.ofInt (127)).toInt32 = 127 := by decide
theorem ml_X7_53 : Cond.methodLink RX7 53 yX5_append ∈ gw_tbl := tw 307 (by decide +kernel) (by decide +kernel)
theorem cb_X5_append : CB yX5_append cX5_append 2 (some .boolean) 1 := ⟨(tw 308 (by decide +kernel) (by decide +kernel)), (tw 309 (by decide +kernel) (by decide +kernel)), (tw 8 (by decide +kernel) (by decide +kernel)), (tw 310 (by decide +kernel) (by decide +kernel)), by decide +kernel⟩
theorem fd_STop_0_1 : FLD STop 123 (0) 7 1 (some (.inl (35))) := ⟨by decide, _, rfl, rfl⟩
theorem fw_X7_18 : Cond.fieldLink RX7 18 (TX7 1).1 (TX7 1).2.1 (TX7 1).2.2.1 ∈ gw_tbl := tw 261 (by decide +kernel) (by decide +kernel)
theorem fd_STop_0_5 : FLD STop 123 (0) 7 5 none := ⟨by decide, _, rfl, rfl⟩
theorem fw_X7_38 : Cond.fieldLink RX7 38 (TX7 5).1 (TX7 5).2.1 (TX7 5).2.2.1 ∈ gw_tbl := tw 265 (by decide +kernel) (by decide +kernel)
theorem fd_STop_35_1 : FLD STop 123 (35) 6 1 (some (.inl (45))) := ⟨by decide, _, rfl, rfl⟩
theorem fd_STop_45_8 : FLD STop 123 (45) 4 8 none := ⟨by decide, _, rfl, rfl⟩
theorem fd_STop_69_7 : FLD STop 123 (69) 6 7 none := ⟨by decide, _, rfl, rfl⟩
theorem fw_X7_50 : Cond.fieldLink RX7 50 (TX6 7).1 (TX6 7).2.1 (TX6 7).2.2.1 ∈ gw_tbl := tw 175 (by decide +kernel) (by decide +kernel)
theorem fd_STop_69_2 : FLD STop 123 (69) 6 2 (some (.inl (88))) := ⟨by decide, _, rfl, rfl⟩
theorem fw_X7_172 : Cond.fieldLink RX7 172 (TX6 2).1 (TX6 2).2.1 (TX6 2).2.2.1 ∈ gw_tbl := tw 165 (by decide +kernel) (by decide +kernel)
theorem ml_X7_269 : Cond.methodLink RX7 269 yX1_watch ∈ gw_tbl := tw 582 (by decide +kernel) (by decide +kernel)
theorem cb_X1_watch : CB yX1_watch cX1_watch 1 none 0 := ⟨(tw 583 (by decide +kernel) (by decide +kernel)), (tw 584 (by decide +kernel) (by decide +kernel)), (tw 5 (by decide +kernel) (by decide +kernel)), (tw 585 (by decide +kernel) (by decide +kernel)), by decide +kernel⟩
theorem sub_Top_88 : SUB STop 123 SEnt 6 (fun i => 88 + i) := sub_tr sub_Top_asked sub_Wor_ent
theorem bp_60 : (Int8.ofInt (60)).toInt32 = 60 := by decide
theorem ml_X7_215 : Cond.methodLink RX7 215 yX6_goRoundsTillOver ∈ gw_tbl := tw 586 (by decide +kernel) (by decide +kernel)
theorem cb_X6_goRoundsTillOver : CB yX6_goRoundsTillOver cX6_goRoundsTillOver 3 none 1 := ⟨(tw 587 (by decide +kernel) (by decide +kernel)), (tw 588 (by decide +kernel) (by decide +kernel)), (tw 2 (by decide +kernel) (by decide +kernel)), (tw 589 (by decide +kernel) (by decide +kernel)), by decide +kernel⟩
theorem fd_STop_26_1 : FLD STop 123 (26) 2 1 (some (.inl (28))) := ⟨by decide, _, rfl, rfl⟩
theorem ar_STop_28 : ARR STop 123 (28) 0 5 := ⟨by decide, rfl⟩
theorem ml_X7_272 : Cond.methodLink RX7 272 yX1_watchedTask ∈ gw_tbl := tw 591 (by decide +kernel) (by decide +kernel)
theorem cb_X1_watchedTask : CB yX1_watchedTask cX1_watchedTask 2 (some .int) 1 := ⟨(tw 592 (by decide +kernel) (by decide +kernel)), (tw 593 (by decide +kernel) (by decide +kernel)), (tw 5 (by decide +kernel) (by decide +kernel)), (tw 594 (by decide +kernel) (by decide +kernel)), by decide +kernel⟩
theorem fd_STop_26_0 : FLD STop 123 (26) 2 0 (some (.inl (27))) := ⟨by decide, _, rfl, rfl⟩
theorem ar_STop_27 : ARR STop 123 (27) 0 5 := ⟨by decide, rfl⟩
theorem fd_STop_0_4 : FLD STop 123 (0) 7 4 (some (.inl (110))) := ⟨by decide, _, rfl, rfl⟩
theorem fw_X7_33 : Cond.fieldLink RX7 33 (TX7 4).1 (TX7 4).2.1 (TX7 4).2.2.1 ∈ gw_tbl := tw 264 (by decide +kernel) (by decide +kernel)
theorem rr_STop_110 : RAR STop 123 (110) 4 6 (fun j => gTap (j)) := ⟨by decide, rfl⟩
theorem ml_X7_242 : Cond.methodLink RX7 242 yX7_isTape ∈ gw_tbl := tw 636 (by decide +kernel) (by decide +kernel)
theorem cb_X7_isTape : CB yX7_isTape cX7_isTape 2 (some .boolean) 1 := ⟨(tw 638 (by decide +kernel) (by decide +kernel)), (tp 15 (by decide +kernel) (by decide +kernel)), (tw 1 (by decide +kernel) (by decide +kernel)), (tw 639 (by decide +kernel) (by decide +kernel)), by decide +kernel⟩
theorem fd_STop_gTap_1 (a : Nat) : FLD STop 123 (gTap (a)) 3 1 none := fld_sub (i := 0) (sub_Top_tape (a)) (⟨by decide, _, rfl, rfl⟩ : FLD STap 2 0 3 1 none)
theorem fw_X7_245 : Cond.fieldLink RX7 245 (TX3 1).1 (TX3 1).2.1 (TX3 1).2.2.1 ∈ gw_tbl := tw 249 (by decide +kernel) (by decide +kernel)
theorem fd_STop_gTap_2 (a : Nat) : FLD STop 123 (gTap (a)) 3 2 none := fld_sub (i := 0) (sub_Top_tape (a)) (⟨by decide, _, rfl, rfl⟩ : FLD STap 2 0 3 2 none)
theorem fw_X7_248 : Cond.fieldLink RX7 248 (TX3 2).1 (TX3 2).2.1 (TX3 2).2.2.1 ∈ gw_tbl := tw 251 (by decide +kernel) (by decide +kernel)
theorem fd_STop_gTap_0 (a : Nat) : FLD STop 123 (gTap (a)) 3 0 (some (.inl (gTap (a) + 1))) := fld_sub (i := 0) (sub_Top_tape (a)) (⟨by decide, _, rfl, rfl⟩ : FLD STap 2 0 3 0 (some (.inl 1)))
theorem fw_X7_249 : Cond.fieldLink RX7 249 (TX3 0).1 (TX3 0).2.1 (TX3 0).2.2.1 ∈ gw_tbl := tw 247 (by decide +kernel) (by decide +kernel)
theorem ml_X7_256 : Cond.methodLink RX7 256 yX3_cut ∈ gw_tbl := tw 664 (by decide +kernel) (by decide +kernel)
theorem cb_X3_cut : CB yX3_cut cX3_cut 3 (some .long) 1 := ⟨(tw 665 (by decide +kernel) (by decide +kernel)), (tw 666 (by decide +kernel) (by decide +kernel)), (tw 9 (by decide +kernel) (by decide +kernel)), (tw 667 (by decide +kernel) (by decide +kernel)), by decide +kernel⟩
theorem ob_STap : OBJ STap 2 0 3 := ⟨by decide, _, rfl⟩
theorem ar_STop_gTap_1 (a : Nat) : ARR STop 123 (gTap (a) + 1) 1 60 := arr_sub (i := 1) (sub_Top_tape (a)) (⟨by decide, rfl⟩ : ARR STap 2 1 1 60)
theorem bp_m11 : (Int8.ofInt (-11)).toInt32 = -11 := by decide
theorem bp_m13 : (Int8.ofInt (-13)).toInt32 = -13 := by decide
theorem bp_m12 : (Int8.ofInt (-12)).toInt32 = -12 := by decide
theorem bp_100 : (Int8.ofInt (100)).toInt32 = 100 := by decide
theorem fd_STop_11_2 : FLD STop 123 (11) 4 2 (some (.inl (14))) := ⟨by decide, _, rfl, rfl⟩
theorem fw_X7_110 : Cond.fieldLink RX7 110 (TX4 2).1 (TX4 2).2.1 (TX4 2).2.2.1 ∈ gw_tbl := tw 70 (by decide +kernel) (by decide +kernel)
theorem ar_STop_14 : ARR STop 123 (14) 0 32 := ⟨by decide, rfl⟩
theorem fd_STop_32_0 : FLD STop 123 (32) 2 0 (some (.inl (33))) := ⟨by decide, _, rfl, rfl⟩
theorem ar_STop_33 : ARR STop 123 (33) 0 8 := ⟨by decide, rfl⟩
theorem fd_STop_32_1 : FLD STop 123 (32) 2 1 (some (.inl (34))) := ⟨by decide, _, rfl, rfl⟩
theorem ar_STop_34 : ARR STop 123 (34) 0 8 := ⟨by decide, rfl⟩
theorem bp_64 : (Int8.ofInt (64)).toInt32 = 64 := by decide
theorem ml_X7_190 : Cond.methodLink RX7 190 yX4_howManyDone ∈ gw_tbl := tw 546 (by decide +kernel) (by decide +kernel)
theorem cb_X4_howManyDone : CB yX4_howManyDone cX4_howManyDone 3 (some .int) 0 := ⟨(tw 547 (by decide +kernel) (by decide +kernel)), (tw 548 (by decide +kernel) (by decide +kernel)), (tw 4 (by decide +kernel) (by decide +kernel)), (tw 549 (by decide +kernel) (by decide +kernel)), by decide +kernel⟩
theorem ml_X7_218 : Cond.methodLink RX7 218 yX7_lowest ∈ gw_tbl := tw 600 (by decide +kernel) (by decide +kernel)
theorem cs_X7_lowest : CS yX7_lowest cX7_lowest 7 (some .int) 3 := ⟨(tw 601 (by decide +kernel) (by decide +kernel)), (tw 1 (by decide +kernel) (by decide +kernel)), (tw 602 (by decide +kernel) (by decide +kernel)), by decide +kernel⟩
theorem kw_X7_213 : Cond.constantLong RX7 213 (-9223372036854775808) ∈ gw_tbl := tw 599 (by decide +kernel) (by decide +kernel)
theorem bp_20 : (Int8.ofInt (20)).toInt32 = 20 := by decide
theorem fd_STop_11_0 : FLD STop 123 (11) 4 0 (some (.inl (12))) := ⟨by decide, _, rfl, rfl⟩
theorem fw_X7_106 : Cond.fieldLink RX7 106 (TX4 0).1 (TX4 0).2.1 (TX4 0).2.2.1 ∈ gw_tbl := tw 66 (by decide +kernel) (by decide +kernel)
theorem ar_STop_12 : ARR STop 123 (12) 0 32 := ⟨by decide, rfl⟩
theorem fd_STop_11_1 : FLD STop 123 (11) 4 1 (some (.inl (13))) := ⟨by decide, _, rfl, rfl⟩
theorem fw_X7_107 : Cond.fieldLink RX7 107 (TX4 1).1 (TX4 1).2.1 (TX4 1).2.2.1 ∈ gw_tbl := tw 68 (by decide +kernel) (by decide +kernel)
theorem ar_STop_13 : ARR STop 123 (13) 0 32 := ⟨by decide, rfl⟩
theorem fd_STop_11_4 : FLD STop 123 (11) 4 4 (some (.inl (16))) := ⟨by decide, _, rfl, rfl⟩
theorem fw_X7_113 : Cond.fieldLink RX7 113 (TX4 4).1 (TX4 4).2.1 (TX4 4).2.2.1 ∈ gw_tbl := tw 75 (by decide +kernel) (by decide +kernel)
theorem ar_STop_16 : ARR STop 123 (16) 0 32 := ⟨by decide, rfl⟩
theorem ml_X7_114 : Cond.methodLink RX7 114 yX4_howManyIn ∈ gw_tbl := tw 357 (by decide +kernel) (by decide +kernel)
theorem cb_X4_howManyIn : CB yX4_howManyIn cX4_howManyIn 4 (some .int) 1 := ⟨(tw 358 (by decide +kernel) (by decide +kernel)), (tw 359 (by decide +kernel) (by decide +kernel)), (tw 4 (by decide +kernel) (by decide +kernel)), (tw 360 (by decide +kernel) (by decide +kernel)), by decide +kernel⟩
theorem fd_STop_11_5 : FLD STop 123 (11) 4 5 (some (.inl (17))) := ⟨by decide, _, rfl, rfl⟩
theorem fw_X7_118 : Cond.fieldLink RX7 118 (TX4 5).1 (TX4 5).2.1 (TX4 5).2.2.1 ∈ gw_tbl := tw 78 (by decide +kernel) (by decide +kernel)
theorem ar_STop_17 : ARR STop 123 (17) 0 32 := ⟨by decide, rfl⟩
theorem ml_X7_119 : Cond.methodLink RX7 119 yX4_span ∈ gw_tbl := tw 361 (by decide +kernel) (by decide +kernel)
theorem cb_X4_span : CB yX4_span cX4_span 4 (some .int) 1 := ⟨(tw 362 (by decide +kernel) (by decide +kernel)), (tw 363 (by decide +kernel) (by decide +kernel)), (tw 4 (by decide +kernel) (by decide +kernel)), (tw 364 (by decide +kernel) (by decide +kernel)), by decide +kernel⟩
theorem ml_X7_122 : Cond.methodLink RX7 122 yX4_workOfAll ∈ gw_tbl := tw 366 (by decide +kernel) (by decide +kernel)
theorem cb_X4_workOfAll : CB yX4_workOfAll cX4_workOfAll 4 (some .int) 1 := ⟨(tw 367 (by decide +kernel) (by decide +kernel)), (tw 368 (by decide +kernel) (by decide +kernel)), (tw 4 (by decide +kernel) (by decide +kernel)), (tw 369 (by decide +kernel) (by decide +kernel)), by decide +kernel⟩
theorem ml_X7_125 : Cond.methodLink RX7 125 yX4_depth ∈ gw_tbl := tw 374 (by decide +kernel) (by decide +kernel)
theorem cb_X4_depth : CB yX4_depth cX4_depth 4 (some .int) 1 := ⟨(tw 375 (by decide +kernel) (by decide +kernel)), (tw 376 (by decide +kernel) (by decide +kernel)), (tw 4 (by decide +kernel) (by decide +kernel)), (tw 377 (by decide +kernel) (by decide +kernel)), by decide +kernel⟩
theorem ml_X7_128 : Cond.methodLink RX7 128 yX6_armAtWorkOn ∈ gw_tbl := tw 379 (by decide +kernel) (by decide +kernel)
theorem cb_X6_armAtWorkOn : CB yX6_armAtWorkOn cX6_armAtWorkOn 3 (some .int) 1 := ⟨(tw 380 (by decide +kernel) (by decide +kernel)), (tw 381 (by decide +kernel) (by decide +kernel)), (tw 2 (by decide +kernel) (by decide +kernel)), (tw 382 (by decide +kernel) (by decide +kernel)), by decide +kernel⟩
theorem ml_X7_131 : Cond.methodLink RX7 131 yX6_armWithRowOf ∈ gw_tbl := tw 383 (by decide +kernel) (by decide +kernel)
theorem cb_X6_armWithRowOf : CB yX6_armWithRowOf cX6_armWithRowOf 3 (some .int) 1 := ⟨(tw 384 (by decide +kernel) (by decide +kernel)), (tw 385 (by decide +kernel) (by decide +kernel)), (tw 2 (by decide +kernel) (by decide +kernel)), (tw 386 (by decide +kernel) (by decide +kernel)), by decide +kernel⟩
theorem ml_X7_153 : Cond.methodLink RX7 153 yX6_goRounds ∈ gw_tbl := tw 407 (by decide +kernel) (by decide +kernel)
theorem cb_X6_goRounds : CB yX6_goRounds cX6_goRounds 3 none 1 := ⟨(tw 408 (by decide +kernel) (by decide +kernel)), (tw 409 (by decide +kernel) (by decide +kernel)), (tw 2 (by decide +kernel) (by decide +kernel)), (tw 410 (by decide +kernel) (by decide +kernel)), by decide +kernel⟩
theorem ml_X7_193 : Cond.methodLink RX7 193 yX6_idleOfAll ∈ gw_tbl := tw 550 (by decide +kernel) (by decide +kernel)
theorem cb_X6_idleOfAll : CB yX6_idleOfAll cX6_idleOfAll 3 (some .int) 0 := ⟨(tw 551 (by decide +kernel) (by decide +kernel)), (tw 552 (by decide +kernel) (by decide +kernel)), (tw 2 (by decide +kernel) (by decide +kernel)), (tw 553 (by decide +kernel) (by decide +kernel)), by decide +kernel⟩
theorem ml_X7_196 : Cond.methodLink RX7 196 yX6_stoleOfAll ∈ gw_tbl := tw 554 (by decide +kernel) (by decide +kernel)
theorem cb_X6_stoleOfAll : CB yX6_stoleOfAll cX6_stoleOfAll 3 (some .int) 0 := ⟨(tw 555 (by decide +kernel) (by decide +kernel)), (tw 556 (by decide +kernel) (by decide +kernel)), (tw 2 (by decide +kernel) (by decide +kernel)), (tw 557 (by decide +kernel) (by decide +kernel)), by decide +kernel⟩
theorem fd_STop_1_8 : FLD STop 123 (1) 6 8 none := ⟨by decide, _, rfl, rfl⟩
theorem fw_X7_150 : Cond.fieldLink RX7 150 (TX6 8).1 (TX6 8).2.1 (TX6 8).2.2.1 ∈ gw_tbl := tw 177 (by decide +kernel) (by decide +kernel)
theorem sp_9999 : (Int16.ofInt (9999)).toInt32 = 9999 := by decide
theorem sub_Top_29 : SUB STop 123 (SPrs 10) 3 (fun i => 29 + i) := sub_tr sub_Top_now sub_Wor_plan
theorem sub_Top_26 : SUB STop 123 (SPrs 5) 3 (fun i => 26 + i) := sub_tr sub_Top_now sub_Wor_seen
theorem fd_STop_1_7 : FLD STop 123 (1) 6 7 none := ⟨by decide, _, rfl, rfl⟩
theorem bp_31 : (Int8.ofInt (31)).toInt32 = 31 := by decide
theorem ml_X7_210 : Cond.methodLink RX7 210 yX7_isAsSeen ∈ gw_tbl := tw 578 (by decide +kernel) (by decide +kernel)
theorem cb_X7_isAsSeen : CB yX7_isAsSeen cX7_isAsSeen 3 (some .boolean) 1 := ⟨(tw 580 (by decide +kernel) (by decide +kernel)), (tp 14 (by decide +kernel) (by decide +kernel)), (tw 1 (by decide +kernel) (by decide +kernel)), (tw 581 (by decide +kernel) (by decide +kernel)), by decide +kernel⟩
theorem ml_X7_260 : Cond.methodLink RX7 260 arraycopyName ∈ gw_tbl := tw 676 (by decide +kernel) (by decide +kernel)
theorem ml_X7_253 : Cond.methodLink RX7 253 yX3_becomeRow ∈ gw_tbl := tw 656 (by decide +kernel) (by decide +kernel)
theorem cb_X3_becomeRow : CB yX3_becomeRow cX3_becomeRow 4 none 2 := ⟨(tw 657 (by decide +kernel) (by decide +kernel)), (tw 658 (by decide +kernel) (by decide +kernel)), (tw 9 (by decide +kernel) (by decide +kernel)), (tw 659 (by decide +kernel) (by decide +kernel)), by decide +kernel⟩
theorem bp_m14 : (Int8.ofInt (-14)).toInt32 = -14 := by decide
theorem ml_X7_169 : Cond.methodLink RX7 169 yX7_bestArms ∈ gw_tbl := tw 526 (by decide +kernel) (by decide +kernel)
theorem cb_X7_bestArms : CB yX7_bestArms cX7_bestArms 5 (some .int) 0 := ⟨(tw 528 (by decide +kernel) (by decide +kernel)), (tp 13 (by decide +kernel) (by decide +kernel)), (tw 1 (by decide +kernel) (by decide +kernel)), (tw 529 (by decide +kernel) (by decide +kernel)), by decide +kernel⟩
theorem fd_STop_1_2 : FLD STop 123 (1) 6 2 (some (.inl (20))) := ⟨by decide, _, rfl, rfl⟩
theorem fd_STop_20_7 : FLD STop 123 (20) 1 7 none := ⟨by decide, _, rfl, rfl⟩
theorem fw_X7_176 : Cond.fieldLink RX7 176 (TX1 7).1 (TX1 7).2.1 (TX1 7).2.2.1 ∈ gw_tbl := tw 120 (by decide +kernel) (by decide +kernel)
theorem sp_m10001 : (Int16.ofInt (-10001)).toInt32 = -10001 := by decide
theorem ml_X7_179 : Cond.methodLink RX7 179 yX1_entry ∈ gw_tbl := tw 534 (by decide +kernel) (by decide +kernel)
theorem cb_X1_entry : CB yX1_entry cX1_entry 4 (some .int) 2 := ⟨(tw 535 (by decide +kernel) (by decide +kernel)), (tw 536 (by decide +kernel) (by decide +kernel)), (tw 5 (by decide +kernel) (by decide +kernel)), (tw 537 (by decide +kernel) (by decide +kernel)), by decide +kernel⟩
theorem sub_Top_20 : SUB STop 123 SEnt 6 (fun i => 20 + i) := sub_tr sub_Top_now sub_Wor_ent
theorem ml_X7_63 : Cond.methodLink RX7 63 yX5_parse ∈ gw_tbl := tw 319 (by decide +kernel) (by decide +kernel)
theorem cb_X5_parse : CB yX5_parse cX5_parse 2 (some .int) 0 := ⟨(tw 320 (by decide +kernel) (by decide +kernel)), (tw 321 (by decide +kernel) (by decide +kernel)), (tw 8 (by decide +kernel) (by decide +kernel)), (tw 322 (by decide +kernel) (by decide +kernel)), by decide +kernel⟩
theorem fd_STop_103_5 : FLD STop 123 (103) 5 5 none := ⟨by decide, _, rfl, rfl⟩
theorem fw_X7_76 : Cond.fieldLink RX7 76 (TX5 5).1 (TX5 5).2.1 (TX5 5).2.2.1 ∈ gw_tbl := tw 213 (by decide +kernel) (by decide +kernel)
theorem bp_m10 : (Int8.ofInt (-10)).toInt32 = -10 := by decide
theorem ml_X7_95 : Cond.methodLink RX7 95 yX0_put ∈ gw_tbl := tw 351 (by decide +kernel) (by decide +kernel)
theorem fd_STop_103_4 : FLD STop 123 (103) 5 4 (some (.inl (107))) := ⟨by decide, _, rfl, rfl⟩
theorem fw_X7_77 : Cond.fieldLink RX7 77 (TX5 4).1 (TX5 4).2.1 (TX5 4).2.2.1 ∈ gw_tbl := tw 211 (by decide +kernel) (by decide +kernel)
theorem ar_STop_107 : ARR STop 123 (107) 0 100 := ⟨by decide, rfl⟩
theorem fd_STop_103_2 : FLD STop 123 (103) 5 2 (some (.inl (105))) := ⟨by decide, _, rfl, rfl⟩
theorem fw_X7_81 : Cond.fieldLink RX7 81 (TX5 2).1 (TX5 2).2.1 (TX5 2).2.2.1 ∈ gw_tbl := tw 207 (by decide +kernel) (by decide +kernel)
theorem ar_STop_105 : ARR STop 123 (105) 0 100 := ⟨by decide, rfl⟩
theorem fd_STop_103_3 : FLD STop 123 (103) 5 3 (some (.inl (106))) := ⟨by decide, _, rfl, rfl⟩
theorem fw_X7_84 : Cond.fieldLink RX7 84 (TX5 3).1 (TX5 3).2.1 (TX5 3).2.2.1 ∈ gw_tbl := tw 209 (by decide +kernel) (by decide +kernel)
theorem ar_STop_106 : ARR STop 123 (106) 0 100 := ⟨by decide, rfl⟩
theorem ml_X7_87 : Cond.methodLink RX7 87 yX4_add ∈ gw_tbl := tw 347 (by decide +kernel) (by decide +kernel)
theorem cb_X4_add : CB yX4_add cX4_add 4 none 3 := ⟨(tw 348 (by decide +kernel) (by decide +kernel)), (tw 349 (by decide +kernel) (by decide +kernel)), (tw 4 (by decide +kernel) (by decide +kernel)), (tw 350 (by decide +kernel) (by decide +kernel)), by decide +kernel⟩
theorem fd_SMod_0_34 : FLD SMod 36 (0) 8 34 none := ⟨by decide, _, rfl, rfl⟩
theorem fw_X8_134 : Cond.fieldLink RX8 134 (TX8 34).1 (TX8 34).2.1 (TX8 34).2.2.1 ∈ gw_tbl := tw 717 (by decide +kernel) (by decide +kernel)
theorem fd_SMod_0_35 : FLD SMod 36 (0) 8 35 (some (.inr (20, 21))) := ⟨by decide, _, rfl, rfl⟩
theorem fw_X8_138 : Cond.fieldLink RX8 138 (TX8 35).1 (TX8 35).2.1 (TX8 35).2.2.1 ∈ gw_tbl := tw 718 (by decide +kernel) (by decide +kernel)
theorem fd_SMod_0_33 : FLD SMod 36 (0) 8 33 none := ⟨by decide, _, rfl, rfl⟩
theorem fw_X8_141 : Cond.fieldLink RX8 141 (TX8 33).1 (TX8 33).2.1 (TX8 33).2.2.1 ∈ gw_tbl := tw 716 (by decide +kernel) (by decide +kernel)
theorem ar_SMod_20 : ARR SMod 36 (20) 0 600 := ⟨by decide, rfl⟩
theorem ar_SMod_21 : ARR SMod 36 (21) 0 600 := ⟨by decide, rfl⟩
theorem fd_SMod_0_18 : FLD SMod 36 (0) 8 18 none := ⟨by decide, _, rfl, rfl⟩
theorem fw_X8_144 : Cond.fieldLink RX8 144 (TX8 18).1 (TX8 18).2.1 (TX8 18).2.2.1 ∈ gw_tbl := tw 701 (by decide +kernel) (by decide +kernel)
theorem ml_X8_147 : Cond.methodLink RX8 147 yX8_carry ∈ gw_tbl := tw 858 (by decide +kernel) (by decide +kernel)
theorem cb_X8_carry : CB yX8_carry cX8_carry 2 (some .int) 1 := ⟨(tw 860 (by decide +kernel) (by decide +kernel)), (tp 17 (by decide +kernel) (by decide +kernel)), (tw 10 (by decide +kernel) (by decide +kernel)), (tw 861 (by decide +kernel) (by decide +kernel)), by decide +kernel⟩
theorem ob_SMod : OBJ SMod 36 0 8 := ⟨by decide, _, rfl⟩
theorem fd_SMod_0_21 : FLD SMod 36 (0) 8 21 none := ⟨by decide, _, rfl, rfl⟩
theorem fw_X8_151 : Cond.fieldLink RX8 151 (TX8 21).1 (TX8 21).2.1 (TX8 21).2.2.1 ∈ gw_tbl := tw 704 (by decide +kernel) (by decide +kernel)
theorem fd_SMod_0_24 : FLD SMod 36 (0) 8 24 none := ⟨by decide, _, rfl, rfl⟩
theorem fw_X8_154 : Cond.fieldLink RX8 154 (TX8 24).1 (TX8 24).2.1 (TX8 24).2.2.1 ∈ gw_tbl := tw 707 (by decide +kernel) (by decide +kernel)
theorem fd_SMod_0_19 : FLD SMod 36 (0) 8 19 (some (.inl (14))) := ⟨by decide, _, rfl, rfl⟩
theorem fw_X8_56 : Cond.fieldLink RX8 56 (TX8 19).1 (TX8 19).2.1 (TX8 19).2.2.1 ∈ gw_tbl := tw 702 (by decide +kernel) (by decide +kernel)
theorem ar_SMod_14 : ARR SMod 36 (14) 0 5 := ⟨by decide, rfl⟩
theorem fd_SMod_0_20 : FLD SMod 36 (0) 8 20 (some (.inl (15))) := ⟨by decide, _, rfl, rfl⟩
theorem fw_X8_59 : Cond.fieldLink RX8 59 (TX8 20).1 (TX8 20).2.1 (TX8 20).2.2.1 ∈ gw_tbl := tw 703 (by decide +kernel) (by decide +kernel)
theorem ar_SMod_15 : ARR SMod 36 (15) 0 5 := ⟨by decide, rfl⟩
theorem fd_SMod_0_22 : FLD SMod 36 (0) 8 22 (some (.inl (16))) := ⟨by decide, _, rfl, rfl⟩
theorem fw_X8_62 : Cond.fieldLink RX8 62 (TX8 22).1 (TX8 22).2.1 (TX8 22).2.2.1 ∈ gw_tbl := tw 705 (by decide +kernel) (by decide +kernel)
theorem ar_SMod_16 : ARR SMod 36 (16) 0 10 := ⟨by decide, rfl⟩
theorem fd_SMod_0_23 : FLD SMod 36 (0) 8 23 (some (.inl (17))) := ⟨by decide, _, rfl, rfl⟩
theorem fw_X8_65 : Cond.fieldLink RX8 65 (TX8 23).1 (TX8 23).2.1 (TX8 23).2.2.1 ∈ gw_tbl := tw 706 (by decide +kernel) (by decide +kernel)
theorem ar_SMod_17 : ARR SMod 36 (17) 0 10 := ⟨by decide, rfl⟩
theorem bp_8 : (Int8.ofInt (8)).toInt32 = 8 := by decide
theorem fd_SMod_0_25 : FLD SMod 36 (0) 8 25 (some (.inl (18))) := ⟨by decide, _, rfl, rfl⟩
theorem fw_X8_68 : Cond.fieldLink RX8 68 (TX8 25).1 (TX8 25).2.1 (TX8 25).2.2.1 ∈ gw_tbl := tw 708 (by decide +kernel) (by decide +kernel)
theorem ar_SMod_18 : ARR SMod 36 (18) 0 8 := ⟨by decide, rfl⟩
theorem fd_SMod_0_26 : FLD SMod 36 (0) 8 26 (some (.inl (19))) := ⟨by decide, _, rfl, rfl⟩
theorem fw_X8_71 : Cond.fieldLink RX8 71 (TX8 26).1 (TX8 26).2.1 (TX8 26).2.2.1 ∈ gw_tbl := tw 709 (by decide +kernel) (by decide +kernel)
theorem ar_SMod_19 : ARR SMod 36 (19) 0 8 := ⟨by decide, rfl⟩
theorem fd_SMod_0_0 : FLD SMod 36 (0) 8 0 none := ⟨by decide, _, rfl, rfl⟩
theorem fw_X8_7 : Cond.fieldLink RX8 7 (TX8 0).1 (TX8 0).2.1 (TX8 0).2.2.1 ∈ gw_tbl := tw 683 (by decide +kernel) (by decide +kernel)
theorem fd_SMod_0_6 : FLD SMod 36 (0) 8 6 none := ⟨by decide, _, rfl, rfl⟩
theorem fw_X8_127 : Cond.fieldLink RX8 127 (TX8 6).1 (TX8 6).2.1 (TX8 6).2.2.1 ∈ gw_tbl := tw 689 (by decide +kernel) (by decide +kernel)
theorem fd_SMod_0_14 : FLD SMod 36 (0) 8 14 none := ⟨by decide, _, rfl, rfl⟩
theorem fw_X8_50 : Cond.fieldLink RX8 50 (TX8 14).1 (TX8 14).2.1 (TX8 14).2.2.1 ∈ gw_tbl := tw 697 (by decide +kernel) (by decide +kernel)
theorem fd_SMod_0_15 : FLD SMod 36 (0) 8 15 none := ⟨by decide, _, rfl, rfl⟩
theorem fw_X8_157 : Cond.fieldLink RX8 157 (TX8 15).1 (TX8 15).2.1 (TX8 15).2.2.1 ∈ gw_tbl := tw 698 (by decide +kernel) (by decide +kernel)
theorem fd_SMod_0_16 : FLD SMod 36 (0) 8 16 none := ⟨by decide, _, rfl, rfl⟩
theorem fw_X8_160 : Cond.fieldLink RX8 160 (TX8 16).1 (TX8 16).2.1 (TX8 16).2.2.1 ∈ gw_tbl := tw 699 (by decide +kernel) (by decide +kernel)
theorem fd_SMod_0_1 : FLD SMod 36 (0) 8 1 (some (.inl (1))) := ⟨by decide, _, rfl, rfl⟩
theorem fw_X8_13 : Cond.fieldLink RX8 13 (TX8 1).1 (TX8 1).2.1 (TX8 1).2.2.1 ∈ gw_tbl := tw 684 (by decide +kernel) (by decide +kernel)
theorem ar_SMod_1 : ARR SMod 36 (1) 0 4 := ⟨by decide, rfl⟩
theorem fd_SMod_0_3 : FLD SMod 36 (0) 8 3 (some (.inl (3))) := ⟨by decide, _, rfl, rfl⟩
theorem fw_X8_20 : Cond.fieldLink RX8 20 (TX8 3).1 (TX8 3).2.1 (TX8 3).2.2.1 ∈ gw_tbl := tw 686 (by decide +kernel) (by decide +kernel)
theorem ar_SMod_3 : ARR SMod 36 (3) 0 4 := ⟨by decide, rfl⟩
theorem fd_SMod_0_4 : FLD SMod 36 (0) 8 4 (some (.inl (4))) := ⟨by decide, _, rfl, rfl⟩
theorem fw_X8_23 : Cond.fieldLink RX8 23 (TX8 4).1 (TX8 4).2.1 (TX8 4).2.2.1 ∈ gw_tbl := tw 687 (by decide +kernel) (by decide +kernel)
theorem ar_SMod_4 : ARR SMod 36 (4) 0 4 := ⟨by decide, rfl⟩
theorem fd_SMod_0_5 : FLD SMod 36 (0) 8 5 (some (.inl (5))) := ⟨by decide, _, rfl, rfl⟩
theorem fw_X8_26 : Cond.fieldLink RX8 26 (TX8 5).1 (TX8 5).2.1 (TX8 5).2.2.1 ∈ gw_tbl := tw 688 (by decide +kernel) (by decide +kernel)
theorem ar_SMod_5 : ARR SMod 36 (5) 0 4 := ⟨by decide, rfl⟩
theorem sp_128 : (Int16.ofInt (128)).toInt32 = 128 := by decide
theorem fd_SMod_0_2 : FLD SMod 36 (0) 8 2 (some (.inl (2))) := ⟨by decide, _, rfl, rfl⟩
theorem fw_X8_17 : Cond.fieldLink RX8 17 (TX8 2).1 (TX8 2).2.1 (TX8 2).2.2.1 ∈ gw_tbl := tw 685 (by decide +kernel) (by decide +kernel)
theorem ar_SMod_2 : ARR SMod 36 (2) 0 128 := ⟨by decide, rfl⟩
theorem fd_SMod_0_7 : FLD SMod 36 (0) 8 7 (some (.inl (6))) := ⟨by decide, _, rfl, rfl⟩
theorem fw_X8_29 : Cond.fieldLink RX8 29 (TX8 7).1 (TX8 7).2.1 (TX8 7).2.2.1 ∈ gw_tbl := tw 690 (by decide +kernel) (by decide +kernel)
theorem ar_SMod_6 : ARR SMod 36 (6) 0 32 := ⟨by decide, rfl⟩
theorem fd_SMod_0_8 : FLD SMod 36 (0) 8 8 (some (.inl (7))) := ⟨by decide, _, rfl, rfl⟩
theorem fw_X8_32 : Cond.fieldLink RX8 32 (TX8 8).1 (TX8 8).2.1 (TX8 8).2.2.1 ∈ gw_tbl := tw 691 (by decide +kernel) (by decide +kernel)
theorem ar_SMod_7 : ARR SMod 36 (7) 0 32 := ⟨by decide, rfl⟩
theorem fd_SMod_0_9 : FLD SMod 36 (0) 8 9 (some (.inl (8))) := ⟨by decide, _, rfl, rfl⟩
theorem fw_X8_35 : Cond.fieldLink RX8 35 (TX8 9).1 (TX8 9).2.1 (TX8 9).2.2.1 ∈ gw_tbl := tw 692 (by decide +kernel) (by decide +kernel)
theorem ar_SMod_8 : ARR SMod 36 (8) 0 32 := ⟨by decide, rfl⟩
theorem fd_SMod_0_10 : FLD SMod 36 (0) 8 10 (some (.inl (9))) := ⟨by decide, _, rfl, rfl⟩
theorem fw_X8_38 : Cond.fieldLink RX8 38 (TX8 10).1 (TX8 10).2.1 (TX8 10).2.2.1 ∈ gw_tbl := tw 693 (by decide +kernel) (by decide +kernel)
theorem ar_SMod_9 : ARR SMod 36 (9) 0 32 := ⟨by decide, rfl⟩
theorem fd_SMod_0_11 : FLD SMod 36 (0) 8 11 (some (.inl (10))) := ⟨by decide, _, rfl, rfl⟩
theorem fw_X8_41 : Cond.fieldLink RX8 41 (TX8 11).1 (TX8 11).2.1 (TX8 11).2.2.1 ∈ gw_tbl := tw 694 (by decide +kernel) (by decide +kernel)
theorem ar_SMod_10 : ARR SMod 36 (10) 0 32 := ⟨by decide, rfl⟩
theorem fd_SMod_0_12 : FLD SMod 36 (0) 8 12 (some (.inl (11))) := ⟨by decide, _, rfl, rfl⟩
theorem fw_X8_44 : Cond.fieldLink RX8 44 (TX8 12).1 (TX8 12).2.1 (TX8 12).2.2.1 ∈ gw_tbl := tw 695 (by decide +kernel) (by decide +kernel)
theorem ar_SMod_11 : ARR SMod 36 (11) 0 32 := ⟨by decide, rfl⟩
theorem fd_SMod_0_13 : FLD SMod 36 (0) 8 13 (some (.inl (12))) := ⟨by decide, _, rfl, rfl⟩
theorem fw_X8_47 : Cond.fieldLink RX8 47 (TX8 13).1 (TX8 13).2.1 (TX8 13).2.2.1 ∈ gw_tbl := tw 696 (by decide +kernel) (by decide +kernel)
theorem ar_SMod_12 : ARR SMod 36 (12) 0 32 := ⟨by decide, rfl⟩
theorem sp_160 : (Int16.ofInt (160)).toInt32 = 160 := by decide
theorem ml_X8_163 : Cond.methodLink RX8 163 yX8_carryTold ∈ gw_tbl := tw 862 (by decide +kernel) (by decide +kernel)
theorem cb_X8_carryTold : CB yX8_carryTold cX8_carryTold 2 none 0 := ⟨(tw 864 (by decide +kernel) (by decide +kernel)), (tp 18 (by decide +kernel) (by decide +kernel)), (tw 10 (by decide +kernel) (by decide +kernel)), (tw 865 (by decide +kernel) (by decide +kernel)), by decide +kernel⟩
theorem fd_SMod_0_17 : FLD SMod 36 (0) 8 17 (some (.inl (13))) := ⟨by decide, _, rfl, rfl⟩
theorem fw_X8_53 : Cond.fieldLink RX8 53 (TX8 17).1 (TX8 17).2.1 (TX8 17).2.2.1 ∈ gw_tbl := tw 700 (by decide +kernel) (by decide +kernel)
theorem ar_SMod_13 : ARR SMod 36 (13) 0 160 := ⟨by decide, rfl⟩
theorem fd_SMod_0_30 : FLD SMod 36 (0) 8 30 (some (.inl (20))) := ⟨by decide, _, rfl, rfl⟩
theorem fw_X8_74 : Cond.fieldLink RX8 74 (TX8 30).1 (TX8 30).2.1 (TX8 30).2.2.1 ∈ gw_tbl := tw 713 (by decide +kernel) (by decide +kernel)
theorem ml_X8_166 : Cond.methodLink RX8 166 yX8_carryAll ∈ gw_tbl := tw 854 (by decide +kernel) (by decide +kernel)
theorem cb_X8_carryAll : CB yX8_carryAll cX8_carryAll 4 none 2 := ⟨(tw 856 (by decide +kernel) (by decide +kernel)), (tp 16 (by decide +kernel) (by decide +kernel)), (tw 10 (by decide +kernel) (by decide +kernel)), (tw 857 (by decide +kernel) (by decide +kernel)), by decide +kernel⟩
theorem ml_X8_183 : Cond.methodLink RX8 183 yX8_isEnded ∈ gw_tbl := tw 1004 (by decide +kernel) (by decide +kernel)
theorem cb_X8_isEnded : CB yX8_isEnded cX8_isEnded 2 (some .boolean) 1 := ⟨(tw 1006 (by decide +kernel) (by decide +kernel)), (tp 42 (by decide +kernel) (by decide +kernel)), (tw 10 (by decide +kernel) (by decide +kernel)), (tw 1007 (by decide +kernel) (by decide +kernel)), by decide +kernel⟩
theorem fd_SMod_0_27 : FLD SMod 36 (0) 8 27 none := ⟨by decide, _, rfl, rfl⟩
theorem fw_X8_176 : Cond.fieldLink RX8 176 (TX8 27).1 (TX8 27).2.1 (TX8 27).2.2.1 ∈ gw_tbl := tw 710 (by decide +kernel) (by decide +kernel)
theorem fd_SMod_0_28 : FLD SMod 36 (0) 8 28 none := ⟨by decide, _, rfl, rfl⟩
theorem fw_X8_173 : Cond.fieldLink RX8 173 (TX8 28).1 (TX8 28).2.1 (TX8 28).2.2.1 ∈ gw_tbl := tw 711 (by decide +kernel) (by decide +kernel)
theorem ml_X8_179 : Cond.methodLink RX8 179 yX8_looksAt ∈ gw_tbl := tw 988 (by decide +kernel) (by decide +kernel)
theorem cb_X8_looksAt : CB yX8_looksAt cX8_looksAt 3 none 1 := ⟨(tw 990 (by decide +kernel) (by decide +kernel)), (tp 38 (by decide +kernel) (by decide +kernel)), (tw 10 (by decide +kernel) (by decide +kernel)), (tw 991 (by decide +kernel) (by decide +kernel)), by decide +kernel⟩
theorem fd_SMod_0_36 : FLD SMod 36 (0) 8 36 (some (.inl (22))) := ⟨by decide, _, rfl, rfl⟩
theorem fw_X8_80 : Cond.fieldLink RX8 80 (TX8 36).1 (TX8 36).2.1 (TX8 36).2.2.1 ∈ gw_tbl := tw 719 (by decide +kernel) (by decide +kernel)
theorem ar_SMod_22 : ARR SMod 36 (22) 2 32 := ⟨by decide, rfl⟩
theorem ml_X8_187 : Cond.methodLink RX8 187 yX8_leavesRows ∈ gw_tbl := tw 1008 (by decide +kernel) (by decide +kernel)
theorem cb_X8_leavesRows : CB yX8_leavesRows cX8_leavesRows 5 none 1 := ⟨(tw 1010 (by decide +kernel) (by decide +kernel)), (tp 43 (by decide +kernel) (by decide +kernel)), (tw 10 (by decide +kernel) (by decide +kernel)), (tw 1011 (by decide +kernel) (by decide +kernel)), by decide +kernel⟩
theorem ml_X8_190 : Cond.methodLink RX8 190 yX8_entry ∈ gw_tbl := tw 984 (by decide +kernel) (by decide +kernel)
theorem cb_X8_entry : CB yX8_entry cX8_entry 5 none 3 := ⟨(tw 986 (by decide +kernel) (by decide +kernel)), (tp 37 (by decide +kernel) (by decide +kernel)), (tw 10 (by decide +kernel) (by decide +kernel)), (tw 987 (by decide +kernel) (by decide +kernel)), by decide +kernel⟩
theorem ml_X8_194 : Cond.methodLink RX8 194 yX8_cancelMarked ∈ gw_tbl := tw 1000 (by decide +kernel) (by decide +kernel)
theorem cb_X8_cancelMarked : CB yX8_cancelMarked cX8_cancelMarked 3 (some .int) 0 := ⟨(tw 1002 (by decide +kernel) (by decide +kernel)), (tp 41 (by decide +kernel) (by decide +kernel)), (tw 10 (by decide +kernel) (by decide +kernel)), (tw 1003 (by decide +kernel) (by decide +kernel)), by decide +kernel⟩
theorem ml_X8_198 : Cond.methodLink RX8 198 yX8_cancelIn ∈ gw_tbl := tw 996 (by decide +kernel) (by decide +kernel)
theorem cb_X8_cancelIn : CB yX8_cancelIn cX8_cancelIn 3 none 1 := ⟨(tw 998 (by decide +kernel) (by decide +kernel)), (tp 40 (by decide +kernel) (by decide +kernel)), (tw 10 (by decide +kernel) (by decide +kernel)), (tw 999 (by decide +kernel) (by decide +kernel)), by decide +kernel⟩
theorem ml_X8_201 : Cond.methodLink RX8 201 yX8_allEnded ∈ gw_tbl := tw 1012 (by decide +kernel) (by decide +kernel)
theorem cb_X8_allEnded : CB yX8_allEnded cX8_allEnded 4 (some .boolean) 1 := ⟨(tw 1014 (by decide +kernel) (by decide +kernel)), (tp 44 (by decide +kernel) (by decide +kernel)), (tw 10 (by decide +kernel) (by decide +kernel)), (tw 1015 (by decide +kernel) (by decide +kernel)), by decide +kernel⟩
theorem ml_X8_204 : Cond.methodLink RX8 204 yX8_worthIn ∈ gw_tbl := tw 1016 (by decide +kernel) (by decide +kernel)
theorem cb_X8_worthIn : CB yX8_worthIn cX8_worthIn 4 (some .int) 1 := ⟨(tw 1018 (by decide +kernel) (by decide +kernel)), (tp 45 (by decide +kernel) (by decide +kernel)), (tw 10 (by decide +kernel) (by decide +kernel)), (tw 1019 (by decide +kernel) (by decide +kernel)), by decide +kernel⟩
theorem ml_X8_207 : Cond.methodLink RX8 207 yX8_goesUp ∈ gw_tbl := tw 992 (by decide +kernel) (by decide +kernel)
theorem cb_X8_goesUp : CB yX8_goesUp cX8_goesUp 5 none 1 := ⟨(tw 994 (by decide +kernel) (by decide +kernel)), (tp 39 (by decide +kernel) (by decide +kernel)), (tw 10 (by decide +kernel) (by decide +kernel)), (tw 995 (by decide +kernel) (by decide +kernel)), by decide +kernel⟩
theorem ml_X8_210 : Cond.methodLink RX8 210 yX8_comesTo ∈ gw_tbl := tw 882 (by decide +kernel) (by decide +kernel)
theorem cb_X8_comesTo : CB yX8_comesTo cX8_comesTo 3 none 2 := ⟨(tw 884 (by decide +kernel) (by decide +kernel)), (tp 20 (by decide +kernel) (by decide +kernel)), (tw 10 (by decide +kernel) (by decide +kernel)), (tw 885 (by decide +kernel) (by decide +kernel)), by decide +kernel⟩
theorem kw_X8_214 : Cond.constant RX8 214 (1103515245) ∈ gw_tbl := tw 1036 (by decide +kernel) (by decide +kernel)
theorem ml_X8_215 : Cond.methodLink RX8 215 yX8_drawBelow ∈ gw_tbl := tw 1032 (by decide +kernel) (by decide +kernel)
theorem cb_X8_drawBelow : CB yX8_drawBelow cX8_drawBelow 2 (some .int) 1 := ⟨(tw 1034 (by decide +kernel) (by decide +kernel)), (tp 49 (by decide +kernel) (by decide +kernel)), (tw 10 (by decide +kernel) (by decide +kernel)), (tw 1035 (by decide +kernel) (by decide +kernel)), by decide +kernel⟩
theorem ml_X8_218 : Cond.methodLink RX8 218 yX8_worksOn ∈ gw_tbl := tw 1020 (by decide +kernel) (by decide +kernel)
theorem cb_X8_worksOn : CB yX8_worksOn cX8_worksOn 4 none 3 := ⟨(tw 1022 (by decide +kernel) (by decide +kernel)), (tp 46 (by decide +kernel) (by decide +kernel)), (tw 10 (by decide +kernel) (by decide +kernel)), (tw 1023 (by decide +kernel) (by decide +kernel)), by decide +kernel⟩
theorem ml_X8_224 : Cond.methodLink RX8 224 yX8_fullOthers ∈ gw_tbl := tw 1024 (by decide +kernel) (by decide +kernel)
theorem cb_X8_fullOthers : CB yX8_fullOthers cX8_fullOthers 4 (some .int) 1 := ⟨(tw 1026 (by decide +kernel) (by decide +kernel)), (tp 47 (by decide +kernel) (by decide +kernel)), (tw 10 (by decide +kernel) (by decide +kernel)), (tw 1027 (by decide +kernel) (by decide +kernel)), by decide +kernel⟩
theorem ml_X8_227 : Cond.methodLink RX8 227 yX8_steals ∈ gw_tbl := tw 1028 (by decide +kernel) (by decide +kernel)
theorem cb_X8_steals : CB yX8_steals cX8_steals 7 none 2 := ⟨(tw 1030 (by decide +kernel) (by decide +kernel)), (tp 48 (by decide +kernel) (by decide +kernel)), (tw 10 (by decide +kernel) (by decide +kernel)), (tw 1031 (by decide +kernel) (by decide +kernel)), by decide +kernel⟩
theorem ml_X8_221 : Cond.methodLink RX8 221 yX8_isThrough ∈ gw_tbl := tw 980 (by decide +kernel) (by decide +kernel)
theorem cb_X8_isThrough : CB yX8_isThrough cX8_isThrough 4 none 2 := ⟨(tw 982 (by decide +kernel) (by decide +kernel)), (tp 36 (by decide +kernel) (by decide +kernel)), (tw 10 (by decide +kernel) (by decide +kernel)), (tw 983 (by decide +kernel) (by decide +kernel)), by decide +kernel⟩
theorem ml_X8_230 : Cond.methodLink RX8 230 yX8_armGoes ∈ gw_tbl := tw 976 (by decide +kernel) (by decide +kernel)
theorem cb_X8_armGoes : CB yX8_armGoes cX8_armGoes 3 none 1 := ⟨(tw 978 (by decide +kernel) (by decide +kernel)), (tp 35 (by decide +kernel) (by decide +kernel)), (tw 10 (by decide +kernel) (by decide +kernel)), (tw 979 (by decide +kernel) (by decide +kernel)), by decide +kernel⟩
theorem ml_X8_233 : Cond.methodLink RX8 233 yX8_roundOn ∈ gw_tbl := tw 972 (by decide +kernel) (by decide +kernel)
theorem cb_X8_roundOn : CB yX8_roundOn cX8_roundOn 2 none 0 := ⟨(tw 974 (by decide +kernel) (by decide +kernel)), (tp 34 (by decide +kernel) (by decide +kernel)), (tw 10 (by decide +kernel) (by decide +kernel)), (tw 975 (by decide +kernel) (by decide +kernel)), by decide +kernel⟩
theorem ml_X8_321 : Cond.methodLink RX8 321 yX8_again ∈ gw_tbl := tw 1065 (by decide +kernel) (by decide +kernel)
theorem cb_X8_again : CB yX8_again cX8_again 1 none 0 := ⟨(tw 1067 (by decide +kernel) (by decide +kernel)), (tp 55 (by decide +kernel) (by decide +kernel)), (tw 10 (by decide +kernel) (by decide +kernel)), (tw 1068 (by decide +kernel) (by decide +kernel)), by decide +kernel⟩
theorem ml_X8_130 : Cond.methodLink RX8 130 yX8_in ∈ gw_tbl := tw 875 (by decide +kernel) (by decide +kernel)
theorem cs_X8_in : CS yX8_in cX8_in 6 (some .boolean) 3 := ⟨(tw 876 (by decide +kernel) (by decide +kernel)), (tw 10 (by decide +kernel) (by decide +kernel)), (tw 877 (by decide +kernel) (by decide +kernel)), by decide +kernel⟩
theorem fd_SMod_0_29 : FLD SMod 36 (0) 8 29 none := ⟨by decide, _, rfl, rfl⟩
theorem fw_X8_124 : Cond.fieldLink RX8 124 (TX8 29).1 (TX8 29).2.1 (TX8 29).2.2.1 ∈ gw_tbl := tw 712 (by decide +kernel) (by decide +kernel)
theorem ml_X8_272 : Cond.methodLink RX8 272 yX8_isArm ∈ gw_tbl := tw 899 (by decide +kernel) (by decide +kernel)
theorem cb_X8_isArm : CB yX8_isArm cX8_isArm 2 (some .boolean) 1 := ⟨(tw 901 (by decide +kernel) (by decide +kernel)), (tp 21 (by decide +kernel) (by decide +kernel)), (tw 10 (by decide +kernel) (by decide +kernel)), (tw 902 (by decide +kernel) (by decide +kernel)), by decide +kernel⟩
theorem kw_X8_302 : Cond.constantLong RX8 302 (3) ∈ gw_tbl := tw 962 (by decide +kernel) (by decide +kernel)
theorem kw_X8_236 : Cond.constantLong RX8 236 (4) ∈ gw_tbl := tw 874 (by decide +kernel) (by decide +kernel)
theorem ml_X8_238 : Cond.methodLink RX8 238 yX8_becomeArms ∈ gw_tbl := tw 878 (by decide +kernel) (by decide +kernel)
theorem cb_X8_becomeArms : CB yX8_becomeArms cX8_becomeArms 4 none 1 := ⟨(tw 880 (by decide +kernel) (by decide +kernel)), (tp 19 (by decide +kernel) (by decide +kernel)), (tw 10 (by decide +kernel) (by decide +kernel)), (tw 881 (by decide +kernel) (by decide +kernel)), by decide +kernel⟩
theorem ml_X8_312 : Cond.methodLink RX8 312 yX8_isOver ∈ gw_tbl := tw 1049 (by decide +kernel) (by decide +kernel)
theorem cb_X8_isOver : CB yX8_isOver cX8_isOver 3 (some .boolean) 0 := ⟨(tw 1051 (by decide +kernel) (by decide +kernel)), (tp 51 (by decide +kernel) (by decide +kernel)), (tw 10 (by decide +kernel) (by decide +kernel)), (tw 1052 (by decide +kernel) (by decide +kernel)), by decide +kernel⟩
theorem ml_X8_315 : Cond.methodLink RX8 315 yX8_open ∈ gw_tbl := tw 1057 (by decide +kernel) (by decide +kernel)
theorem cb_X8_open : CB yX8_open cX8_open 1 none 0 := ⟨(tw 1059 (by decide +kernel) (by decide +kernel)), (tp 53 (by decide +kernel) (by decide +kernel)), (tw 10 (by decide +kernel) (by decide +kernel)), (tw 1060 (by decide +kernel) (by decide +kernel)), by decide +kernel⟩
theorem ml_X8_318 : Cond.methodLink RX8 318 yX8_tillOver ∈ gw_tbl := tw 1061 (by decide +kernel) (by decide +kernel)
theorem cb_X8_tillOver : CB yX8_tillOver cX8_tillOver 2 (some .int) 0 := ⟨(tw 1063 (by decide +kernel) (by decide +kernel)), (tp 54 (by decide +kernel) (by decide +kernel)), (tw 10 (by decide +kernel) (by decide +kernel)), (tw 1064 (by decide +kernel) (by decide +kernel)), by decide +kernel⟩
theorem ml_X8_324 : Cond.methodLink RX8 324 yX8_tillBy ∈ gw_tbl := tw 1053 (by decide +kernel) (by decide +kernel)
theorem cb_X8_tillBy : CB yX8_tillBy cX8_tillBy 3 (some .int) 1 := ⟨(tw 1055 (by decide +kernel) (by decide +kernel)), (tp 52 (by decide +kernel) (by decide +kernel)), (tw 10 (by decide +kernel) (by decide +kernel)), (tw 1056 (by decide +kernel) (by decide +kernel)), by decide +kernel⟩
theorem ml_X8_290 : Cond.methodLink RX8 290 yX8_isTask ∈ gw_tbl := tw 925 (by decide +kernel) (by decide +kernel)
theorem cb_X8_isTask : CB yX8_isTask cX8_isTask 2 (some .boolean) 1 := ⟨(tw 927 (by decide +kernel) (by decide +kernel)), (tp 26 (by decide +kernel) (by decide +kernel)), (tw 10 (by decide +kernel) (by decide +kernel)), (tw 928 (by decide +kernel) (by decide +kernel)), by decide +kernel⟩
theorem kw_X8_364 : Cond.constantLong RX8 364 (5) ∈ gw_tbl := tw 1147 (by decide +kernel) (by decide +kernel)
theorem ml_X8_309 : Cond.methodLink RX8 309 yX8_cancelOne ∈ gw_tbl := tw 1041 (by decide +kernel) (by decide +kernel)
theorem cb_X8_cancelOne : CB yX8_cancelOne cX8_cancelOne 3 (some .int) 1 := ⟨(tw 1043 (by decide +kernel) (by decide +kernel)), (tp 50 (by decide +kernel) (by decide +kernel)), (tw 10 (by decide +kernel) (by decide +kernel)), (tw 1044 (by decide +kernel) (by decide +kernel)), by decide +kernel⟩
theorem ml_X8_330 : Cond.methodLink RX8 330 yX8_endedMany ∈ gw_tbl := tw 1081 (by decide +kernel) (by decide +kernel)
theorem cb_X8_endedMany : CB yX8_endedMany cX8_endedMany 3 (some .int) 0 := ⟨(tw 1083 (by decide +kernel) (by decide +kernel)), (tp 57 (by decide +kernel) (by decide +kernel)), (tw 10 (by decide +kernel) (by decide +kernel)), (tw 1084 (by decide +kernel) (by decide +kernel)), by decide +kernel⟩
theorem fd_SMod_0_38 : FLD SMod 36 (0) 8 38 none := ⟨by decide, _, rfl, rfl⟩
theorem fw_X8_243 : Cond.fieldLink RX8 243 (TX8 38).1 (TX8 38).2.1 (TX8 38).2.2.1 ∈ gw_tbl := tw 721 (by decide +kernel) (by decide +kernel)
theorem ml_X8_356 : Cond.methodLink RX8 356 yX8_worthAll ∈ gw_tbl := tw 1126 (by decide +kernel) (by decide +kernel)
theorem cb_X8_worthAll : CB yX8_worthAll cX8_worthAll 3 (some .int) 0 := ⟨(tw 1128 (by decide +kernel) (by decide +kernel)), (tp 61 (by decide +kernel) (by decide +kernel)), (tw 10 (by decide +kernel) (by decide +kernel)), (tw 1129 (by decide +kernel) (by decide +kernel)), by decide +kernel⟩
theorem ml_X8_361 : Cond.methodLink RX8 361 yX8_planned ∈ gw_tbl := tw 1139 (by decide +kernel) (by decide +kernel)
theorem cb_X8_planned : CB yX8_planned cX8_planned 3 none 1 := ⟨(tw 1141 (by decide +kernel) (by decide +kernel)), (tp 62 (by decide +kernel) (by decide +kernel)), (tw 10 (by decide +kernel) (by decide +kernel)), (tw 1142 (by decide +kernel) (by decide +kernel)), by decide +kernel⟩
theorem kw_X8_241 : Cond.constantLong RX8 241 (127) ∈ gw_tbl := tw 894 (by decide +kernel) (by decide +kernel)
theorem fd_SMod_0_37 : FLD SMod 36 (0) 8 37 (some (.inl (23))) := ⟨by decide, _, rfl, rfl⟩
theorem fw_X8_84 : Cond.fieldLink RX8 84 (TX8 37).1 (TX8 37).2.1 (TX8 37).2.2.1 ∈ gw_tbl := tw 720 (by decide +kernel) (by decide +kernel)
theorem ar_SMod_23 : ARR SMod 36 (23) 0 100 := ⟨by decide, rfl⟩
theorem fd_SMod_0_39 : FLD SMod 36 (0) 8 39 none := ⟨by decide, _, rfl, rfl⟩
theorem fw_X8_246 : Cond.fieldLink RX8 246 (TX8 39).1 (TX8 39).2.1 (TX8 39).2.2.1 ∈ gw_tbl := tw 722 (by decide +kernel) (by decide +kernel)
theorem ml_X8_252 : Cond.methodLink RX8 252 yX8_here ∈ gw_tbl := tw 911 (by decide +kernel) (by decide +kernel)
theorem cb_X8_here : CB yX8_here cX8_here 1 (some .int) 0 := ⟨(tw 913 (by decide +kernel) (by decide +kernel)), (tp 24 (by decide +kernel) (by decide +kernel)), (tw 10 (by decide +kernel) (by decide +kernel)), (tw 914 (by decide +kernel) (by decide +kernel)), by decide +kernel⟩
theorem fd_SMod_0_45 : FLD SMod 36 (0) 8 45 none := ⟨by decide, _, rfl, rfl⟩
theorem fw_X8_262 : Cond.fieldLink RX8 262 (TX8 45).1 (TX8 45).2.1 (TX8 45).2.2.1 ∈ gw_tbl := tw 728 (by decide +kernel) (by decide +kernel)
theorem fd_SMod_0_46 : FLD SMod 36 (0) 8 46 (some (.inl (27))) := ⟨by decide, _, rfl, rfl⟩
theorem fw_X8_96 : Cond.fieldLink RX8 96 (TX8 46).1 (TX8 46).2.1 (TX8 46).2.2.1 ∈ gw_tbl := tw 729 (by decide +kernel) (by decide +kernel)
theorem fd_SMod_0_41 : FLD SMod 36 (0) 8 41 none := ⟨by decide, _, rfl, rfl⟩
theorem fw_X8_249 : Cond.fieldLink RX8 249 (TX8 41).1 (TX8 41).2.1 (TX8 41).2.2.1 ∈ gw_tbl := tw 724 (by decide +kernel) (by decide +kernel)
theorem ar_SMod_27 : ARR SMod 36 (27) 0 5 := ⟨by decide, rfl⟩
theorem fd_SMod_0_47 : FLD SMod 36 (0) 8 47 (some (.inl (28))) := ⟨by decide, _, rfl, rfl⟩
theorem fw_X8_99 : Cond.fieldLink RX8 99 (TX8 47).1 (TX8 47).2.1 (TX8 47).2.2.1 ∈ gw_tbl := tw 730 (by decide +kernel) (by decide +kernel)
theorem ar_SMod_28 : ARR SMod 36 (28) 0 5 := ⟨by decide, rfl⟩
theorem bp_41 : (Int8.ofInt (41)).toInt32 = 41 := by decide
theorem bp_44 : (Int8.ofInt (44)).toInt32 = 44 := by decide
theorem fd_SMod_0_40 : FLD SMod 36 (0) 8 40 none := ⟨by decide, _, rfl, rfl⟩
theorem fw_X8_259 : Cond.fieldLink RX8 259 (TX8 40).1 (TX8 40).2.1 (TX8 40).2.2.1 ∈ gw_tbl := tw 723 (by decide +kernel) (by decide +kernel)
theorem fd_SMod_0_32 : FLD SMod 36 (0) 8 32 none := ⟨by decide, _, rfl, rfl⟩
theorem fw_X8_170 : Cond.fieldLink RX8 170 (TX8 32).1 (TX8 32).2.1 (TX8 32).2.2.1 ∈ gw_tbl := tw 715 (by decide +kernel) (by decide +kernel)
theorem fd_SMod_0_31 : FLD SMod 36 (0) 8 31 (some (.inl (21))) := ⟨by decide, _, rfl, rfl⟩
theorem fw_X8_77 : Cond.fieldLink RX8 77 (TX8 31).1 (TX8 31).2.1 (TX8 31).2.2.1 ∈ gw_tbl := tw 714 (by decide +kernel) (by decide +kernel)
theorem ml_X8_366 : Cond.methodLink RX8 366 yX8_isTape ∈ gw_tbl := tw 1160 (by decide +kernel) (by decide +kernel)
theorem cb_X8_isTape : CB yX8_isTape cX8_isTape 2 (some .boolean) 1 := ⟨(tw 1162 (by decide +kernel) (by decide +kernel)), (tp 63 (by decide +kernel) (by decide +kernel)), (tw 10 (by decide +kernel) (by decide +kernel)), (tw 1163 (by decide +kernel) (by decide +kernel)), by decide +kernel⟩
theorem fd_SMod_0_54 : FLD SMod 36 (0) 8 54 (some (.inl (35))) := ⟨by decide, _, rfl, rfl⟩
theorem fw_X8_121 : Cond.fieldLink RX8 121 (TX8 54).1 (TX8 54).2.1 (TX8 54).2.2.1 ∈ gw_tbl := tw 737 (by decide +kernel) (by decide +kernel)
theorem ar_SMod_35 : ARR SMod 36 (35) 2 6 := ⟨by decide, rfl⟩
theorem fd_SMod_0_51 : FLD SMod 36 (0) 8 51 (some (.inl (32))) := ⟨by decide, _, rfl, rfl⟩
theorem fw_X8_111 : Cond.fieldLink RX8 111 (TX8 51).1 (TX8 51).2.1 (TX8 51).2.2.1 ∈ gw_tbl := tw 734 (by decide +kernel) (by decide +kernel)
theorem ar_SMod_32 : ARR SMod 36 (32) 0 6 := ⟨by decide, rfl⟩
theorem fd_SMod_0_52 : FLD SMod 36 (0) 8 52 (some (.inl (33))) := ⟨by decide, _, rfl, rfl⟩
theorem fw_X8_114 : Cond.fieldLink RX8 114 (TX8 52).1 (TX8 52).2.1 (TX8 52).2.2.1 ∈ gw_tbl := tw 735 (by decide +kernel) (by decide +kernel)
theorem fd_SMod_0_50 : FLD SMod 36 (0) 8 50 (some (.inl (31))) := ⟨by decide, _, rfl, rfl⟩
theorem fw_X8_108 : Cond.fieldLink RX8 108 (TX8 50).1 (TX8 50).2.1 (TX8 50).2.2.1 ∈ gw_tbl := tw 733 (by decide +kernel) (by decide +kernel)
theorem ar_SMod_31 : ARR SMod 36 (31) 0 6 := ⟨by decide, rfl⟩
theorem ml_X8_371 : Cond.methodLink RX8 371 yX8_narrowed ∈ gw_tbl := tw 1169 (by decide +kernel) (by decide +kernel)
theorem cs_X8_narrowed : CS yX8_narrowed cX8_narrowed 3 (some .long) 2 := ⟨(tw 1170 (by decide +kernel) (by decide +kernel)), (tw 10 (by decide +kernel) (by decide +kernel)), (tw 1171 (by decide +kernel) (by decide +kernel)), by decide +kernel⟩
theorem ar_SMod_33 : ARR SMod 36 (33) 1 360 := ⟨by decide, rfl⟩
theorem fd_SMod_0_48 : FLD SMod 36 (0) 8 48 (some (.inl (29))) := ⟨by decide, _, rfl, rfl⟩
theorem fw_X8_102 : Cond.fieldLink RX8 102 (TX8 48).1 (TX8 48).2.1 (TX8 48).2.2.1 ∈ gw_tbl := tw 731 (by decide +kernel) (by decide +kernel)
theorem ar_SMod_29 : ARR SMod 36 (29) 0 32 := ⟨by decide, rfl⟩
theorem fd_SMod_0_49 : FLD SMod 36 (0) 8 49 (some (.inl (30))) := ⟨by decide, _, rfl, rfl⟩
theorem fw_X8_105 : Cond.fieldLink RX8 105 (TX8 49).1 (TX8 49).2.1 (TX8 49).2.2.1 ∈ gw_tbl := tw 732 (by decide +kernel) (by decide +kernel)
theorem ar_SMod_30 : ARR SMod 36 (30) 0 32 := ⟨by decide, rfl⟩
theorem ml_X8_344 : Cond.methodLink RX8 344 yX8_divisor ∈ gw_tbl := tw 1119 (by decide +kernel) (by decide +kernel)
theorem cs_X8_divisor : CS yX8_divisor cX8_divisor 10 (some .long) 2 := ⟨(tw 1120 (by decide +kernel) (by decide +kernel)), (tw 10 (by decide +kernel) (by decide +kernel)), (tw 1121 (by decide +kernel) (by decide +kernel)), by decide +kernel⟩
theorem ml_X8_333 : Cond.methodLink RX8 333 yX8_doneMany ∈ gw_tbl := tw 1085 (by decide +kernel) (by decide +kernel)
theorem cb_X8_doneMany : CB yX8_doneMany cX8_doneMany 3 (some .int) 0 := ⟨(tw 1087 (by decide +kernel) (by decide +kernel)), (tp 58 (by decide +kernel) (by decide +kernel)), (tw 10 (by decide +kernel) (by decide +kernel)), (tw 1088 (by decide +kernel) (by decide +kernel)), by decide +kernel⟩
theorem ml_X8_352 : Cond.methodLink RX8 352 yX8_partOf ∈ gw_tbl := tw 1116 (by decide +kernel) (by decide +kernel)
theorem cs_X8_partOf : CS yX8_partOf cX8_partOf 7 (some .long) 3 := ⟨(tw 1117 (by decide +kernel) (by decide +kernel)), (tw 10 (by decide +kernel) (by decide +kernel)), (tw 1118 (by decide +kernel) (by decide +kernel)), by decide +kernel⟩
theorem kw_X8_348 : Cond.constantLong RX8 348 (-9223372036854775808) ∈ gw_tbl := tw 1114 (by decide +kernel) (by decide +kernel)
theorem kw_X8_304 : Cond.constantLong RX8 304 (60) ∈ gw_tbl := tw 967 (by decide +kernel) (by decide +kernel)
theorem kw_X8_350 : Cond.constantLong RX8 350 (20) ∈ gw_tbl := tw 1115 (by decide +kernel) (by decide +kernel)
theorem ml_X8_306 : Cond.methodLink RX8 306 yX8_goRounds ∈ gw_tbl := tw 968 (by decide +kernel) (by decide +kernel)
theorem cb_X8_goRounds : CB yX8_goRounds cX8_goRounds 3 none 1 := ⟨(tw 970 (by decide +kernel) (by decide +kernel)), (tp 33 (by decide +kernel) (by decide +kernel)), (tw 10 (by decide +kernel) (by decide +kernel)), (tw 971 (by decide +kernel) (by decide +kernel)), by decide +kernel⟩
theorem ml_X8_278 : Cond.methodLink RX8 278 yX8_laySpans ∈ gw_tbl := tw 938 (by decide +kernel) (by decide +kernel)
theorem cb_X8_laySpans : CB yX8_laySpans cX8_laySpans 3 none 0 := ⟨(tw 940 (by decide +kernel) (by decide +kernel)), (tp 29 (by decide +kernel) (by decide +kernel)), (tw 10 (by decide +kernel) (by decide +kernel)), (tw 941 (by decide +kernel) (by decide +kernel)), by decide +kernel⟩
theorem ml_X8_281 : Cond.methodLink RX8 281 yX8_depthOf ∈ gw_tbl := tw 942 (by decide +kernel) (by decide +kernel)
theorem cb_X8_depthOf : CB yX8_depthOf cX8_depthOf 4 (some .int) 1 := ⟨(tw 944 (by decide +kernel) (by decide +kernel)), (tp 30 (by decide +kernel) (by decide +kernel)), (tw 10 (by decide +kernel) (by decide +kernel)), (tw 945 (by decide +kernel) (by decide +kernel)), by decide +kernel⟩
theorem ml_X8_284 : Cond.methodLink RX8 284 yX8_workedBy ∈ gw_tbl := tw 946 (by decide +kernel) (by decide +kernel)
theorem cb_X8_workedBy : CB yX8_workedBy cX8_workedBy 4 (some .int) 1 := ⟨(tw 948 (by decide +kernel) (by decide +kernel)), (tp 31 (by decide +kernel) (by decide +kernel)), (tw 10 (by decide +kernel) (by decide +kernel)), (tw 949 (by decide +kernel) (by decide +kernel)), by decide +kernel⟩
theorem ml_X8_287 : Cond.methodLink RX8 287 yX8_rowOf ∈ gw_tbl := tw 950 (by decide +kernel) (by decide +kernel)
theorem cb_X8_rowOf : CB yX8_rowOf cX8_rowOf 5 (some .int) 1 := ⟨(tw 952 (by decide +kernel) (by decide +kernel)), (tp 32 (by decide +kernel) (by decide +kernel)), (tw 10 (by decide +kernel) (by decide +kernel)), (tw 953 (by decide +kernel) (by decide +kernel)), by decide +kernel⟩
theorem kw_X8_293 : Cond.constantLong RX8 293 (11) ∈ gw_tbl := tw 929 (by decide +kernel) (by decide +kernel)
theorem ml_X8_295 : Cond.methodLink RX8 295 yX8_manyIn ∈ gw_tbl := tw 930 (by decide +kernel) (by decide +kernel)
theorem cb_X8_manyIn : CB yX8_manyIn cX8_manyIn 4 (some .int) 1 := ⟨(tw 932 (by decide +kernel) (by decide +kernel)), (tp 27 (by decide +kernel) (by decide +kernel)), (tw 10 (by decide +kernel) (by decide +kernel)), (tw 933 (by decide +kernel) (by decide +kernel)), by decide +kernel⟩
theorem ml_X8_298 : Cond.methodLink RX8 298 yX8_treeOf ∈ gw_tbl := tw 934 (by decide +kernel) (by decide +kernel)
theorem cb_X8_treeOf : CB yX8_treeOf cX8_treeOf 3 (some .int) 2 := ⟨(tw 936 (by decide +kernel) (by decide +kernel)), (tp 28 (by decide +kernel) (by decide +kernel)), (tw 10 (by decide +kernel) (by decide +kernel)), (tw 937 (by decide +kernel) (by decide +kernel)), by decide +kernel⟩
theorem ml_X8_336 : Cond.methodLink RX8 336 yX8_ofArms ∈ gw_tbl := tw 1089 (by decide +kernel) (by decide +kernel)
theorem cb_X8_ofArms : CB yX8_ofArms cX8_ofArms 4 (some .int) 1 := ⟨(tw 1091 (by decide +kernel) (by decide +kernel)), (tp 59 (by decide +kernel) (by decide +kernel)), (tw 10 (by decide +kernel) (by decide +kernel)), (tw 1092 (by decide +kernel) (by decide +kernel)), by decide +kernel⟩
theorem kw_X8_359 : Cond.constantLong RX8 359 (2) ∈ gw_tbl := tw 1134 (by decide +kernel) (by decide +kernel)
theorem kw_X8_255 : Cond.constantLong RX8 255 (49) ∈ gw_tbl := tw 915 (by decide +kernel) (by decide +kernel)
theorem kw_X8_257 : Cond.constantLong RX8 257 (57) ∈ gw_tbl := tw 916 (by decide +kernel) (by decide +kernel)
theorem fd_SMod_0_42 : FLD SMod 36 (0) 8 42 (some (.inl (24))) := ⟨by decide, _, rfl, rfl⟩
theorem fw_X8_87 : Cond.fieldLink RX8 87 (TX8 42).1 (TX8 42).2.1 (TX8 42).2.2.1 ∈ gw_tbl := tw 725 (by decide +kernel) (by decide +kernel)
theorem ar_SMod_24 : ARR SMod 36 (24) 0 101 := ⟨by decide, rfl⟩
theorem fd_SMod_0_44 : FLD SMod 36 (0) 8 44 (some (.inl (26))) := ⟨by decide, _, rfl, rfl⟩
theorem fw_X8_93 : Cond.fieldLink RX8 93 (TX8 44).1 (TX8 44).2.1 (TX8 44).2.2.1 ∈ gw_tbl := tw 727 (by decide +kernel) (by decide +kernel)
theorem ar_SMod_26 : ARR SMod 36 (26) 0 101 := ⟨by decide, rfl⟩
theorem fd_SMod_0_43 : FLD SMod 36 (0) 8 43 (some (.inl (25))) := ⟨by decide, _, rfl, rfl⟩
theorem fw_X8_90 : Cond.fieldLink RX8 90 (TX8 43).1 (TX8 43).2.1 (TX8 43).2.2.1 ∈ gw_tbl := tw 726 (by decide +kernel) (by decide +kernel)
theorem ar_SMod_25 : ARR SMod 36 (25) 0 101 := ⟨by decide, rfl⟩
theorem bp_33 : (Int8.ofInt (33)).toInt32 = 33 := by decide
theorem bp_63 : (Int8.ofInt (63)).toInt32 = 63 := by decide
theorem ml_X8_265 : Cond.methodLink RX8 265 yX8_readTask ∈ gw_tbl := tw 907 (by decide +kernel) (by decide +kernel)
theorem cb_X8_readTask : CB yX8_readTask cX8_readTask 2 none 0 := ⟨(tw 909 (by decide +kernel) (by decide +kernel)), (tp 23 (by decide +kernel) (by decide +kernel)), (tw 10 (by decide +kernel) (by decide +kernel)), (tw 910 (by decide +kernel) (by decide +kernel)), by decide +kernel⟩
theorem ml_X8_268 : Cond.methodLink RX8 268 yX8_goesOn ∈ gw_tbl := tw 917 (by decide +kernel) (by decide +kernel)
theorem cb_X8_goesOn : CB yX8_goesOn cX8_goesOn 1 (some .boolean) 0 := ⟨(tw 919 (by decide +kernel) (by decide +kernel)), (tp 25 (by decide +kernel) (by decide +kernel)), (tw 10 (by decide +kernel) (by decide +kernel)), (tw 920 (by decide +kernel) (by decide +kernel)), by decide +kernel⟩
theorem kw_X8_339 : Cond.constantLong RX8 339 (39) ∈ gw_tbl := tw 1101 (by decide +kernel) (by decide +kernel)
theorem bp_30 : (Int8.ofInt (30)).toInt32 = 30 := by decide
theorem ml_X8_341 : Cond.methodLink RX8 341 yX8_allSeen ∈ gw_tbl := tw 1106 (by decide +kernel) (by decide +kernel)
theorem cb_X8_allSeen : CB yX8_allSeen cX8_allSeen 4 (some .boolean) 1 := ⟨(tw 1108 (by decide +kernel) (by decide +kernel)), (tp 60 (by decide +kernel) (by decide +kernel)), (tw 10 (by decide +kernel) (by decide +kernel)), (tw 1109 (by decide +kernel) (by decide +kernel)), by decide +kernel⟩
theorem fd_SMod_0_53 : FLD SMod 36 (0) 8 53 (some (.inl (34))) := ⟨by decide, _, rfl, rfl⟩
theorem fw_X8_118 : Cond.fieldLink RX8 118 (TX8 53).1 (TX8 53).2.1 (TX8 53).2.2.1 ∈ gw_tbl := tw 736 (by decide +kernel) (by decide +kernel)
theorem ar_SMod_34 : ARR SMod 36 (34) 1 60 := ⟨by decide, rfl⟩
theorem kw_X8_369 : Cond.constantLong RX8 369 (-1) ∈ gw_tbl := tw 1164 (by decide +kernel) (by decide +kernel)
theorem ml_X8_327 : Cond.methodLink RX8 327 yX8_bestArms ∈ gw_tbl := tw 1069 (by decide +kernel) (by decide +kernel)
theorem cb_X8_bestArms : CB yX8_bestArms cX8_bestArms 5 (some .int) 0 := ⟨(tw 1071 (by decide +kernel) (by decide +kernel)), (tp 56 (by decide +kernel) (by decide +kernel)), (tw 10 (by decide +kernel) (by decide +kernel)), (tw 1072 (by decide +kernel) (by decide +kernel)), by decide +kernel⟩
theorem ml_X8_275 : Cond.methodLink RX8 275 yX8_readTree ∈ gw_tbl := tw 903 (by decide +kernel) (by decide +kernel)
theorem cb_X8_readTree : CB yX8_readTree cX8_readTree 2 (some .boolean) 0 := ⟨(tw 905 (by decide +kernel) (by decide +kernel)), (tp 22 (by decide +kernel) (by decide +kernel)), (tw 10 (by decide +kernel) (by decide +kernel)), (tw 906 (by decide +kernel) (by decide +kernel)), by decide +kernel⟩
