def f_X6_armAtWorkOn_b2 : Nat → Int32 → Int32 → IS → Option (Int32)
  | 0, _, _, _ => none
  | fu + 1, x1, x2, I =>
    if (I (0) 6) ≤ x2 then
    (some ((-5 : Int32)))
    else
    (if okI (x2) 4 = true then
    (if (I (gArm ((x2).toNatClampNeg)) 2) = x1 then
    (some (x2))
    else
    (f_X6_armAtWorkOn_b2 fu (x1) (x2 + (1 : Int32)) (I)))
    else none)
set_option maxHeartbeats 4000000 in
set_option maxRecDepth 100000 in
theorem c_X6_armAtWorkOn_b2 {z : CTX} {J : JS} (O : OK z cX6_armAtWorkOn RX6 3 SWor 34 (rm_ 0 0) (some .int)) : ∀ (fu : Nat) (x1 : Int32) (x2 : Int32) (I : IS) (q : Int32), f_X6_armAtWorkOn_b2 fu x1 x2 I = some q → G z 2 [(0, .ref (0)), (1, .int (x1)), (2, .int (x2))] [] I J (some (.int q), I, J) := by
  intro fu
  induction fu with
  | zero =>
    intro x1 x2 I q hF
    cases hF
  | succ fu ih =>
    intro x1 x2 I q hF
    rw [f_X6_armAtWorkOn_b2] at hF
    refine g_iload_n O (pc := 2) dX6_armAtWorkOn_2 2 rfl ?_
    refine g_aload_n O (pc := 3) dX6_armAtWorkOn_3 0 rfl ?_
    refine g_getI O (pc := 4) isC_X6 dX6_armAtWorkOn_4 fw_X6_47 (by decide) fd_SWor_0_6 ?_
    refine g_icmp_ge O (pc := 7) 31 dX6_armAtWorkOn_7 (by decide) (fun h1 => ?_) (fun h1 => ?_)
    · rw [if_pos h1] at hF
      refine g_bipush O (pc := 31) dX6_armAtWorkOn_31 bp_m5 ?_
      obtain rfl := Option.some.inj hF
      exact g_ireturn O (pc := 33) dX6_armAtWorkOn_33 rfl
    · rw [if_neg h1] at hF
      refine g_aload_n O (pc := 10) dX6_armAtWorkOn_10 0 rfl ?_
      refine g_getR O (pc := 11) isC_X6 dX6_armAtWorkOn_11 fw_X6_11 (by decide) fd_SWor_0_0 ?_
      refine g_iload_n O (pc := 14) dX6_armAtWorkOn_14 2 rfl ?_
      obtain ⟨h2, hF⟩ := gd hF
      refine g_al O (pc := 15) dX6_armAtWorkOn_15 rr_SWor_1 (Or.inl rfl) h2 ?_
      refine g_getI O (pc := 16) isC_X0 dX6_armAtWorkOn_16 fw_X6_70 (by decide) (fd_SWor_gArm_2 ((x2).toNatClampNeg)) ?_
      refine g_iload_n O (pc := 19) dX6_armAtWorkOn_19 1 rfl ?_
      refine g_icmp_ne O (pc := 20) 25 dX6_armAtWorkOn_20 (by decide) (fun h3 => ?_) (fun h3 => ?_)
      · rw [if_neg h3] at hF
        refine g_iinc O (pc := 25) (v := x2 + (1 : Int32)) (L' := [(2, .int (x2 + (1 : Int32))), (0, .ref (0)), (1, .int (x1))]) dX6_armAtWorkOn_25 2 rfl rfl (by decide) rfl ?_
        refine g_goto O (pc := 28) 2 dX6_armAtWorkOn_28 (by decide) ?_
        refine g_sub [1, 2, 0] (L' := [(0, .ref (0)), (1, .int (x1)), (2, .int (x2 + (1 : Int32)))]) rfl ?_
        exact ih _ _ _ _ hF
      · rw [if_pos h3] at hF
        refine g_iload_n O (pc := 23) dX6_armAtWorkOn_23 2 rfl ?_
        obtain rfl := Option.some.inj hF
        exact g_ireturn O (pc := 24) dX6_armAtWorkOn_24 rfl

def f_X6_armAtWorkOn (x1 : Int32) (I : IS) : Option (Int32) :=
  f_X6_armAtWorkOn_b2 LF (x1) ((0 : Int32)) (I)
set_option maxHeartbeats 4000000 in
set_option maxRecDepth 100000 in
theorem c_X6_armAtWorkOn_e {z : CTX} {J : JS} (O : OK z cX6_armAtWorkOn RX6 3 SWor 34 (rm_ 0 0) (some .int)) : ∀ (x1 : Int32) (I : IS) (q : Int32), f_X6_armAtWorkOn x1 I = some q → G z 0 [(0, .ref (0)), (1, .int (x1))] [] I J (some (.int q), I, J) := by
  intro x1 I q hF
  rw [f_X6_armAtWorkOn] at hF
  refine g_iconst O (pc := 0) dX6_armAtWorkOn_0 (ic_0) ?_
  refine g_istore_n O (pc := 1) (L' := [(2, .int ((0 : Int32))), (0, .ref (0)), (1, .int (x1))]) dX6_armAtWorkOn_1 (by decide) rfl ?_
  refine g_sub [1, 2, 0] (L' := [(0, .ref (0)), (1, .int (x1)), (2, .int ((0 : Int32)))]) rfl ?_
  exact c_X6_armAtWorkOn_b2 O _ _ _ _ _ hF

theorem mc_X6_armAtWorkOn {x1 : Int32} {I : IS} (J : JS) {q : Int32} (hF : f_X6_armAtWorkOn x1 I = some q) : MC yX6_armAtWorkOn cX6_armAtWorkOn 3 (some .int) (rm_ 0 0) SWor 34 [.ref (0), .int (x1)] I J (some (.int q), I, J) :=
  mc_of pn_X6 (Nat.le_of_ble_eq_true rfl) (fun z O => c_X6_armAtWorkOn_e O _ _ _ hF)

def f_X6_armWithRowOf_b2 : Nat → Int32 → Int32 → IS → Option (Int32)
  | 0, _, _, _ => none
  | fu + 1, x1, x2, I =>
    if (I (0) 6) ≤ x2 then
    (some ((-5 : Int32)))
    else
    (if okI (x2) 4 = true then
    ((f_X0_holds (x1) (zI (gArm ((x2).toNatClampNeg)) I)).bind fun q3 =>
    (if q3 = 0 then
    (f_X6_armWithRowOf_b2 fu (x1) (x2 + (1 : Int32)) (I))
    else
    (some (x2))))
    else none)
set_option maxHeartbeats 4000000 in
set_option maxRecDepth 100000 in
theorem c_X6_armWithRowOf_b2 {z : CTX} {J : JS} (O : OK z cX6_armWithRowOf RX6 3 SWor 34 (rm_ 1 22) (some .int)) : ∀ (fu : Nat) (x1 : Int32) (x2 : Int32) (I : IS) (q : Int32), f_X6_armWithRowOf_b2 fu x1 x2 I = some q → G z 2 [(0, .ref (0)), (1, .int (x1)), (2, .int (x2))] [] I J (some (.int q), I, J) := by
  intro fu
  induction fu with
  | zero =>
    intro x1 x2 I q hF
    cases hF
  | succ fu ih =>
    intro x1 x2 I q hF
    rw [f_X6_armWithRowOf_b2] at hF
    refine g_iload_n O (pc := 2) dX6_armWithRowOf_2 2 rfl ?_
    refine g_aload_n O (pc := 3) dX6_armWithRowOf_3 0 rfl ?_
    refine g_getI O (pc := 4) isC_X6 dX6_armWithRowOf_4 fw_X6_47 (by decide) fd_SWor_0_6 ?_
    refine g_icmp_ge O (pc := 7) 31 dX6_armWithRowOf_7 (by decide) (fun h1 => ?_) (fun h1 => ?_)
    · rw [if_pos h1] at hF
      refine g_bipush O (pc := 31) dX6_armWithRowOf_31 bp_m5 ?_
      obtain rfl := Option.some.inj hF
      exact g_ireturn O (pc := 33) dX6_armWithRowOf_33 rfl
    · rw [if_neg h1] at hF
      refine g_aload_n O (pc := 10) dX6_armWithRowOf_10 0 rfl ?_
      refine g_getR O (pc := 11) isC_X6 dX6_armWithRowOf_11 fw_X6_11 (by decide) fd_SWor_0_0 ?_
      refine g_iload_n O (pc := 14) dX6_armWithRowOf_14 2 rfl ?_
      obtain ⟨h2, hF⟩ := gd hF
      refine g_al O (pc := 15) dX6_armWithRowOf_15 rr_SWor_1 (Or.inl rfl) h2 ?_
      refine g_iload_n O (pc := 16) dX6_armWithRowOf_16 1 rfl ?_
      obtain ⟨q3, e4, hF⟩ := bnd hF
      refine g_Vi O (pc := 17) (st := []) dX6_armWithRowOf_17 (mc_X0_holds (zI (gArm ((x2).toNatClampNeg)) J) e4) cb_X0_holds ml_X6_172 isC_X0 ob_SArm (zm1R (sub_Wor_arm ((x2).toNatClampNeg)) _ _ _) (rmok (Nat.le_of_ble_eq_true rfl) (Nat.le_of_ble_eq_true rfl)) (Nat.le_of_ble_eq_true rfl) rfl ?_
      refine g_if_eq O (pc := 20) 25 dX6_armWithRowOf_20 (by decide) (fun h5 => ?_) (fun h5 => ?_)
      · rw [if_pos h5] at hF
        refine g_iinc O (pc := 25) (v := x2 + (1 : Int32)) (L' := [(2, .int (x2 + (1 : Int32))), (0, .ref (0)), (1, .int (x1))]) dX6_armWithRowOf_25 2 rfl rfl (by decide) rfl ?_
        refine g_goto O (pc := 28) 2 dX6_armWithRowOf_28 (by decide) ?_
        refine g_sub [1, 2, 0] (L' := [(0, .ref (0)), (1, .int (x1)), (2, .int (x2 + (1 : Int32)))]) rfl ?_
        exact ih _ _ _ _ hF
      · rw [if_neg h5] at hF
        refine g_iload_n O (pc := 23) dX6_armWithRowOf_23 2 rfl ?_
        obtain rfl := Option.some.inj hF
        exact g_ireturn O (pc := 24) dX6_armWithRowOf_24 rfl

def f_X6_armWithRowOf (x1 : Int32) (I : IS) : Option (Int32) :=
  f_X6_armWithRowOf_b2 LF (x1) ((0 : Int32)) (I)
set_option maxHeartbeats 4000000 in
set_option maxRecDepth 100000 in
theorem c_X6_armWithRowOf_e {z : CTX} {J : JS} (O : OK z cX6_armWithRowOf RX6 3 SWor 34 (rm_ 1 22) (some .int)) : ∀ (x1 : Int32) (I : IS) (q : Int32), f_X6_armWithRowOf x1 I = some q → G z 0 [(0, .ref (0)), (1, .int (x1))] [] I J (some (.int q), I, J) := by
  intro x1 I q hF
  rw [f_X6_armWithRowOf] at hF
  refine g_iconst O (pc := 0) dX6_armWithRowOf_0 (ic_0) ?_
  refine g_istore_n O (pc := 1) (L' := [(2, .int ((0 : Int32))), (0, .ref (0)), (1, .int (x1))]) dX6_armWithRowOf_1 (by decide) rfl ?_
  refine g_sub [1, 2, 0] (L' := [(0, .ref (0)), (1, .int (x1)), (2, .int ((0 : Int32)))]) rfl ?_
  exact c_X6_armWithRowOf_b2 O _ _ _ _ _ hF

theorem mc_X6_armWithRowOf {x1 : Int32} {I : IS} (J : JS) {q : Int32} (hF : f_X6_armWithRowOf x1 I = some q) : MC yX6_armWithRowOf cX6_armWithRowOf 3 (some .int) (rm_ 1 22) SWor 34 [.ref (0), .int (x1)] I J (some (.int q), I, J) :=
  mc_of pn_X6 (Nat.le_of_ble_eq_true rfl) (fun z O => c_X6_armWithRowOf_e O _ _ _ hF)

def f_X6_become_b2 : Nat → Int32 → IS → Option (IS)
  | 0, _, _ => none
  | fu + 1, x2, I =>
    if (4 : Int32) ≤ x2 then
    ((f_X4_become (zI2 (10) 9 (44) I)).bind fun q2 =>
    ((f_X1_become (zI2 (19) 6 (53) (gI2 (10) 9 (44) 9 q2 I))).bind fun q4 =>
    ((f_X2_become 5 (zI2 (25) 3 (59) (gI2 (19) 6 (53) 6 q4 (gI2 (10) 9 (44) 9 q2 I)))).bind fun q6 =>
    ((f_X2_become 10 (zI2 (28) 3 (62) (gI2 (25) 3 (59) 3 q6 (gI2 (19) 6 (53) 6 q4 (gI2 (10) 9 (44) 9 q2 I))))).bind fun q8 =>
    ((f_X2_become 8 (zI2 (31) 3 (65) (gI2 (28) 3 (62) 3 q8 (gI2 (25) 3 (59) 3 q6 (gI2 (19) 6 (53) 6 q4 (gI2 (10) 9 (44) 9 q2 I)))))).bind fun q10 =>
    ((some (gI2 (31) 3 (65) 3 q10 (gI2 (28) 3 (62) 3 q8 (gI2 (25) 3 (59) 3 q6 (gI2 (19) 6 (53) 6 q4 (gI2 (10) 9 (44) 9 q2 I)))))).bind fun I12 =>
    ((some (u2 (u2 (u2 I12 (0) 6 ((I12 (34) 6))) (0) 7 (((u2 I12 (0) 6 ((I12 (34) 6))) (34) 7))) (0) 8 (((u2 (u2 I12 (0) 6 ((I12 (34) 6))) (0) 7 (((u2 I12 (0) 6 ((I12 (34) 6))) (34) 7))) (34) 8)))).bind fun I14 =>
    (some (I14)))))))))
    else
    (if okI (x2) 4 = true then
    (if okI (x2) 4 = true then
    ((f_X0_become (zI2 (gArm ((x2).toNatClampNeg)) 2 (34 + gArm ((x2).toNatClampNeg)) I)).bind fun q18 =>
    (f_X6_become_b2 fu (x2 + (1 : Int32)) ((gI2 (gArm ((x2).toNatClampNeg)) 2 (34 + gArm ((x2).toNatClampNeg)) 2 q18 I))))
    else none)
    else none)
set_option maxHeartbeats 4000000 in
set_option maxRecDepth 100000 in
theorem c_X6_become_b2 {z : CTX} {J : JS} (O : OK z cX6_become RX6 3 (dbl 34 SWor) 68 (rm_ 2 39) none) : ∀ (fu : Nat) (x2 : Int32) (I : IS) (q : IS), f_X6_become_b2 fu x2 I = some q → G z 2 [(0, .ref (0)), (1, .ref (34)), (2, .int (x2))] [] I J (none, q, J) := by
  intro fu
  induction fu with
  | zero =>
    intro x2 I q hF
    cases hF
  | succ fu ih =>
    intro x2 I q hF
    rw [f_X6_become_b2] at hF
    refine g_iload_n O (pc := 2) dX6_become_2 2 rfl ?_
    refine g_aload_n O (pc := 3) dX6_become_3 0 rfl ?_
    refine g_getR O (pc := 4) isC_X6 dX6_become_4 fw_X6_11 (by decide) fd_dbl_34_SWor_0_0 ?_
    refine g_lenR O (pc := 7) dX6_become_7 (by decide) rr_dbl_34_SWor_1 (v := (4 : Int32)) rfl ?_
    refine g_icmp_ge O (pc := 8) 32 dX6_become_8 (by decide) (fun h1 => ?_) (fun h1 => ?_)
    · rw [if_pos h1] at hF
      refine g_aload_n O (pc := 32) dX6_become_32 0 rfl ?_
      refine g_getR O (pc := 33) isC_X6 dX6_become_33 fw_X6_21 (by decide) fd_dbl_34_SWor_0_1 ?_
      refine g_aload_n O (pc := 36) dX6_become_36 1 rfl ?_
      refine g_getR O (pc := 37) isC_X6 dX6_become_37 fw_X6_21 (by decide) fd_dbl_34_SWor_34_1 ?_
      obtain ⟨q2, e3, hF⟩ := bnd hF
      refine g_Vv O (pc := 40) (st := []) dX6_become_40 (mc_X4_become (zI2 (10) 9 (44) J) e3) cb_X4_become ml_X6_61 isC_X4 ob_dbl_9_STas (zm2I rfl (by decide) (sub_o2 clo_Tas sub_dbl_10 sub_dbl_44 (by decide)) _ _ _ _) (rmok (Nat.le_of_ble_eq_true rfl) (Nat.le_of_ble_eq_true rfl)) (Nat.le_of_ble_eq_true rfl) rfl ?_
      refine g_aload_n O (pc := 43) dX6_become_43 0 rfl ?_
      refine g_getR O (pc := 44) isC_X6 dX6_become_44 fw_X6_28 (by decide) fd_dbl_34_SWor_0_2 ?_
      refine g_aload_n O (pc := 47) dX6_become_47 1 rfl ?_
      refine g_getR O (pc := 48) isC_X6 dX6_become_48 fw_X6_28 (by decide) fd_dbl_34_SWor_34_2 ?_
      obtain ⟨q4, e5, hF⟩ := bnd hF
      refine g_Vv O (pc := 51) (st := []) dX6_become_51 (mc_X1_become (zI2 (19) 6 (53) J) e5) cb_X1_become ml_X6_64 isC_X1 ob_dbl_6_SEnt (zm2I rfl (by decide) (sub_o2 clo_Ent sub_dbl_19 sub_dbl_53 (by decide)) _ _ _ _) (rmok (Nat.le_of_ble_eq_true rfl) (Nat.le_of_ble_eq_true rfl)) (Nat.le_of_ble_eq_true rfl) rfl ?_
      refine g_aload_n O (pc := 54) dX6_become_54 0 rfl ?_
      refine g_getR O (pc := 55) isC_X6 dX6_become_55 fw_X6_37 (by decide) fd_dbl_34_SWor_0_3 ?_
      refine g_aload_n O (pc := 58) dX6_become_58 1 rfl ?_
      refine g_getR O (pc := 59) isC_X6 dX6_become_59 fw_X6_37 (by decide) fd_dbl_34_SWor_34_3 ?_
      obtain ⟨q6, e7, hF⟩ := bnd hF
      refine g_Vv O (pc := 62) (st := []) dX6_become_62 (mc_X2_become 5 (zI2 (25) 3 (59) J) e7) cb_X2_become ml_X6_67 isC_X2 (ob_dbl_3_SPrs_n _) (zm2I rfl (by decide) (sub_o2 (clo_Prs 5) sub_dbl_25 sub_dbl_59 (by decide)) _ _ _ _) (rmok (Nat.le_of_ble_eq_true rfl) (Nat.le_of_ble_eq_true rfl)) (Nat.le_of_ble_eq_true rfl) rfl ?_
      refine g_aload_n O (pc := 65) dX6_become_65 0 rfl ?_
      refine g_getR O (pc := 66) isC_X6 dX6_become_66 fw_X6_41 (by decide) fd_dbl_34_SWor_0_4 ?_
      refine g_aload_n O (pc := 69) dX6_become_69 1 rfl ?_
      refine g_getR O (pc := 70) isC_X6 dX6_become_70 fw_X6_41 (by decide) fd_dbl_34_SWor_34_4 ?_
      obtain ⟨q8, e9, hF⟩ := bnd hF
      refine g_Vv O (pc := 73) (st := []) dX6_become_73 (mc_X2_become 10 (zI2 (28) 3 (62) J) e9) cb_X2_become ml_X6_67 isC_X2 (ob_dbl_3_SPrs_n _) (zm2I rfl (by decide) (sub_o2 (clo_Prs 10) sub_dbl_28 sub_dbl_62 (by decide)) _ _ _ _) (rmok (Nat.le_of_ble_eq_true rfl) (Nat.le_of_ble_eq_true rfl)) (Nat.le_of_ble_eq_true rfl) rfl ?_
      refine g_aload_n O (pc := 76) dX6_become_76 0 rfl ?_
      refine g_getR O (pc := 77) isC_X6 dX6_become_77 fw_X6_44 (by decide) fd_dbl_34_SWor_0_5 ?_
      refine g_aload_n O (pc := 80) dX6_become_80 1 rfl ?_
      refine g_getR O (pc := 81) isC_X6 dX6_become_81 fw_X6_44 (by decide) fd_dbl_34_SWor_34_5 ?_
      obtain ⟨q10, e11, hF⟩ := bnd hF
      refine g_Vv O (pc := 84) (st := []) dX6_become_84 (mc_X2_become 8 (zI2 (31) 3 (65) J) e11) cb_X2_become ml_X6_67 isC_X2 (ob_dbl_3_SPrs_n _) (zm2I rfl (by decide) (sub_o2 (clo_Prs 8) sub_dbl_31 sub_dbl_65 (by decide)) _ _ _ _) (rmok (Nat.le_of_ble_eq_true rfl) (Nat.le_of_ble_eq_true rfl)) (Nat.le_of_ble_eq_true rfl) rfl ?_
      obtain ⟨I12, g13, hF⟩ := bnd hF
      refine g_nmI (Option.some.inj g13) ?_
      refine g_aload_n O (pc := 87) dX6_become_87 0 rfl ?_
      refine g_aload_n O (pc := 88) dX6_become_88 1 rfl ?_
      refine g_getI O (pc := 89) isC_X6 dX6_become_89 fw_X6_47 (by decide) fd_dbl_34_SWor_34_6 ?_
      refine g_putI O (pc := 92) isC_X6 isT_X6 dX6_become_92 fw_X6_47 (by decide) rfl rfl fd_dbl_34_SWor_0_6 ?_
      refine g_aload_n O (pc := 95) dX6_become_95 0 rfl ?_
      refine g_aload_n O (pc := 96) dX6_become_96 1 rfl ?_
      refine g_getI O (pc := 97) isC_X6 dX6_become_97 fw_X6_51 (by decide) fd_dbl_34_SWor_34_7 ?_
      refine g_putI O (pc := 100) isC_X6 isT_X6 dX6_become_100 fw_X6_51 (by decide) rfl rfl fd_dbl_34_SWor_0_7 ?_
      refine g_aload_n O (pc := 103) dX6_become_103 0 rfl ?_
      refine g_aload_n O (pc := 104) dX6_become_104 1 rfl ?_
      refine g_getI O (pc := 105) isC_X6 dX6_become_105 fw_X6_54 (by decide) fd_dbl_34_SWor_34_8 ?_
      refine g_putI O (pc := 108) isC_X6 isT_X6 dX6_become_108 fw_X6_54 (by decide) rfl rfl fd_dbl_34_SWor_0_8 ?_
      obtain ⟨I14, g15, hF⟩ := bnd hF
      refine g_nmI (Option.some.inj g15) ?_
      obtain rfl := Option.some.inj hF
      exact g_return O (pc := 111) dX6_become_111 rfl
    · rw [if_neg h1] at hF
      refine g_aload_n O (pc := 11) dX6_become_11 0 rfl ?_
      refine g_getR O (pc := 12) isC_X6 dX6_become_12 fw_X6_11 (by decide) fd_dbl_34_SWor_0_0 ?_
      refine g_iload_n O (pc := 15) dX6_become_15 2 rfl ?_
      obtain ⟨h16, hF⟩ := gd hF
      refine g_al O (pc := 16) dX6_become_16 rr_dbl_34_SWor_1 (Or.inl rfl) h16 ?_
      refine g_aload_n O (pc := 17) dX6_become_17 1 rfl ?_
      refine g_getR O (pc := 18) isC_X6 dX6_become_18 fw_X6_11 (by decide) fd_dbl_34_SWor_34_0 ?_
      refine g_iload_n O (pc := 21) dX6_become_21 2 rfl ?_
      obtain ⟨h17, hF⟩ := gd hF
      refine g_al O (pc := 22) dX6_become_22 rr_dbl_34_SWor_35 (Or.inl rfl) h17 ?_
      obtain ⟨q18, e19, hF⟩ := bnd hF
      refine g_Vv O (pc := 23) (st := []) dX6_become_23 (mc_X0_become (zI2 (gArm ((x2).toNatClampNeg)) 2 (34 + gArm ((x2).toNatClampNeg)) J) e19) cb_X0_become ml_X6_57 isC_X0 ob_dbl_2_SArm (zm2I rfl (dis_arm _ _) (sub_o2 clo_Arm (sub_0 (sub_tr (sub_dbl1 clo_Wor) (sub_Wor_arm ((x2).toNatClampNeg)))) (sub_tr (sub_dbl2 (S' := SWor) (n := 34)) (sub_Wor_arm ((x2).toNatClampNeg))) (dis_arm _ _)) _ _ _ _) (rmok (Nat.le_of_ble_eq_true rfl) (Nat.le_of_ble_eq_true rfl)) (Nat.le_of_ble_eq_true rfl) rfl ?_
      refine g_iinc O (pc := 26) (v := x2 + (1 : Int32)) (L' := [(2, .int (x2 + (1 : Int32))), (0, .ref (0)), (1, .ref (34))]) dX6_become_26 2 rfl rfl (by decide) rfl ?_
      refine g_goto O (pc := 29) 2 dX6_become_29 (by decide) ?_
      refine g_sub [1, 2, 0] (L' := [(0, .ref (0)), (1, .ref (34)), (2, .int (x2 + (1 : Int32)))]) rfl ?_
      exact ih _ _ _ hF

def f_X6_become (I : IS) : Option (IS) :=
  f_X6_become_b2 LF ((0 : Int32)) (I)
set_option maxHeartbeats 4000000 in
set_option maxRecDepth 100000 in
theorem c_X6_become_e {z : CTX} {J : JS} (O : OK z cX6_become RX6 3 (dbl 34 SWor) 68 (rm_ 2 39) none) : ∀ (I : IS) (q : IS), f_X6_become I = some q → G z 0 [(0, .ref (0)), (1, .ref (34))] [] I J (none, q, J) := by
  intro I q hF
  rw [f_X6_become] at hF
  refine g_iconst O (pc := 0) dX6_become_0 (ic_0) ?_
  refine g_istore_n O (pc := 1) (L' := [(2, .int ((0 : Int32))), (0, .ref (0)), (1, .ref (34))]) dX6_become_1 (by decide) rfl ?_
  refine g_sub [1, 2, 0] (L' := [(0, .ref (0)), (1, .ref (34)), (2, .int ((0 : Int32)))]) rfl ?_
  exact c_X6_become_b2 O _ _ _ _ hF

theorem mc_X6_become {I : IS} (J : JS) {q : IS} (hF : f_X6_become I = some q) : MC yX6_become cX6_become 3 none (rm_ 2 39) (dbl 34 SWor) 68 [.ref (0), .ref (34)] I J (none, q, J) :=
  mc_of pn_X6 (Nat.le_of_ble_eq_true rfl) (fun z O => c_X6_become_e O _ _ hF)

def f_X6_cancelFrom_b110 (k5 : Int32 → Int32 → Int32 → IS → Option (Int32 × IS)) (x2 : Int32) (x3 : Int32) (x4 : Int32) (I : IS) : Option (Int32 × IS) :=
  k5 (x2) (x3) (x4 + (1 : Int32)) (I)
set_option maxHeartbeats 4000000 in
set_option maxRecDepth 100000 in
theorem c_X6_cancelFrom_b110 {z : CTX} {J : JS} (O : OK z cX6_cancelFrom RX6 6 SWor 34 (rm_ 1 25) (some .int)) {k5 : Int32 → Int32 → Int32 → IS → Option (Int32 × IS)} (hk5 : ∀ (x2 : Int32) (x3 : Int32) (x4 : Int32) (I : IS) (q : Int32 × IS), k5 x2 x3 x4 I = some q → G z 5 [(0, .ref (0)), (2, .int (x2)), (3, .int (x3)), (4, .int (x4))] [] I J (some (.int q.1), q.2, J)) : ∀ (x2 : Int32) (x3 : Int32) (x4 : Int32) (I : IS) (q : Int32 × IS), f_X6_cancelFrom_b110 k5 x2 x3 x4 I = some q → G z 110 [(0, .ref (0)), (2, .int (x2)), (3, .int (x3)), (4, .int (x4))] [] I J (some (.int q.1), q.2, J) := by
  intro x2 x3 x4 I q hF
  rw [f_X6_cancelFrom_b110] at hF
  refine g_iinc O (pc := 110) (v := x4 + (1 : Int32)) (L' := [(4, .int (x4 + (1 : Int32))), (0, .ref (0)), (2, .int (x2)), (3, .int (x3))]) dX6_cancelFrom_110 3 rfl rfl (by decide) rfl ?_
  refine g_goto O (pc := 113) 5 dX6_cancelFrom_113 (by decide) ?_
  refine g_sub [1, 2, 3, 0] (L' := [(0, .ref (0)), (2, .int (x2)), (3, .int (x3)), (4, .int (x4 + (1 : Int32)))]) rfl ?_
  exact hk5 _ _ _ _ _ hF

def f_X6_cancelFrom_b53 (k5 : Int32 → Int32 → Int32 → IS → Option (Int32 × IS)) : Nat → Int32 → Int32 → Int32 → Int32 → IS → Option (Int32 × IS)
  | 0, _, _, _, _, _ => none
  | fu + 1, x2, x3, x4, x5, I =>
    if (I (0) 6) ≤ x5 then
    (if okI (x4) 32 = true then
    ((f_X1_add (((u2 I (14) (x4).toNatClampNeg ((5 : Int32))) (0) 8)) ((-5 : Int32)) ((5 : Int32)) (x4) (zI (19) (u2 I (14) (x4).toNatClampNeg ((5 : Int32))))).bind fun q3 =>
    (f_X6_cancelFrom_b110 k5 (x2) (x3 + (1 : Int32)) (x4) ((gI (19) 6 q3 (u2 I (14) (x4).toNatClampNeg ((5 : Int32)))))))
    else none)
    else
    (if okI (x5) 4 = true then
    ((f_X0_drop (x4) (zI (gArm ((x5).toNatClampNeg)) I)).bind fun q6 =>
    (f_X6_cancelFrom_b53 k5 fu (x2) (x3) (x4) (x5 + (1 : Int32)) ((gI (gArm ((x5).toNatClampNeg)) 2 q6 I))))
    else none)
set_option maxHeartbeats 4000000 in
set_option maxRecDepth 100000 in
theorem c_X6_cancelFrom_b53 {z : CTX} {J : JS} (O : OK z cX6_cancelFrom RX6 6 SWor 34 (rm_ 1 25) (some .int)) {k5 : Int32 → Int32 → Int32 → IS → Option (Int32 × IS)} (hk5 : ∀ (x2 : Int32) (x3 : Int32) (x4 : Int32) (I : IS) (q : Int32 × IS), k5 x2 x3 x4 I = some q → G z 5 [(0, .ref (0)), (2, .int (x2)), (3, .int (x3)), (4, .int (x4))] [] I J (some (.int q.1), q.2, J)) : ∀ (fu : Nat) (x2 : Int32) (x3 : Int32) (x4 : Int32) (x5 : Int32) (I : IS) (q : Int32 × IS), f_X6_cancelFrom_b53 k5 fu x2 x3 x4 x5 I = some q → G z 53 [(0, .ref (0)), (2, .int (x2)), (3, .int (x3)), (4, .int (x4)), (5, .int (x5))] [] I J (some (.int q.1), q.2, J) := by
  intro fu
  induction fu with
  | zero =>
    intro x2 x3 x4 x5 I q hF
    cases hF
  | succ fu ih =>
    intro x2 x3 x4 x5 I q hF
    rw [f_X6_cancelFrom_b53] at hF
    refine g_iload O (pc := 53) dX6_cancelFrom_53 4 rfl ?_
    refine g_aload_n O (pc := 55) dX6_cancelFrom_55 0 rfl ?_
    refine g_getI O (pc := 56) isC_X6 dX6_cancelFrom_56 fw_X6_47 (by decide) fd_SWor_0_6 ?_
    refine g_icmp_ge O (pc := 59) 80 dX6_cancelFrom_59 (by decide) (fun h1 => ?_) (fun h1 => ?_)
    · rw [if_pos h1] at hF
      refine g_aload_n O (pc := 80) dX6_cancelFrom_80 0 rfl ?_
      refine g_getR O (pc := 81) isC_X6 dX6_cancelFrom_81 fw_X6_21 (by decide) fd_SWor_0_1 ?_
      refine g_getR O (pc := 84) isC_X4 dX6_cancelFrom_84 fw_X6_77 (by decide) fd_SWor_10_3 ?_
      refine g_iload O (pc := 87) dX6_cancelFrom_87 3 rfl ?_
      refine g_iconst O (pc := 89) dX6_cancelFrom_89 (ic_5) ?_
      obtain ⟨h2, hF⟩ := gd hF
      refine g_is O (pc := 90) dX6_cancelFrom_90 ar_SWor_14 h2 ?_
      refine g_aload_n O (pc := 91) dX6_cancelFrom_91 0 rfl ?_
      refine g_getR O (pc := 92) isC_X6 dX6_cancelFrom_92 fw_X6_28 (by decide) fd_SWor_0_2 ?_
      refine g_aload_n O (pc := 95) dX6_cancelFrom_95 0 rfl ?_
      refine g_getI O (pc := 96) isC_X6 dX6_cancelFrom_96 fw_X6_54 (by decide) fd_SWor_0_8 ?_
      refine g_bipush O (pc := 99) dX6_cancelFrom_99 bp_m5 ?_
      refine g_iconst O (pc := 101) dX6_cancelFrom_101 (ic_5) ?_
      refine g_iload O (pc := 102) dX6_cancelFrom_102 3 rfl ?_
      obtain ⟨q3, e4, hF⟩ := bnd hF
      refine g_Vv O (pc := 104) (st := []) dX6_cancelFrom_104 (mc_X1_add (zI (19) J) e4) cb_X1_add ml_X6_139 isC_X1 ob_SEnt (zm1I sub_Wor_ent _ _ _ _) (rmok (Nat.le_of_ble_eq_true rfl) (Nat.le_of_ble_eq_true rfl)) (Nat.le_of_ble_eq_true rfl) rfl ?_
      refine g_iinc O (pc := 107) (v := x3 + (1 : Int32)) (L' := [(3, .int (x3 + (1 : Int32))), (0, .ref (0)), (2, .int (x2)), (4, .int (x4)), (5, .int (x5))]) dX6_cancelFrom_107 2 rfl rfl (by decide) rfl ?_
      refine g_sub [1, 2, 0, 3] (L' := [(0, .ref (0)), (2, .int (x2)), (3, .int (x3 + (1 : Int32))), (4, .int (x4))]) rfl ?_
      exact c_X6_cancelFrom_b110 O hk5 _ _ _ _ _ hF
    · rw [if_neg h1] at hF
      refine g_aload_n O (pc := 62) dX6_cancelFrom_62 0 rfl ?_
      refine g_getR O (pc := 63) isC_X6 dX6_cancelFrom_63 fw_X6_11 (by decide) fd_SWor_0_0 ?_
      refine g_iload O (pc := 66) dX6_cancelFrom_66 4 rfl ?_
      obtain ⟨h5, hF⟩ := gd hF
      refine g_al O (pc := 68) dX6_cancelFrom_68 rr_SWor_1 (Or.inl rfl) h5 ?_
      refine g_iload O (pc := 69) dX6_cancelFrom_69 3 rfl ?_
      obtain ⟨q6, e7, hF⟩ := bnd hF
      refine g_Vv O (pc := 71) (st := []) dX6_cancelFrom_71 (mc_X0_drop (zI (gArm ((x5).toNatClampNeg)) J) e7) cb_X0_drop ml_X6_169 isC_X0 ob_SArm (zm1I (sub_Wor_arm ((x5).toNatClampNeg)) _ _ _ _) (rmok (Nat.le_of_ble_eq_true rfl) (Nat.le_of_ble_eq_true rfl)) (Nat.le_of_ble_eq_true rfl) rfl ?_
      refine g_iinc O (pc := 74) (v := x5 + (1 : Int32)) (L' := [(5, .int (x5 + (1 : Int32))), (0, .ref (0)), (2, .int (x2)), (3, .int (x3)), (4, .int (x4))]) dX6_cancelFrom_74 4 rfl rfl (by decide) rfl ?_
      refine g_goto O (pc := 77) 53 dX6_cancelFrom_77 (by decide) ?_
      refine g_sub [1, 2, 3, 4, 0] (L' := [(0, .ref (0)), (2, .int (x2)), (3, .int (x3)), (4, .int (x4)), (5, .int (x5 + (1 : Int32)))]) rfl ?_
      exact ih _ _ _ _ _ _ hF

def f_X6_cancelFrom_b50 (k5 : Int32 → Int32 → Int32 → IS → Option (Int32 × IS)) (x2 : Int32) (x3 : Int32) (x4 : Int32) (I : IS) : Option (Int32 × IS) :=
  f_X6_cancelFrom_b53 k5 LF (x2) (x3) (x4) ((0 : Int32)) (I)
set_option maxHeartbeats 4000000 in
set_option maxRecDepth 100000 in
theorem c_X6_cancelFrom_b50 {z : CTX} {J : JS} (O : OK z cX6_cancelFrom RX6 6 SWor 34 (rm_ 1 25) (some .int)) {k5 : Int32 → Int32 → Int32 → IS → Option (Int32 × IS)} (hk5 : ∀ (x2 : Int32) (x3 : Int32) (x4 : Int32) (I : IS) (q : Int32 × IS), k5 x2 x3 x4 I = some q → G z 5 [(0, .ref (0)), (2, .int (x2)), (3, .int (x3)), (4, .int (x4))] [] I J (some (.int q.1), q.2, J)) : ∀ (x2 : Int32) (x3 : Int32) (x4 : Int32) (I : IS) (q : Int32 × IS), f_X6_cancelFrom_b50 k5 x2 x3 x4 I = some q → G z 50 [(0, .ref (0)), (2, .int (x2)), (3, .int (x3)), (4, .int (x4))] [] I J (some (.int q.1), q.2, J) := by
  intro x2 x3 x4 I q hF
  rw [f_X6_cancelFrom_b50] at hF
  refine g_iconst O (pc := 50) dX6_cancelFrom_50 (ic_0) ?_
  refine g_istore O (pc := 51) (L' := [(5, .int ((0 : Int32))), (0, .ref (0)), (2, .int (x2)), (3, .int (x3)), (4, .int (x4))]) dX6_cancelFrom_51 (by decide) rfl ?_
  refine g_sub [1, 2, 3, 4, 0] (L' := [(0, .ref (0)), (2, .int (x2)), (3, .int (x3)), (4, .int (x4)), (5, .int ((0 : Int32)))]) rfl ?_
  exact c_X6_cancelFrom_b53 O hk5 _ _ _ _ _ _ _ hF

def f_X6_cancelFrom_b5 : Nat → Int32 → Int32 → Int32 → IS → Option (Int32 × IS)
  | 0, _, _, _, _ => none
  | fu + 1, x2, x3, x4, I =>
    if (I (10) 8) ≤ x4 then
    (some (x3, I))
    else
    (if okI (x4) 32 = true then
    (if (3 : Int32) ≤ (I (14) (x4).toNatClampNeg) then
    (f_X6_cancelFrom_b110 (f_X6_cancelFrom_b5 fu) (x2) (x3) (x4) (I))
    else
    (if x4 = x2 then
    (f_X6_cancelFrom_b50 (f_X6_cancelFrom_b5 fu) (x2) (x3) (x4) (I))
    else
    ((f_X4_isBelow (x4) (x2) (zI (10) I)).bind fun q5 =>
    (if q5 = 0 then
    (f_X6_cancelFrom_b110 (f_X6_cancelFrom_b5 fu) (x2) (x3) (x4) (I))
    else
    (f_X6_cancelFrom_b50 (f_X6_cancelFrom_b5 fu) (x2) (x3) (x4) (I))))))
    else none)
set_option maxHeartbeats 4000000 in
set_option maxRecDepth 100000 in
theorem c_X6_cancelFrom_b5 {z : CTX} {J : JS} (O : OK z cX6_cancelFrom RX6 6 SWor 34 (rm_ 1 25) (some .int)) : ∀ (fu : Nat) (x2 : Int32) (x3 : Int32) (x4 : Int32) (I : IS) (q : Int32 × IS), f_X6_cancelFrom_b5 fu x2 x3 x4 I = some q → G z 5 [(0, .ref (0)), (2, .int (x2)), (3, .int (x3)), (4, .int (x4))] [] I J (some (.int q.1), q.2, J) := by
  intro fu
  induction fu with
  | zero =>
    intro x2 x3 x4 I q hF
    cases hF
  | succ fu ih =>
    intro x2 x3 x4 I q hF
    rw [f_X6_cancelFrom_b5] at hF
    refine g_iload O (pc := 5) dX6_cancelFrom_5 3 rfl ?_
    refine g_aload_n O (pc := 7) dX6_cancelFrom_7 0 rfl ?_
    refine g_getR O (pc := 8) isC_X6 dX6_cancelFrom_8 fw_X6_21 (by decide) fd_SWor_0_1 ?_
    refine g_getI O (pc := 11) isC_X4 dX6_cancelFrom_11 fw_X6_93 (by decide) fd_SWor_10_8 ?_
    refine g_icmp_ge O (pc := 14) 116 dX6_cancelFrom_14 (by decide) (fun h1 => ?_) (fun h1 => ?_)
    · rw [if_pos h1] at hF
      refine g_iload_n O (pc := 116) dX6_cancelFrom_116 2 rfl ?_
      obtain rfl := Option.some.inj hF
      exact g_ireturn O (pc := 117) dX6_cancelFrom_117 rfl
    · rw [if_neg h1] at hF
      refine g_aload_n O (pc := 17) dX6_cancelFrom_17 0 rfl ?_
      refine g_getR O (pc := 18) isC_X6 dX6_cancelFrom_18 fw_X6_21 (by decide) fd_SWor_0_1 ?_
      refine g_getR O (pc := 21) isC_X4 dX6_cancelFrom_21 fw_X6_77 (by decide) fd_SWor_10_3 ?_
      refine g_iload O (pc := 24) dX6_cancelFrom_24 3 rfl ?_
      obtain ⟨h2, hF⟩ := gd hF
      refine g_il O (pc := 26) dX6_cancelFrom_26 ar_SWor_14 h2 ?_
      refine g_iconst O (pc := 27) dX6_cancelFrom_27 (ic_3) ?_
      refine g_icmp_ge O (pc := 28) 110 dX6_cancelFrom_28 (by decide) (fun h3 => ?_) (fun h3 => ?_)
      · rw [if_pos h3] at hF
        refine g_sub [0, 1, 2, 3] (L' := [(0, .ref (0)), (2, .int (x2)), (3, .int (x3)), (4, .int (x4))]) rfl ?_
        exact c_X6_cancelFrom_b110 O ih _ _ _ _ _ hF
      · rw [if_neg h3] at hF
        refine g_iload O (pc := 31) dX6_cancelFrom_31 3 rfl ?_
        refine g_iload_n O (pc := 33) dX6_cancelFrom_33 1 rfl ?_
        refine g_icmp_eq O (pc := 34) 50 dX6_cancelFrom_34 (by decide) (fun h4 => ?_) (fun h4 => ?_)
        · rw [if_pos h4] at hF
          refine g_sub [0, 1, 2, 3] (L' := [(0, .ref (0)), (2, .int (x2)), (3, .int (x3)), (4, .int (x4))]) rfl ?_
          exact c_X6_cancelFrom_b50 O ih _ _ _ _ _ hF
        · rw [if_neg h4] at hF
          refine g_aload_n O (pc := 37) dX6_cancelFrom_37 0 rfl ?_
          refine g_getR O (pc := 38) isC_X6 dX6_cancelFrom_38 fw_X6_21 (by decide) fd_SWor_0_1 ?_
          refine g_iload O (pc := 41) dX6_cancelFrom_41 3 rfl ?_
          refine g_iload_n O (pc := 43) dX6_cancelFrom_43 1 rfl ?_
          obtain ⟨q5, e6, hF⟩ := bnd hF
          refine g_Vi O (pc := 44) (st := []) dX6_cancelFrom_44 (mc_X4_isBelow (zI (10) J) e6) cb_X4_isBelow ml_X6_166 isC_X4 ob_STas (zm1R sub_Wor_tas _ _ _) (rmok (Nat.le_of_ble_eq_true rfl) (Nat.le_of_ble_eq_true rfl)) (Nat.le_of_ble_eq_true rfl) rfl ?_
          refine g_if_eq O (pc := 47) 110 dX6_cancelFrom_47 (by decide) (fun h7 => ?_) (fun h7 => ?_)
          · rw [if_pos h7] at hF
            refine g_sub [0, 1, 2, 3] (L' := [(0, .ref (0)), (2, .int (x2)), (3, .int (x3)), (4, .int (x4))]) rfl ?_
            exact c_X6_cancelFrom_b110 O ih _ _ _ _ _ hF
          · rw [if_neg h7] at hF
            refine g_sub [0, 1, 2, 3] (L' := [(0, .ref (0)), (2, .int (x2)), (3, .int (x3)), (4, .int (x4))]) rfl ?_
            exact c_X6_cancelFrom_b50 O ih _ _ _ _ _ hF

def f_X6_cancelFrom (x1 : Int32) (x2 : Int32) (I : IS) : Option (Int32 × IS) :=
  f_X6_cancelFrom_b5 LF (x2) ((0 : Int32)) (x1) (I)
set_option maxHeartbeats 4000000 in
set_option maxRecDepth 100000 in
theorem c_X6_cancelFrom_e {z : CTX} {J : JS} (O : OK z cX6_cancelFrom RX6 6 SWor 34 (rm_ 1 25) (some .int)) : ∀ (x1 : Int32) (x2 : Int32) (I : IS) (q : Int32 × IS), f_X6_cancelFrom x1 x2 I = some q → G z 0 [(0, .ref (0)), (1, .int (x1)), (2, .int (x2))] [] I J (some (.int q.1), q.2, J) := by
  intro x1 x2 I q hF
  rw [f_X6_cancelFrom] at hF
  refine g_iconst O (pc := 0) dX6_cancelFrom_0 (ic_0) ?_
  refine g_istore_n O (pc := 1) (L' := [(3, .int ((0 : Int32))), (0, .ref (0)), (1, .int (x1)), (2, .int (x2))]) dX6_cancelFrom_1 (by decide) rfl ?_
  refine g_iload_n O (pc := 2) dX6_cancelFrom_2 2 rfl ?_
  refine g_istore O (pc := 3) (L' := [(4, .int (x1)), (3, .int ((0 : Int32))), (0, .ref (0)), (1, .int (x1)), (2, .int (x2))]) dX6_cancelFrom_3 (by decide) rfl ?_
  refine g_sub [2, 4, 1, 0] (L' := [(0, .ref (0)), (2, .int (x2)), (3, .int ((0 : Int32))), (4, .int (x1))]) rfl ?_
  exact c_X6_cancelFrom_b5 O _ _ _ _ _ _ hF

theorem mc_X6_cancelFrom {x1 : Int32} {x2 : Int32} {I : IS} (J : JS) {q : Int32 × IS} (hF : f_X6_cancelFrom x1 x2 I = some q) : MC yX6_cancelFrom cX6_cancelFrom 6 (some .int) (rm_ 1 25) SWor 34 [.ref (0), .int (x1), .int (x2)] I J (some (.int q.1), q.2, J) :=
  mc_of pn_X6 (Nat.le_of_ble_eq_true rfl) (fun z O => c_X6_cancelFrom_e O _ _ _ _ hF)

def f_X6_tellUpward_b113 (k15 : Int32 → Int32 → Int32 → IS → Option (IS)) (x3 : Int32) (x4 : Int32) (I : IS) : Option (IS) :=
  if okI (x3) 32 = true then
  ((f_X1_add ((I (0) 8)) ((-5 : Int32)) ((I (14) (x3).toNatClampNeg)) (x3) (zI (19) I)).bind fun q2 =>
  (if okI (x3) 32 = true then
  (k15 (x3) (((gI (19) 6 q2 I) (15) (x3).toNatClampNeg)) (x4 + (1 : Int32)) ((gI (19) 6 q2 I)))
  else none))
  else none
set_option maxHeartbeats 4000000 in
set_option maxRecDepth 100000 in
theorem c_X6_tellUpward_b113 {z : CTX} {J : JS} (O : OK z cX6_tellUpward RX6 5 SWor 34 (rm_ 2 50) none) {k15 : Int32 → Int32 → Int32 → IS → Option (IS)} (hk15 : ∀ (x2 : Int32) (x3 : Int32) (x4 : Int32) (I : IS) (q : IS), k15 x2 x3 x4 I = some q → G z 15 [(0, .ref (0)), (2, .int (x2)), (3, .int (x3)), (4, .int (x4))] [] I J (none, q, J)) : ∀ (x3 : Int32) (x4 : Int32) (I : IS) (q : IS), f_X6_tellUpward_b113 k15 x3 x4 I = some q → G z 113 [(0, .ref (0)), (3, .int (x3)), (4, .int (x4))] [] I J (none, q, J) := by
  intro x3 x4 I q hF
  rw [f_X6_tellUpward_b113] at hF
  refine g_aload_n O (pc := 113) dX6_tellUpward_113 0 rfl ?_
  refine g_getR O (pc := 114) isC_X6 dX6_tellUpward_114 fw_X6_28 (by decide) fd_SWor_0_2 ?_
  refine g_aload_n O (pc := 117) dX6_tellUpward_117 0 rfl ?_
  refine g_getI O (pc := 118) isC_X6 dX6_tellUpward_118 fw_X6_54 (by decide) fd_SWor_0_8 ?_
  refine g_bipush O (pc := 121) dX6_tellUpward_121 bp_m5 ?_
  refine g_aload_n O (pc := 123) dX6_tellUpward_123 0 rfl ?_
  refine g_getR O (pc := 124) isC_X6 dX6_tellUpward_124 fw_X6_21 (by decide) fd_SWor_0_1 ?_
  refine g_getR O (pc := 127) isC_X4 dX6_tellUpward_127 fw_X6_77 (by decide) fd_SWor_10_3 ?_
  refine g_iload_n O (pc := 130) dX6_tellUpward_130 1 rfl ?_
  obtain ⟨h1, hF⟩ := gd hF
  refine g_il O (pc := 131) dX6_tellUpward_131 ar_SWor_14 h1 ?_
  refine g_iload_n O (pc := 132) dX6_tellUpward_132 1 rfl ?_
  obtain ⟨q2, e3, hF⟩ := bnd hF
  refine g_Vv O (pc := 133) (st := []) dX6_tellUpward_133 (mc_X1_add (zI (19) J) e3) cb_X1_add ml_X6_139 isC_X1 ob_SEnt (zm1I sub_Wor_ent _ _ _ _) (rmok (Nat.le_of_ble_eq_true rfl) (Nat.le_of_ble_eq_true rfl)) (Nat.le_of_ble_eq_true rfl) rfl ?_
  refine g_iload_n O (pc := 136) dX6_tellUpward_136 1 rfl ?_
  refine g_istore_n O (pc := 137) (L' := [(2, .int (x3)), (0, .ref (0)), (3, .int (x3)), (4, .int (x4))]) dX6_tellUpward_137 (by decide) rfl ?_
  refine g_aload_n O (pc := 138) dX6_tellUpward_138 1 rfl ?_
  refine g_getR O (pc := 139) isC_X6 dX6_tellUpward_139 fw_X6_21 (by decide) fd_SWor_0_1 ?_
  refine g_getR O (pc := 142) isC_X4 dX6_tellUpward_142 fw_X6_153 (by decide) fd_SWor_10_4 ?_
  refine g_iload_n O (pc := 145) dX6_tellUpward_145 2 rfl ?_
  obtain ⟨h4, hF⟩ := gd hF
  refine g_il O (pc := 146) dX6_tellUpward_146 ar_SWor_15 h4 ?_
  refine g_istore_n O (pc := 147) (L' := [(3, .int (((gI (19) 6 q2 I) (15) (x3).toNatClampNeg))), (2, .int (x3)), (0, .ref (0)), (4, .int (x4))]) dX6_tellUpward_147 (by decide) rfl ?_
  refine g_iinc O (pc := 148) (v := x4 + (1 : Int32)) (L' := [(4, .int (x4 + (1 : Int32))), (3, .int (((gI (19) 6 q2 I) (15) (x3).toNatClampNeg))), (2, .int (x3)), (0, .ref (0))]) dX6_tellUpward_148 3 rfl rfl (by decide) rfl ?_
  refine g_goto O (pc := 151) 15 dX6_tellUpward_151 (by decide) ?_
  refine g_sub [3, 2, 1, 0] (L' := [(0, .ref (0)), (2, .int (x3)), (3, .int (((gI (19) 6 q2 I) (15) (x3).toNatClampNeg))), (4, .int (x4 + (1 : Int32)))]) rfl ?_
  exact hk15 _ _ _ _ _ hF

def f_X6_tellUpward_b90 (k15 : Int32 → Int32 → Int32 → IS → Option (IS)) (x3 : Int32) (x4 : Int32) (I : IS) : Option (IS) :=
  (f_X4_allInAreEnded (x3) (zI (10) I)).bind fun q1 =>
  (if q1 = 0 then
  (some (I))
  else
  ((f_X4_finish (x3) (zI (10) I)).bind fun q4 =>
  (f_X6_tellUpward_b113 k15 (x3) (x4) ((gI (10) 9 q4 I)))))
set_option maxHeartbeats 4000000 in
set_option maxRecDepth 100000 in
theorem c_X6_tellUpward_b90 {z : CTX} {J : JS} (O : OK z cX6_tellUpward RX6 5 SWor 34 (rm_ 2 50) none) {k15 : Int32 → Int32 → Int32 → IS → Option (IS)} (hk15 : ∀ (x2 : Int32) (x3 : Int32) (x4 : Int32) (I : IS) (q : IS), k15 x2 x3 x4 I = some q → G z 15 [(0, .ref (0)), (2, .int (x2)), (3, .int (x3)), (4, .int (x4))] [] I J (none, q, J)) : ∀ (x3 : Int32) (x4 : Int32) (I : IS) (q : IS), f_X6_tellUpward_b90 k15 x3 x4 I = some q → G z 90 [(0, .ref (0)), (3, .int (x3)), (4, .int (x4))] [] I J (none, q, J) := by
  intro x3 x4 I q hF
  rw [f_X6_tellUpward_b90] at hF
  refine g_aload_n O (pc := 90) dX6_tellUpward_90 0 rfl ?_
  refine g_getR O (pc := 91) isC_X6 dX6_tellUpward_91 fw_X6_21 (by decide) fd_SWor_0_1 ?_
  refine g_iload_n O (pc := 94) dX6_tellUpward_94 1 rfl ?_
  obtain ⟨q1, e2, hF⟩ := bnd hF
  refine g_Vi O (pc := 95) (st := []) dX6_tellUpward_95 (mc_X4_allInAreEnded (zI (10) J) e2) cb_X4_allInAreEnded ml_X6_147 isC_X4 ob_STas (zm1R sub_Wor_tas _ _ _) (rmok (Nat.le_of_ble_eq_true rfl) (Nat.le_of_ble_eq_true rfl)) (Nat.le_of_ble_eq_true rfl) rfl ?_
  refine g_if_eq O (pc := 98) 112 dX6_tellUpward_98 (by decide) (fun h3 => ?_) (fun h3 => ?_)
  · rw [if_pos h3] at hF
    obtain rfl := Option.some.inj hF
    exact g_return O (pc := 112) dX6_tellUpward_112 rfl
  · rw [if_neg h3] at hF
    refine g_aload_n O (pc := 101) dX6_tellUpward_101 0 rfl ?_
    refine g_getR O (pc := 102) isC_X6 dX6_tellUpward_102 fw_X6_21 (by decide) fd_SWor_0_1 ?_
    refine g_iload_n O (pc := 105) dX6_tellUpward_105 1 rfl ?_
    obtain ⟨q4, e5, hF⟩ := bnd hF
    refine g_Vv O (pc := 106) (st := []) dX6_tellUpward_106 (mc_X4_finish (zI (10) J) e5) cb_X4_finish ml_X6_150 isC_X4 ob_STas (zm1I sub_Wor_tas _ _ _ _) (rmok (Nat.le_of_ble_eq_true rfl) (Nat.le_of_ble_eq_true rfl)) (Nat.le_of_ble_eq_true rfl) rfl ?_
    refine g_goto O (pc := 109) 113 dX6_tellUpward_109 (by decide) ?_
    refine g_sub [0, 1, 2] (L' := [(0, .ref (0)), (3, .int (x3)), (4, .int (x4))]) rfl ?_
    exact c_X6_tellUpward_b113 O hk15 _ _ _ _ hF

def f_X6_tellUpward_b15 : Nat → Int32 → Int32 → Int32 → IS → Option (IS)
  | 0, _, _, _, _ => none
  | fu + 1, x2, x3, x4, I =>
    if (4 : Int32) ≤ x4 then
    (some (I))
    else
    ((f_X4_isJoining (x3) (zI (10) I)).bind fun q2 =>
    (if q2 = 0 then
    (some (I))
    else
    (if okI (x2) 32 = true then
    (if (I (14) (x2).toNatClampNeg) = (4 : Int32) then
    (if okI (x3) 32 = true then
    (if (I (16) (x3).toNatClampNeg) = (2 : Int32) then
    (f_X6_tellUpward_b90 (f_X6_tellUpward_b15 fu) (x3) (x4) (I))
    else
    ((f_X6_cancelFrom ((x3 + (1 : Int32))) (x3) I).bind fun q9 =>
    (if okI (x3) 32 = true then
    (if okI (x3) 32 = true then
    (f_X6_tellUpward_b113 (f_X6_tellUpward_b15 fu) (x3) (x4) ((u2 (u2 q9.2 (14) (x3).toNatClampNeg ((4 : Int32))) (17) (x3).toNatClampNeg (x2))))
    else none)
    else none)))
    else none)
    else
    (f_X6_tellUpward_b90 (f_X6_tellUpward_b15 fu) (x3) (x4) (I)))
    else none)))
set_option maxHeartbeats 4000000 in
set_option maxRecDepth 100000 in
theorem c_X6_tellUpward_b15 {z : CTX} {J : JS} (O : OK z cX6_tellUpward RX6 5 SWor 34 (rm_ 2 50) none) : ∀ (fu : Nat) (x2 : Int32) (x3 : Int32) (x4 : Int32) (I : IS) (q : IS), f_X6_tellUpward_b15 fu x2 x3 x4 I = some q → G z 15 [(0, .ref (0)), (2, .int (x2)), (3, .int (x3)), (4, .int (x4))] [] I J (none, q, J) := by
  intro fu
  induction fu with
  | zero =>
    intro x2 x3 x4 I q hF
    cases hF
  | succ fu ih =>
    intro x2 x3 x4 I q hF
    rw [f_X6_tellUpward_b15] at hF
    refine g_iload O (pc := 15) dX6_tellUpward_15 3 rfl ?_
    refine g_iconst O (pc := 17) dX6_tellUpward_17 (ic_4) ?_
    refine g_icmp_ge O (pc := 18) 154 dX6_tellUpward_18 (by decide) (fun h1 => ?_) (fun h1 => ?_)
    · rw [if_pos h1] at hF
      obtain rfl := Option.some.inj hF
      exact g_return O (pc := 154) dX6_tellUpward_154 rfl
    · rw [if_neg h1] at hF
      refine g_aload_n O (pc := 21) dX6_tellUpward_21 0 rfl ?_
      refine g_getR O (pc := 22) isC_X6 dX6_tellUpward_22 fw_X6_21 (by decide) fd_SWor_0_1 ?_
      refine g_iload_n O (pc := 25) dX6_tellUpward_25 2 rfl ?_
      obtain ⟨q2, e3, hF⟩ := bnd hF
      refine g_Vi O (pc := 26) (st := []) dX6_tellUpward_26 (mc_X4_isJoining (zI (10) J) e3) cb_X4_isJoining ml_X6_156 isC_X4 ob_STas (zm1R sub_Wor_tas _ _ _) (rmok (Nat.le_of_ble_eq_true rfl) (Nat.le_of_ble_eq_true rfl)) (Nat.le_of_ble_eq_true rfl) rfl ?_
      refine g_if_eq O (pc := 29) 154 dX6_tellUpward_29 (by decide) (fun h4 => ?_) (fun h4 => ?_)
      · rw [if_pos h4] at hF
        obtain rfl := Option.some.inj hF
        exact g_return O (pc := 154) dX6_tellUpward_154 rfl
      · rw [if_neg h4] at hF
        refine g_aload_n O (pc := 32) dX6_tellUpward_32 0 rfl ?_
        refine g_getR O (pc := 33) isC_X6 dX6_tellUpward_33 fw_X6_21 (by decide) fd_SWor_0_1 ?_
        refine g_getR O (pc := 36) isC_X4 dX6_tellUpward_36 fw_X6_77 (by decide) fd_SWor_10_3 ?_
        refine g_iload_n O (pc := 39) dX6_tellUpward_39 1 rfl ?_
        obtain ⟨h5, hF⟩ := gd hF
        refine g_il O (pc := 40) dX6_tellUpward_40 ar_SWor_14 h5 ?_
        refine g_iconst O (pc := 41) dX6_tellUpward_41 (ic_4) ?_
        refine g_icmp_ne O (pc := 42) 90 dX6_tellUpward_42 (by decide) (fun h6 => ?_) (fun h6 => ?_)
        · rw [if_neg h6] at hF
          refine g_sub [0, 2, 3] (L' := [(0, .ref (0)), (3, .int (x3)), (4, .int (x4))]) rfl ?_
          exact c_X6_tellUpward_b90 O ih _ _ _ _ hF
        · rw [if_pos h6] at hF
          refine g_aload_n O (pc := 45) dX6_tellUpward_45 0 rfl ?_
          refine g_getR O (pc := 46) isC_X6 dX6_tellUpward_46 fw_X6_21 (by decide) fd_SWor_0_1 ?_
          refine g_getR O (pc := 49) isC_X4 dX6_tellUpward_49 fw_X6_144 (by decide) fd_SWor_10_5 ?_
          refine g_iload_n O (pc := 52) dX6_tellUpward_52 2 rfl ?_
          obtain ⟨h7, hF⟩ := gd hF
          refine g_il O (pc := 53) dX6_tellUpward_53 ar_SWor_16 h7 ?_
          refine g_iconst O (pc := 54) dX6_tellUpward_54 (ic_2) ?_
          refine g_icmp_eq O (pc := 55) 90 dX6_tellUpward_55 (by decide) (fun h8 => ?_) (fun h8 => ?_)
          · rw [if_pos h8] at hF
            refine g_sub [0, 2, 3] (L' := [(0, .ref (0)), (3, .int (x3)), (4, .int (x4))]) rfl ?_
            exact c_X6_tellUpward_b90 O ih _ _ _ _ hF
          · rw [if_neg h8] at hF
            refine g_aload_n O (pc := 58) dX6_tellUpward_58 0 rfl ?_
            refine g_iload_n O (pc := 59) dX6_tellUpward_59 2 rfl ?_
            refine g_iconst O (pc := 60) dX6_tellUpward_60 (ic_1) ?_
            refine g_iadd O (pc := 61) dX6_tellUpward_61 ?_
            refine g_iload_n O (pc := 62) dX6_tellUpward_62 2 rfl ?_
            obtain ⟨q9, e10, hF⟩ := bnd hF
            refine g_Vi O (pc := 63) (st := []) dX6_tellUpward_63 (mc_X6_cancelFrom J e10) cb_X6_cancelFrom ml_X6_159 isC_X6 ob_SWor (zm0 _ _ _ _ _ _ _) (rmok (Nat.le_of_ble_eq_true rfl) (Nat.le_of_ble_eq_true rfl)) (Nat.le_of_ble_eq_true rfl) rfl ?_
            refine g_pop O (pc := 66) dX6_tellUpward_66 rfl ?_
            refine g_aload_n O (pc := 67) dX6_tellUpward_67 0 rfl ?_
            refine g_getR O (pc := 68) isC_X6 dX6_tellUpward_68 fw_X6_21 (by decide) fd_SWor_0_1 ?_
            refine g_getR O (pc := 71) isC_X4 dX6_tellUpward_71 fw_X6_77 (by decide) fd_SWor_10_3 ?_
            refine g_iload_n O (pc := 74) dX6_tellUpward_74 2 rfl ?_
            refine g_iconst O (pc := 75) dX6_tellUpward_75 (ic_4) ?_
            obtain ⟨h11, hF⟩ := gd hF
            refine g_is O (pc := 76) dX6_tellUpward_76 ar_SWor_14 h11 ?_
            refine g_aload_n O (pc := 77) dX6_tellUpward_77 0 rfl ?_
            refine g_getR O (pc := 78) isC_X6 dX6_tellUpward_78 fw_X6_21 (by decide) fd_SWor_0_1 ?_
            refine g_getR O (pc := 81) isC_X4 dX6_tellUpward_81 fw_X6_163 (by decide) fd_SWor_10_6 ?_
            refine g_iload_n O (pc := 84) dX6_tellUpward_84 2 rfl ?_
            refine g_iload_n O (pc := 85) dX6_tellUpward_85 1 rfl ?_
            obtain ⟨h12, hF⟩ := gd hF
            refine g_is O (pc := 86) dX6_tellUpward_86 ar_SWor_17 h12 ?_
            refine g_goto O (pc := 87) 113 dX6_tellUpward_87 (by decide) ?_
            refine g_sub [0, 2, 3] (L' := [(0, .ref (0)), (3, .int (x3)), (4, .int (x4))]) rfl ?_
            exact c_X6_tellUpward_b113 O ih _ _ _ _ hF

def f_X6_tellUpward (x1 : Int32) (I : IS) : Option (IS) :=
  if okI (x1) 32 = true then
  (f_X6_tellUpward_b15 LF (x1) ((I (15) (x1).toNatClampNeg)) ((0 : Int32)) (I))
  else none
set_option maxHeartbeats 4000000 in
set_option maxRecDepth 100000 in
theorem c_X6_tellUpward_e {z : CTX} {J : JS} (O : OK z cX6_tellUpward RX6 5 SWor 34 (rm_ 2 50) none) : ∀ (x1 : Int32) (I : IS) (q : IS), f_X6_tellUpward x1 I = some q → G z 0 [(0, .ref (0)), (1, .int (x1))] [] I J (none, q, J) := by
  intro x1 I q hF
  rw [f_X6_tellUpward] at hF
  refine g_iload_n O (pc := 0) dX6_tellUpward_0 1 rfl ?_
  refine g_istore_n O (pc := 1) (L' := [(2, .int (x1)), (0, .ref (0)), (1, .int (x1))]) dX6_tellUpward_1 (by decide) rfl ?_
  refine g_aload_n O (pc := 2) dX6_tellUpward_2 1 rfl ?_
  refine g_getR O (pc := 3) isC_X6 dX6_tellUpward_3 fw_X6_21 (by decide) fd_SWor_0_1 ?_
  refine g_getR O (pc := 6) isC_X4 dX6_tellUpward_6 fw_X6_153 (by decide) fd_SWor_10_4 ?_
  refine g_iload_n O (pc := 9) dX6_tellUpward_9 2 rfl ?_
  obtain ⟨h1, hF⟩ := gd hF
  refine g_il O (pc := 10) dX6_tellUpward_10 ar_SWor_15 h1 ?_
  refine g_istore_n O (pc := 11) (L' := [(3, .int ((I (15) (x1).toNatClampNeg))), (2, .int (x1)), (0, .ref (0)), (1, .int (x1))]) dX6_tellUpward_11 (by decide) rfl ?_
  refine g_iconst O (pc := 12) dX6_tellUpward_12 (ic_0) ?_
  refine g_istore O (pc := 13) (L' := [(4, .int ((0 : Int32))), (3, .int ((I (15) (x1).toNatClampNeg))), (2, .int (x1)), (0, .ref (0)), (1, .int (x1))]) dX6_tellUpward_13 (by decide) rfl ?_
  refine g_sub [3, 2, 1, 0] (L' := [(0, .ref (0)), (2, .int (x1)), (3, .int ((I (15) (x1).toNatClampNeg))), (4, .int ((0 : Int32)))]) rfl ?_
  exact c_X6_tellUpward_b15 O _ _ _ _ _ _ hF

theorem mc_X6_tellUpward {x1 : Int32} {I : IS} (J : JS) {q : IS} (hF : f_X6_tellUpward x1 I = some q) : MC yX6_tellUpward cX6_tellUpward 5 none (rm_ 2 50) SWor 34 [.ref (0), .int (x1)] I J (none, q, J) :=
  mc_of pn_X6 (Nat.le_of_ble_eq_true rfl) (fun z O => c_X6_tellUpward_e O _ _ _ hF)

def f_X6_cancelByHand (x1 : Int32) (I : IS) : Option (Int32 × IS) :=
  (f_X6_cancelFrom (x1) (x1) I).bind fun q1 =>
  ((f_X6_tellUpward (x1) q1.2).bind fun q3 =>
  (some (q1.1, q3)))
set_option maxHeartbeats 4000000 in
set_option maxRecDepth 100000 in
theorem c_X6_cancelByHand_e {z : CTX} {J : JS} (O : OK z cX6_cancelByHand RX6 3 SWor 34 (rm_ 3 74) (some .int)) : ∀ (x1 : Int32) (I : IS) (q : Int32 × IS), f_X6_cancelByHand x1 I = some q → G z 0 [(0, .ref (0)), (1, .int (x1))] [] I J (some (.int q.1), q.2, J) := by
  intro x1 I q hF
  rw [f_X6_cancelByHand] at hF
  refine g_aload_n O (pc := 0) dX6_cancelByHand_0 0 rfl ?_
  refine g_iload_n O (pc := 1) dX6_cancelByHand_1 1 rfl ?_
  refine g_iload_n O (pc := 2) dX6_cancelByHand_2 1 rfl ?_
  obtain ⟨q1, e2, hF⟩ := bnd hF
  refine g_Vi O (pc := 3) (st := []) dX6_cancelByHand_3 (mc_X6_cancelFrom J e2) cb_X6_cancelFrom ml_X6_159 isC_X6 ob_SWor (zm0 _ _ _ _ _ _ _) (rmok (Nat.le_of_ble_eq_true rfl) (Nat.le_of_ble_eq_true rfl)) (Nat.le_of_ble_eq_true rfl) rfl ?_
  refine g_istore_n O (pc := 6) (L' := [(2, .int (q1.1)), (0, .ref (0)), (1, .int (x1))]) dX6_cancelByHand_6 (by decide) rfl ?_
  refine g_aload_n O (pc := 7) dX6_cancelByHand_7 1 rfl ?_
  refine g_iload_n O (pc := 8) dX6_cancelByHand_8 2 rfl ?_
  obtain ⟨q3, e4, hF⟩ := bnd hF
  refine g_Vv O (pc := 9) (st := []) dX6_cancelByHand_9 (mc_X6_tellUpward J e4) cb_X6_tellUpward ml_X6_120 isC_X6 ob_SWor (zm0 _ _ _ _ _ _ _) (rmok (Nat.le_of_ble_eq_true rfl) (Nat.le_of_ble_eq_true rfl)) (Nat.le_of_ble_eq_true rfl) rfl ?_
  refine g_iload_n O (pc := 12) dX6_cancelByHand_12 0 rfl ?_
  obtain rfl := Option.some.inj hF
  exact g_ireturn O (pc := 13) dX6_cancelByHand_13 rfl

theorem mc_X6_cancelByHand {x1 : Int32} {I : IS} (J : JS) {q : Int32 × IS} (hF : f_X6_cancelByHand x1 I = some q) : MC yX6_cancelByHand cX6_cancelByHand 3 (some .int) (rm_ 3 74) SWor 34 [.ref (0), .int (x1)] I J (some (.int q.1), q.2, J) :=
  mc_of pn_X6 (Nat.le_of_ble_eq_true rfl) (fun z O => c_X6_cancelByHand_e O _ _ _ hF)

def f_X6_changeArms_b60 (k2 : Int32 → Int32 → IS → Option (IS)) : Nat → Int32 → Int32 → Nat → Int32 → IS → Option (IS)
  | 0, _, _, _, _, _ => none
  | fu + 1, x1, x2, r3, x4, I =>
    if (I (gArm (r3)) 1) ≤ x4 then
    ((f_X0_clear (zI (gArm (r3)) I)).bind fun q2 =>
    (k2 (x1) (x2 + (1 : Int32)) ((gI (gArm (r3)) 2 q2 I))))
    else
    (if okI ((0 : Int32)) 4 = true then
    (if okI (x4) 32 = true then
    ((f_X0_put ((I (gArm (r3) + 1) (x4).toNatClampNeg)) (zI (gArm (((0 : Int32)).toNatClampNeg)) I)).bind fun q6 =>
    (f_X6_changeArms_b60 k2 fu (x1) (x2) (r3) (x4 + (1 : Int32)) ((gI (gArm (((0 : Int32)).toNatClampNeg)) 2 q6 I))))
    else none)
    else none)
set_option maxHeartbeats 4000000 in
set_option maxRecDepth 100000 in
theorem c_X6_changeArms_b60 {z : CTX} {J : JS} (O : OK z cX6_changeArms RX6 5 SWor 34 (rm_ 1 21) none) {k2 : Int32 → Int32 → IS → Option (IS)} (hk2 : ∀ (x1 : Int32) (x2 : Int32) (I : IS) (q : IS), k2 x1 x2 I = some q → G z 2 [(0, .ref (0)), (1, .int (x1)), (2, .int (x2))] [] I J (none, q, J)) : ∀ (fu : Nat) (x1 : Int32) (x2 : Int32) (r3 : Nat) (x4 : Int32) (I : IS) (q : IS), f_X6_changeArms_b60 k2 fu x1 x2 r3 x4 I = some q → G z 60 [(0, .ref (0)), (1, .int (x1)), (2, .int (x2)), (3, .ref (gArm (r3))), (4, .int (x4))] [] I J (none, q, J) := by
  intro fu
  induction fu with
  | zero =>
    intro x1 x2 r3 x4 I q hF
    cases hF
  | succ fu ih =>
    intro x1 x2 r3 x4 I q hF
    rw [f_X6_changeArms_b60] at hF
    refine g_iload O (pc := 60) dX6_changeArms_60 4 rfl ?_
    refine g_aload_n O (pc := 62) dX6_changeArms_62 3 rfl ?_
    refine g_getI O (pc := 63) isC_X0 dX6_changeArms_63 fw_X6_84 (by decide) (fd_SWor_gArm_1 (r3)) ?_
    refine g_icmp_ge O (pc := 66) 91 dX6_changeArms_66 (by decide) (fun h1 => ?_) (fun h1 => ?_)
    · rw [if_pos h1] at hF
      refine g_aload_n O (pc := 91) dX6_changeArms_91 3 rfl ?_
      obtain ⟨q2, e3, hF⟩ := bnd hF
      refine g_Vv O (pc := 92) (st := []) dX6_changeArms_92 (mc_X0_clear (zI (gArm (r3)) J) e3) cb_X0_clear ml_X6_90 isC_X0 ob_SArm (zm1I (sub_Wor_arm (r3)) _ _ _ _) (rmok (Nat.le_of_ble_eq_true rfl) (Nat.le_of_ble_eq_true rfl)) (Nat.le_of_ble_eq_true rfl) rfl ?_
      refine g_iinc O (pc := 95) (v := x2 + (1 : Int32)) (L' := [(2, .int (x2 + (1 : Int32))), (0, .ref (0)), (1, .int (x1)), (3, .ref (gArm (r3))), (4, .int (x4))]) dX6_changeArms_95 2 rfl rfl (by decide) rfl ?_
      refine g_goto O (pc := 98) 2 dX6_changeArms_98 (by decide) ?_
      refine g_sub [1, 2, 0] (L' := [(0, .ref (0)), (1, .int (x1)), (2, .int (x2 + (1 : Int32)))]) rfl ?_
      exact hk2 _ _ _ _ hF
    · rw [if_neg h1] at hF
      refine g_aload_n O (pc := 69) dX6_changeArms_69 0 rfl ?_
      refine g_getR O (pc := 70) isC_X6 dX6_changeArms_70 fw_X6_11 (by decide) fd_SWor_0_0 ?_
      refine g_iconst O (pc := 73) dX6_changeArms_73 (ic_0) ?_
      obtain ⟨h4, hF⟩ := gd hF
      refine g_al O (pc := 74) dX6_changeArms_74 rr_SWor_1 (Or.inl rfl) h4 ?_
      refine g_aload_n O (pc := 75) dX6_changeArms_75 3 rfl ?_
      refine g_getR O (pc := 76) isC_X0 dX6_changeArms_76 fw_X6_87 (by decide) (fd_SWor_gArm_0 (r3)) ?_
      refine g_iload O (pc := 79) dX6_changeArms_79 4 rfl ?_
      obtain ⟨h5, hF⟩ := gd hF
      refine g_il O (pc := 81) dX6_changeArms_81 (ar_SWor_gArm_1 (r3)) h5 ?_
      obtain ⟨q6, e7, hF⟩ := bnd hF
      refine g_Vv O (pc := 82) (st := []) dX6_changeArms_82 (mc_X0_put (zI (gArm (((0 : Int32)).toNatClampNeg)) J) e7) cb_X0_put ml_X6_81 isC_X0 ob_SArm (zm1I (sub_Wor_arm (((0 : Int32)).toNatClampNeg)) _ _ _ _) (rmok (Nat.le_of_ble_eq_true rfl) (Nat.le_of_ble_eq_true rfl)) (Nat.le_of_ble_eq_true rfl) rfl ?_
      refine g_iinc O (pc := 85) (v := x4 + (1 : Int32)) (L' := [(4, .int (x4 + (1 : Int32))), (0, .ref (0)), (1, .int (x1)), (2, .int (x2)), (3, .ref (gArm (r3)))]) dX6_changeArms_85 4 rfl rfl (by decide) rfl ?_
      refine g_goto O (pc := 88) 60 dX6_changeArms_88 (by decide) ?_
      refine g_sub [1, 2, 3, 4, 0] (L' := [(0, .ref (0)), (1, .int (x1)), (2, .int (x2)), (3, .ref (gArm (r3))), (4, .int (x4 + (1 : Int32)))]) rfl ?_
      exact ih _ _ _ _ _ _ hF

def f_X6_changeArms_b57 (k2 : Int32 → Int32 → IS → Option (IS)) (x1 : Int32) (x2 : Int32) (r3 : Nat) (I : IS) : Option (IS) :=
  f_X6_changeArms_b60 k2 LF (x1) (x2) (r3) ((0 : Int32)) (I)
set_option maxHeartbeats 4000000 in
set_option maxRecDepth 100000 in
theorem c_X6_changeArms_b57 {z : CTX} {J : JS} (O : OK z cX6_changeArms RX6 5 SWor 34 (rm_ 1 21) none) {k2 : Int32 → Int32 → IS → Option (IS)} (hk2 : ∀ (x1 : Int32) (x2 : Int32) (I : IS) (q : IS), k2 x1 x2 I = some q → G z 2 [(0, .ref (0)), (1, .int (x1)), (2, .int (x2))] [] I J (none, q, J)) : ∀ (x1 : Int32) (x2 : Int32) (r3 : Nat) (I : IS) (q : IS), f_X6_changeArms_b57 k2 x1 x2 r3 I = some q → G z 57 [(0, .ref (0)), (1, .int (x1)), (2, .int (x2)), (3, .ref (gArm (r3)))] [] I J (none, q, J) := by
  intro x1 x2 r3 I q hF
  rw [f_X6_changeArms_b57] at hF
  refine g_iconst O (pc := 57) dX6_changeArms_57 (ic_0) ?_
  refine g_istore O (pc := 58) (L' := [(4, .int ((0 : Int32))), (0, .ref (0)), (1, .int (x1)), (2, .int (x2)), (3, .ref (gArm (r3)))]) dX6_changeArms_58 (by decide) rfl ?_
  refine g_sub [1, 2, 3, 4, 0] (L' := [(0, .ref (0)), (1, .int (x1)), (2, .int (x2)), (3, .ref (gArm (r3))), (4, .int ((0 : Int32)))]) rfl ?_
  exact c_X6_changeArms_b60 O hk2 _ _ _ _ _ _ _ hF

def f_X6_changeArms_b2 : Nat → Int32 → Int32 → IS → Option (IS)
  | 0, _, _, _ => none
  | fu + 1, x1, x2, I =>
    if (I (0) 6) ≤ x2 then
    (some ((u2 I (0) 6 (x1))))
    else
    (if okI (x2) 4 = true then
    ((f_X4_has ((I (gArm ((x2).toNatClampNeg)) 2)) (zI (10) I)).bind fun q3 =>
    (if q3 = 0 then
    (f_X6_changeArms_b57 (f_X6_changeArms_b2 fu) (x1) (x2) ((x2).toNatClampNeg) (I))
    else
    (if okI ((I (gArm ((x2).toNatClampNeg)) 2)) 32 = true then
    (if okI ((0 : Int32)) 4 = true then
    ((f_X0_put (((u2 I (14) ((I (gArm ((x2).toNatClampNeg)) 2)).toNatClampNeg ((0 : Int32))) (gArm ((x2).toNatClampNeg)) 2)) (zI (gArm (((0 : Int32)).toNatClampNeg)) (u2 I (14) ((I (gArm ((x2).toNatClampNeg)) 2)).toNatClampNeg ((0 : Int32))))).bind fun q8 =>
    ((some (gI (gArm (((0 : Int32)).toNatClampNeg)) 2 q8 (u2 I (14) ((I (gArm ((x2).toNatClampNeg)) 2)).toNatClampNeg ((0 : Int32))))).bind fun I10 =>
    (f_X6_changeArms_b57 (f_X6_changeArms_b2 fu) (x1) (x2) ((x2).toNatClampNeg) (I10))))
    else none)
    else none)))
    else none)
set_option maxHeartbeats 4000000 in
set_option maxRecDepth 100000 in
theorem c_X6_changeArms_b2 {z : CTX} {J : JS} (O : OK z cX6_changeArms RX6 5 SWor 34 (rm_ 1 21) none) : ∀ (fu : Nat) (x1 : Int32) (x2 : Int32) (I : IS) (q : IS), f_X6_changeArms_b2 fu x1 x2 I = some q → G z 2 [(0, .ref (0)), (1, .int (x1)), (2, .int (x2))] [] I J (none, q, J) := by
  intro fu
  induction fu with
  | zero =>
    intro x1 x2 I q hF
    cases hF
  | succ fu ih =>
    intro x1 x2 I q hF
    rw [f_X6_changeArms_b2] at hF
    refine g_iload_n O (pc := 2) dX6_changeArms_2 2 rfl ?_
    refine g_aload_n O (pc := 3) dX6_changeArms_3 0 rfl ?_
    refine g_getI O (pc := 4) isC_X6 dX6_changeArms_4 fw_X6_47 (by decide) fd_SWor_0_6 ?_
    refine g_icmp_ge O (pc := 7) 101 dX6_changeArms_7 (by decide) (fun h1 => ?_) (fun h1 => ?_)
    · rw [if_pos h1] at hF
      refine g_aload_n O (pc := 101) dX6_changeArms_101 0 rfl ?_
      refine g_iload_n O (pc := 102) dX6_changeArms_102 1 rfl ?_
      refine g_putI O (pc := 103) isC_X6 isT_X6 dX6_changeArms_103 fw_X6_47 (by decide) rfl rfl fd_SWor_0_6 ?_
      obtain rfl := Option.some.inj hF
      exact g_return O (pc := 106) dX6_changeArms_106 rfl
    · rw [if_neg h1] at hF
      refine g_aload_n O (pc := 10) dX6_changeArms_10 0 rfl ?_
      refine g_getR O (pc := 11) isC_X6 dX6_changeArms_11 fw_X6_11 (by decide) fd_SWor_0_0 ?_
      refine g_iload_n O (pc := 14) dX6_changeArms_14 2 rfl ?_
      obtain ⟨h2, hF⟩ := gd hF
      refine g_al O (pc := 15) dX6_changeArms_15 rr_SWor_1 (Or.inl rfl) h2 ?_
      refine g_astore_n O (pc := 16) (L' := [(3, .ref (gArm ((x2).toNatClampNeg))), (0, .ref (0)), (1, .int (x1)), (2, .int (x2))]) dX6_changeArms_16 (by decide) rfl ?_
      refine g_aload_n O (pc := 17) dX6_changeArms_17 1 rfl ?_
      refine g_getR O (pc := 18) isC_X6 dX6_changeArms_18 fw_X6_21 (by decide) fd_SWor_0_1 ?_
      refine g_aload_n O (pc := 21) dX6_changeArms_21 0 rfl ?_
      refine g_getI O (pc := 22) isC_X0 dX6_changeArms_22 fw_X6_70 (by decide) (fd_SWor_gArm_2 ((x2).toNatClampNeg)) ?_
      obtain ⟨q3, e4, hF⟩ := bnd hF
      refine g_Vi O (pc := 25) (st := []) dX6_changeArms_25 (mc_X4_has (zI (10) J) e4) cb_X4_has ml_X6_73 isC_X4 ob_STas (zm1R sub_Wor_tas _ _ _) (rmok (Nat.le_of_ble_eq_true rfl) (Nat.le_of_ble_eq_true rfl)) (Nat.le_of_ble_eq_true rfl) rfl ?_
      refine g_if_eq O (pc := 28) 57 dX6_changeArms_28 (by decide) (fun h5 => ?_) (fun h5 => ?_)
      · rw [if_pos h5] at hF
        refine g_sub [1, 2, 3, 0] (L' := [(0, .ref (0)), (1, .int (x1)), (2, .int (x2)), (3, .ref (gArm ((x2).toNatClampNeg)))]) rfl ?_
        exact c_X6_changeArms_b57 O ih _ _ _ _ _ hF
      · rw [if_neg h5] at hF
        refine g_aload_n O (pc := 31) dX6_changeArms_31 1 rfl ?_
        refine g_getR O (pc := 32) isC_X6 dX6_changeArms_32 fw_X6_21 (by decide) fd_SWor_0_1 ?_
        refine g_getR O (pc := 35) isC_X4 dX6_changeArms_35 fw_X6_77 (by decide) fd_SWor_10_3 ?_
        refine g_aload_n O (pc := 38) dX6_changeArms_38 0 rfl ?_
        refine g_getI O (pc := 39) isC_X0 dX6_changeArms_39 fw_X6_70 (by decide) (fd_SWor_gArm_2 ((x2).toNatClampNeg)) ?_
        refine g_iconst O (pc := 42) dX6_changeArms_42 (ic_0) ?_
        obtain ⟨h6, hF⟩ := gd hF
        refine g_is O (pc := 43) dX6_changeArms_43 ar_SWor_14 h6 ?_
        refine g_aload_n O (pc := 44) dX6_changeArms_44 1 rfl ?_
        refine g_getR O (pc := 45) isC_X6 dX6_changeArms_45 fw_X6_11 (by decide) fd_SWor_0_0 ?_
        refine g_iconst O (pc := 48) dX6_changeArms_48 (ic_0) ?_
        obtain ⟨h7, hF⟩ := gd hF
        refine g_al O (pc := 49) dX6_changeArms_49 rr_SWor_1 (Or.inl rfl) h7 ?_
        refine g_aload_n O (pc := 50) dX6_changeArms_50 0 rfl ?_
        refine g_getI O (pc := 51) isC_X0 dX6_changeArms_51 fw_X6_70 (by decide) (fd_SWor_gArm_2 ((x2).toNatClampNeg)) ?_
        obtain ⟨q8, e9, hF⟩ := bnd hF
        refine g_Vv O (pc := 54) (st := []) dX6_changeArms_54 (mc_X0_put (zI (gArm (((0 : Int32)).toNatClampNeg)) J) e9) cb_X0_put ml_X6_81 isC_X0 ob_SArm (zm1I (sub_Wor_arm (((0 : Int32)).toNatClampNeg)) _ _ _ _) (rmok (Nat.le_of_ble_eq_true rfl) (Nat.le_of_ble_eq_true rfl)) (Nat.le_of_ble_eq_true rfl) rfl ?_
        obtain ⟨I10, g11, hF⟩ := bnd hF
        refine g_nmI (Option.some.inj g11) ?_
        refine g_sub [1, 2, 3, 0] (L' := [(0, .ref (0)), (1, .int (x1)), (2, .int (x2)), (3, .ref (gArm ((x2).toNatClampNeg)))]) rfl ?_
        exact c_X6_changeArms_b57 O ih _ _ _ _ _ hF

def f_X6_changeArms (x1 : Int32) (I : IS) : Option (IS) :=
  f_X6_changeArms_b2 LF (x1) (x1) (I)
set_option maxHeartbeats 4000000 in
set_option maxRecDepth 100000 in
theorem c_X6_changeArms_e {z : CTX} {J : JS} (O : OK z cX6_changeArms RX6 5 SWor 34 (rm_ 1 21) none) : ∀ (x1 : Int32) (I : IS) (q : IS), f_X6_changeArms x1 I = some q → G z 0 [(0, .ref (0)), (1, .int (x1))] [] I J (none, q, J) := by
  intro x1 I q hF
  rw [f_X6_changeArms] at hF
  refine g_iload_n O (pc := 0) dX6_changeArms_0 1 rfl ?_
  refine g_istore_n O (pc := 1) (L' := [(2, .int (x1)), (0, .ref (0)), (1, .int (x1))]) dX6_changeArms_1 (by decide) rfl ?_
  refine g_sub [1, 2, 0] (L' := [(0, .ref (0)), (1, .int (x1)), (2, .int (x1))]) rfl ?_
  exact c_X6_changeArms_b2 O _ _ _ _ _ hF

theorem mc_X6_changeArms {x1 : Int32} {I : IS} (J : JS) {q : IS} (hF : f_X6_changeArms x1 I = some q) : MC yX6_changeArms cX6_changeArms 5 none (rm_ 1 21) SWor 34 [.ref (0), .int (x1)] I J (none, q, J) :=
  mc_of pn_X6 (Nat.le_of_ble_eq_true rfl) (fun z O => c_X6_changeArms_e O _ _ _ hF)

def f_X6_drawnArm_b111 (k73 : Int32 → Int32 → Int32 → IS → Option (Int32 × IS)) (x1 : Int32) (x3 : Int32) (x4 : Int32) (I : IS) : Option (Int32 × IS) :=
  k73 (x1) (x3) (x4 + (1 : Int32)) (I)
set_option maxHeartbeats 4000000 in
set_option maxRecDepth 100000 in
theorem c_X6_drawnArm_b111 {z : CTX} {J : JS} (O : OK z cX6_drawnArm RX6 5 SWor 34 (rm_ 0 0) (some .int)) {k73 : Int32 → Int32 → Int32 → IS → Option (Int32 × IS)} (hk73 : ∀ (x1 : Int32) (x3 : Int32) (x4 : Int32) (I : IS) (q : Int32 × IS), k73 x1 x3 x4 I = some q → G z 73 [(0, .ref (0)), (1, .int (x1)), (3, .int (x3)), (4, .int (x4))] [] I J (some (.int q.1), q.2, J)) : ∀ (x1 : Int32) (x3 : Int32) (x4 : Int32) (I : IS) (q : Int32 × IS), f_X6_drawnArm_b111 k73 x1 x3 x4 I = some q → G z 111 [(0, .ref (0)), (1, .int (x1)), (3, .int (x3)), (4, .int (x4))] [] I J (some (.int q.1), q.2, J) := by
  intro x1 x3 x4 I q hF
  rw [f_X6_drawnArm_b111] at hF
  refine g_iinc O (pc := 111) (v := x4 + (1 : Int32)) (L' := [(4, .int (x4 + (1 : Int32))), (0, .ref (0)), (1, .int (x1)), (3, .int (x3))]) dX6_drawnArm_111 3 rfl rfl (by decide) rfl ?_
  refine g_goto O (pc := 114) 73 dX6_drawnArm_114 (by decide) ?_
  refine g_sub [1, 2, 3, 0] (L' := [(0, .ref (0)), (1, .int (x1)), (3, .int (x3)), (4, .int (x4 + (1 : Int32)))]) rfl ?_
  exact hk73 _ _ _ _ _ hF

def f_X6_drawnArm_b73 : Nat → Int32 → Int32 → Int32 → IS → Option (Int32 × IS)
  | 0, _, _, _, _ => none
  | fu + 1, x1, x3, x4, I =>
    if (I (0) 6) ≤ x4 then
    (some ((-5 : Int32), I))
    else
    (if x4 = x1 then
    (f_X6_drawnArm_b111 (f_X6_drawnArm_b73 fu) (x1) (x3) (x4) (I))
    else
    (if okI (x4) 4 = true then
    (if (I (gArm ((x4).toNatClampNeg)) 1) ≤ 0 then
    (f_X6_drawnArm_b111 (f_X6_drawnArm_b73 fu) (x1) (x3) (x4) (I))
    else
    (if x3 = 0 then
    (some (x4, I))
    else
    (f_X6_drawnArm_b111 (f_X6_drawnArm_b73 fu) (x1) (x3 + (-1 : Int32)) (x4) (I))))
    else none))
set_option maxHeartbeats 4000000 in
set_option maxRecDepth 100000 in
theorem c_X6_drawnArm_b73 {z : CTX} {J : JS} (O : OK z cX6_drawnArm RX6 5 SWor 34 (rm_ 0 0) (some .int)) : ∀ (fu : Nat) (x1 : Int32) (x3 : Int32) (x4 : Int32) (I : IS) (q : Int32 × IS), f_X6_drawnArm_b73 fu x1 x3 x4 I = some q → G z 73 [(0, .ref (0)), (1, .int (x1)), (3, .int (x3)), (4, .int (x4))] [] I J (some (.int q.1), q.2, J) := by
  intro fu
  induction fu with
  | zero =>
    intro x1 x3 x4 I q hF
    cases hF
  | succ fu ih =>
    intro x1 x3 x4 I q hF
    rw [f_X6_drawnArm_b73] at hF
    refine g_iload O (pc := 73) dX6_drawnArm_73 3 rfl ?_
    refine g_aload_n O (pc := 75) dX6_drawnArm_75 0 rfl ?_
    refine g_getI O (pc := 76) isC_X6 dX6_drawnArm_76 fw_X6_47 (by decide) fd_SWor_0_6 ?_
    refine g_icmp_ge O (pc := 79) 117 dX6_drawnArm_79 (by decide) (fun h1 => ?_) (fun h1 => ?_)
    · rw [if_pos h1] at hF
      refine g_bipush O (pc := 117) dX6_drawnArm_117 bp_m5 ?_
      obtain rfl := Option.some.inj hF
      exact g_ireturn O (pc := 119) dX6_drawnArm_119 rfl
    · rw [if_neg h1] at hF
      refine g_iload O (pc := 82) dX6_drawnArm_82 3 rfl ?_
      refine g_iload_n O (pc := 84) dX6_drawnArm_84 1 rfl ?_
      refine g_icmp_eq O (pc := 85) 111 dX6_drawnArm_85 (by decide) (fun h2 => ?_) (fun h2 => ?_)
      · rw [if_pos h2] at hF
        refine g_sub [0, 1, 2, 3] (L' := [(0, .ref (0)), (1, .int (x1)), (3, .int (x3)), (4, .int (x4))]) rfl ?_
        exact c_X6_drawnArm_b111 O ih _ _ _ _ _ hF
      · rw [if_neg h2] at hF
        refine g_aload_n O (pc := 88) dX6_drawnArm_88 0 rfl ?_
        refine g_getR O (pc := 89) isC_X6 dX6_drawnArm_89 fw_X6_11 (by decide) fd_SWor_0_0 ?_
        refine g_iload O (pc := 92) dX6_drawnArm_92 3 rfl ?_
        obtain ⟨h3, hF⟩ := gd hF
        refine g_al O (pc := 94) dX6_drawnArm_94 rr_SWor_1 (Or.inl rfl) h3 ?_
        refine g_getI O (pc := 95) isC_X0 dX6_drawnArm_95 fw_X6_84 (by decide) (fd_SWor_gArm_1 ((x4).toNatClampNeg)) ?_
        refine g_if_le O (pc := 98) 111 dX6_drawnArm_98 (by decide) (fun h4 => ?_) (fun h4 => ?_)
        · rw [if_pos h4] at hF
          refine g_sub [0, 1, 2, 3] (L' := [(0, .ref (0)), (1, .int (x1)), (3, .int (x3)), (4, .int (x4))]) rfl ?_
          exact c_X6_drawnArm_b111 O ih _ _ _ _ _ hF
        · rw [if_neg h4] at hF
          refine g_iload_n O (pc := 101) dX6_drawnArm_101 2 rfl ?_
          refine g_if_ne O (pc := 102) 108 dX6_drawnArm_102 (by decide) (fun h5 => ?_) (fun h5 => ?_)
          · rw [if_neg h5] at hF
            refine g_iinc O (pc := 108) (v := x3 + (-1 : Int32)) (L' := [(3, .int (x3 + (-1 : Int32))), (0, .ref (0)), (1, .int (x1)), (4, .int (x4))]) dX6_drawnArm_108 2 rfl rfl (by decide) rfl ?_
            refine g_sub [1, 2, 0, 3] (L' := [(0, .ref (0)), (1, .int (x1)), (3, .int (x3 + (-1 : Int32))), (4, .int (x4))]) rfl ?_
            exact c_X6_drawnArm_b111 O ih _ _ _ _ _ hF
          · rw [if_pos h5] at hF
            refine g_iload O (pc := 105) dX6_drawnArm_105 3 rfl ?_
            obtain rfl := Option.some.inj hF
            exact g_ireturn O (pc := 107) dX6_drawnArm_107 rfl

def f_X6_drawnArm_b32 (k4 : Int32 → Int32 → Int32 → IS → Option (Int32 × IS)) (x1 : Int32) (x2 : Int32) (x3 : Int32) (I : IS) : Option (Int32 × IS) :=
  k4 (x1) (x2) (x3 + (1 : Int32)) (I)
set_option maxHeartbeats 4000000 in
set_option maxRecDepth 100000 in
theorem c_X6_drawnArm_b32 {z : CTX} {J : JS} (O : OK z cX6_drawnArm RX6 5 SWor 34 (rm_ 0 0) (some .int)) {k4 : Int32 → Int32 → Int32 → IS → Option (Int32 × IS)} (hk4 : ∀ (x1 : Int32) (x2 : Int32) (x3 : Int32) (I : IS) (q : Int32 × IS), k4 x1 x2 x3 I = some q → G z 4 [(0, .ref (0)), (1, .int (x1)), (2, .int (x2)), (3, .int (x3))] [] I J (some (.int q.1), q.2, J)) : ∀ (x1 : Int32) (x2 : Int32) (x3 : Int32) (I : IS) (q : Int32 × IS), f_X6_drawnArm_b32 k4 x1 x2 x3 I = some q → G z 32 [(0, .ref (0)), (1, .int (x1)), (2, .int (x2)), (3, .int (x3))] [] I J (some (.int q.1), q.2, J) := by
  intro x1 x2 x3 I q hF
  rw [f_X6_drawnArm_b32] at hF
  refine g_iinc O (pc := 32) (v := x3 + (1 : Int32)) (L' := [(3, .int (x3 + (1 : Int32))), (0, .ref (0)), (1, .int (x1)), (2, .int (x2))]) dX6_drawnArm_32 3 rfl rfl (by decide) rfl ?_
  refine g_goto O (pc := 35) 4 dX6_drawnArm_35 (by decide) ?_
  refine g_sub [1, 2, 3, 0] (L' := [(0, .ref (0)), (1, .int (x1)), (2, .int (x2)), (3, .int (x3 + (1 : Int32)))]) rfl ?_
  exact hk4 _ _ _ _ _ hF

def f_X6_drawnArm_b4 : Nat → Int32 → Int32 → Int32 → IS → Option (Int32 × IS)
  | 0, _, _, _, _ => none
  | fu + 1, x1, x2, x3, I =>
    if (I (0) 6) ≤ x3 then
    (if x2 = 0 then
    (some ((-5 : Int32), I))
    else
    (if okD (x2) = true then
    (f_X6_drawnArm_b73 LF (x1) (((((((u2 I (0) 7 ((((I (0) 7) * (1103515245 : Int32)) + (12345 : Int32)))) (0) 7)).toUInt32 >>> (((16 : Int32)).toUInt32 &&& Int32.toUInt32 31)).toInt32) - (((((u2 I (0) 7 ((((I (0) 7) * (1103515245 : Int32)) + (12345 : Int32)))) (0) 7)).toUInt32 >>> (((16 : Int32)).toUInt32 &&& Int32.toUInt32 31)).toInt32) / x2 * x2)) ((0 : Int32)) ((u2 I (0) 7 ((((I (0) 7) * (1103515245 : Int32)) + (12345 : Int32))))))
    else none))
    else
    (if x3 = x1 then
    (f_X6_drawnArm_b32 (f_X6_drawnArm_b4 fu) (x1) (x2) (x3) (I))
    else
    (if okI (x3) 4 = true then
    (if (I (gArm ((x3).toNatClampNeg)) 1) ≤ 0 then
    (f_X6_drawnArm_b32 (f_X6_drawnArm_b4 fu) (x1) (x2) (x3) (I))
    else
    (f_X6_drawnArm_b32 (f_X6_drawnArm_b4 fu) (x1) (x2 + (1 : Int32)) (x3) (I)))
    else none))
set_option maxHeartbeats 4000000 in
set_option maxRecDepth 100000 in
theorem c_X6_drawnArm_b4 {z : CTX} {J : JS} (O : OK z cX6_drawnArm RX6 5 SWor 34 (rm_ 0 0) (some .int)) : ∀ (fu : Nat) (x1 : Int32) (x2 : Int32) (x3 : Int32) (I : IS) (q : Int32 × IS), f_X6_drawnArm_b4 fu x1 x2 x3 I = some q → G z 4 [(0, .ref (0)), (1, .int (x1)), (2, .int (x2)), (3, .int (x3))] [] I J (some (.int q.1), q.2, J) := by
  intro fu
  induction fu with
  | zero =>
    intro x1 x2 x3 I q hF
    cases hF
  | succ fu ih =>
    intro x1 x2 x3 I q hF
    rw [f_X6_drawnArm_b4] at hF
    refine g_iload_n O (pc := 4) dX6_drawnArm_4 3 rfl ?_
    refine g_aload_n O (pc := 5) dX6_drawnArm_5 0 rfl ?_
    refine g_getI O (pc := 6) isC_X6 dX6_drawnArm_6 fw_X6_47 (by decide) fd_SWor_0_6 ?_
    refine g_icmp_ge O (pc := 9) 38 dX6_drawnArm_9 (by decide) (fun h1 => ?_) (fun h1 => ?_)
    · rw [if_pos h1] at hF
      refine g_iload_n O (pc := 38) dX6_drawnArm_38 2 rfl ?_
      refine g_if_ne O (pc := 39) 45 dX6_drawnArm_39 (by decide) (fun h2 => ?_) (fun h2 => ?_)
      · rw [if_neg h2] at hF
        refine g_aload_n O (pc := 45) dX6_drawnArm_45 0 rfl ?_
        refine g_aload_n O (pc := 46) dX6_drawnArm_46 0 rfl ?_
        refine g_getI O (pc := 47) isC_X6 dX6_drawnArm_47 fw_X6_51 (by decide) fd_SWor_0_7 ?_
        refine g_ldc O (pc := 50) kw_X6_143 dX6_drawnArm_50 ?_
        refine g_imul O (pc := 52) dX6_drawnArm_52 ?_
        refine g_sipush O (pc := 53) dX6_drawnArm_53 sp_12345 ?_
        refine g_iadd O (pc := 56) dX6_drawnArm_56 ?_
        refine g_putI O (pc := 57) isC_X6 isT_X6 dX6_drawnArm_57 fw_X6_51 (by decide) rfl rfl fd_SWor_0_7 ?_
        refine g_aload_n O (pc := 60) dX6_drawnArm_60 0 rfl ?_
        refine g_getI O (pc := 61) isC_X6 dX6_drawnArm_61 fw_X6_51 (by decide) fd_SWor_0_7 ?_
        refine g_bipush O (pc := 64) dX6_drawnArm_64 bp_16 ?_
        refine g_iushr O (pc := 66) dX6_drawnArm_66 ?_
        refine g_iload_n O (pc := 67) dX6_drawnArm_67 2 rfl ?_
        obtain ⟨h3, hF⟩ := gd hF
        refine g_irem O (pc := 68) dX6_drawnArm_68 (okD_n h3) ?_
        refine g_istore_n O (pc := 69) (L' := [(3, .int (((((((u2 I (0) 7 ((((I (0) 7) * (1103515245 : Int32)) + (12345 : Int32)))) (0) 7)).toUInt32 >>> (((16 : Int32)).toUInt32 &&& Int32.toUInt32 31)).toInt32) - (((((u2 I (0) 7 ((((I (0) 7) * (1103515245 : Int32)) + (12345 : Int32)))) (0) 7)).toUInt32 >>> (((16 : Int32)).toUInt32 &&& Int32.toUInt32 31)).toInt32) / x2 * x2))), (0, .ref (0)), (1, .int (x1)), (2, .int (x2))]) dX6_drawnArm_69 (by decide) rfl ?_
        refine g_iconst O (pc := 70) dX6_drawnArm_70 (ic_0) ?_
        refine g_istore O (pc := 71) (L' := [(4, .int ((0 : Int32))), (3, .int (((((((u2 I (0) 7 ((((I (0) 7) * (1103515245 : Int32)) + (12345 : Int32)))) (0) 7)).toUInt32 >>> (((16 : Int32)).toUInt32 &&& Int32.toUInt32 31)).toInt32) - (((((u2 I (0) 7 ((((I (0) 7) * (1103515245 : Int32)) + (12345 : Int32)))) (0) 7)).toUInt32 >>> (((16 : Int32)).toUInt32 &&& Int32.toUInt32 31)).toInt32) / x2 * x2))), (0, .ref (0)), (1, .int (x1)), (2, .int (x2))]) dX6_drawnArm_71 (by decide) rfl ?_
        refine g_sub [2, 3, 1, 0] (L' := [(0, .ref (0)), (1, .int (x1)), (3, .int (((((((u2 I (0) 7 ((((I (0) 7) * (1103515245 : Int32)) + (12345 : Int32)))) (0) 7)).toUInt32 >>> (((16 : Int32)).toUInt32 &&& Int32.toUInt32 31)).toInt32) - (((((u2 I (0) 7 ((((I (0) 7) * (1103515245 : Int32)) + (12345 : Int32)))) (0) 7)).toUInt32 >>> (((16 : Int32)).toUInt32 &&& Int32.toUInt32 31)).toInt32) / x2 * x2))), (4, .int ((0 : Int32)))]) rfl ?_
        exact c_X6_drawnArm_b73 O _ _ _ _ _ _ hF
      · rw [if_pos h2] at hF
        refine g_bipush O (pc := 42) dX6_drawnArm_42 bp_m5 ?_
        obtain rfl := Option.some.inj hF
        exact g_ireturn O (pc := 44) dX6_drawnArm_44 rfl
    · rw [if_neg h1] at hF
      refine g_iload_n O (pc := 12) dX6_drawnArm_12 3 rfl ?_
      refine g_iload_n O (pc := 13) dX6_drawnArm_13 1 rfl ?_
      refine g_icmp_eq O (pc := 14) 32 dX6_drawnArm_14 (by decide) (fun h4 => ?_) (fun h4 => ?_)
      · rw [if_pos h4] at hF
        refine g_sub [0, 1, 2, 3] (L' := [(0, .ref (0)), (1, .int (x1)), (2, .int (x2)), (3, .int (x3))]) rfl ?_
        exact c_X6_drawnArm_b32 O ih _ _ _ _ _ hF
      · rw [if_neg h4] at hF
        refine g_aload_n O (pc := 17) dX6_drawnArm_17 0 rfl ?_
        refine g_getR O (pc := 18) isC_X6 dX6_drawnArm_18 fw_X6_11 (by decide) fd_SWor_0_0 ?_
        refine g_iload_n O (pc := 21) dX6_drawnArm_21 3 rfl ?_
        obtain ⟨h5, hF⟩ := gd hF
        refine g_al O (pc := 22) dX6_drawnArm_22 rr_SWor_1 (Or.inl rfl) h5 ?_
        refine g_getI O (pc := 23) isC_X0 dX6_drawnArm_23 fw_X6_84 (by decide) (fd_SWor_gArm_1 ((x3).toNatClampNeg)) ?_
        refine g_if_le O (pc := 26) 32 dX6_drawnArm_26 (by decide) (fun h6 => ?_) (fun h6 => ?_)
        · rw [if_pos h6] at hF
          refine g_sub [0, 1, 2, 3] (L' := [(0, .ref (0)), (1, .int (x1)), (2, .int (x2)), (3, .int (x3))]) rfl ?_
          exact c_X6_drawnArm_b32 O ih _ _ _ _ _ hF
        · rw [if_neg h6] at hF
          refine g_iinc O (pc := 29) (v := x2 + (1 : Int32)) (L' := [(2, .int (x2 + (1 : Int32))), (0, .ref (0)), (1, .int (x1)), (3, .int (x3))]) dX6_drawnArm_29 2 rfl rfl (by decide) rfl ?_
          refine g_sub [1, 2, 0, 3] (L' := [(0, .ref (0)), (1, .int (x1)), (2, .int (x2 + (1 : Int32))), (3, .int (x3))]) rfl ?_
          exact c_X6_drawnArm_b32 O ih _ _ _ _ _ hF

def f_X6_drawnArm (x1 : Int32) (I : IS) : Option (Int32 × IS) :=
  f_X6_drawnArm_b4 LF (x1) ((0 : Int32)) ((0 : Int32)) (I)
set_option maxHeartbeats 4000000 in
set_option maxRecDepth 100000 in
theorem c_X6_drawnArm_e {z : CTX} {J : JS} (O : OK z cX6_drawnArm RX6 5 SWor 34 (rm_ 0 0) (some .int)) : ∀ (x1 : Int32) (I : IS) (q : Int32 × IS), f_X6_drawnArm x1 I = some q → G z 0 [(0, .ref (0)), (1, .int (x1))] [] I J (some (.int q.1), q.2, J) := by
  intro x1 I q hF
  rw [f_X6_drawnArm] at hF
  refine g_iconst O (pc := 0) dX6_drawnArm_0 (ic_0) ?_
  refine g_istore_n O (pc := 1) (L' := [(2, .int ((0 : Int32))), (0, .ref (0)), (1, .int (x1))]) dX6_drawnArm_1 (by decide) rfl ?_
  refine g_iconst O (pc := 2) dX6_drawnArm_2 (ic_0) ?_
  refine g_istore_n O (pc := 3) (L' := [(3, .int ((0 : Int32))), (2, .int ((0 : Int32))), (0, .ref (0)), (1, .int (x1))]) dX6_drawnArm_3 (by decide) rfl ?_
  refine g_sub [2, 3, 1, 0] (L' := [(0, .ref (0)), (1, .int (x1)), (2, .int ((0 : Int32))), (3, .int ((0 : Int32)))]) rfl ?_
  exact c_X6_drawnArm_b4 O _ _ _ _ _ _ hF

theorem mc_X6_drawnArm {x1 : Int32} {I : IS} (J : JS) {q : Int32 × IS} (hF : f_X6_drawnArm x1 I = some q) : MC yX6_drawnArm cX6_drawnArm 5 (some .int) (rm_ 0 0) SWor 34 [.ref (0), .int (x1)] I J (some (.int q.1), q.2, J) :=
  mc_of pn_X6 (Nat.le_of_ble_eq_true rfl) (fun z O => c_X6_drawnArm_e O _ _ _ hF)

def f_X6_endsByItself_b133 (k88 : Int32 → Int32 → Int32 → IS → Option (Int32 × IS)) (x1 : Int32) (x2 : Int32) (x3 : Int32) (I : IS) : Option (Int32 × IS) :=
  k88 (x1) (x2) (x3 + (1 : Int32)) (I)
set_option maxHeartbeats 4000000 in
set_option maxRecDepth 100000 in
theorem c_X6_endsByItself_b133 {z : CTX} {J : JS} (O : OK z cX6_endsByItself RX6 4 SWor 34 (rm_ 2 42) (some .boolean)) {k88 : Int32 → Int32 → Int32 → IS → Option (Int32 × IS)} (hk88 : ∀ (x1 : Int32) (x2 : Int32) (x3 : Int32) (I : IS) (q : Int32 × IS), k88 x1 x2 x3 I = some q → G z 88 [(0, .ref (0)), (1, .int (x1)), (2, .int (x2)), (3, .int (x3))] [] I J (some (.int q.1), q.2, J)) : ∀ (x1 : Int32) (x2 : Int32) (x3 : Int32) (I : IS) (q : Int32 × IS), f_X6_endsByItself_b133 k88 x1 x2 x3 I = some q → G z 133 [(0, .ref (0)), (1, .int (x1)), (2, .int (x2)), (3, .int (x3))] [] I J (some (.int q.1), q.2, J) := by
  intro x1 x2 x3 I q hF
  rw [f_X6_endsByItself_b133] at hF
  refine g_iinc O (pc := 133) (v := x3 + (1 : Int32)) (L' := [(3, .int (x3 + (1 : Int32))), (0, .ref (0)), (1, .int (x1)), (2, .int (x2))]) dX6_endsByItself_133 3 rfl rfl (by decide) rfl ?_
  refine g_goto O (pc := 136) 88 dX6_endsByItself_136 (by decide) ?_
  refine g_sub [1, 2, 3, 0] (L' := [(0, .ref (0)), (1, .int (x1)), (2, .int (x2)), (3, .int (x3 + (1 : Int32)))]) rfl ?_
  exact hk88 _ _ _ _ _ hF

def f_X6_endsByItself_b88 : Nat → Int32 → Int32 → Int32 → IS → Option (Int32 × IS)
  | 0, _, _, _, _ => none
  | fu + 1, x1, x2, x3, I =>
    if (I (10) 8) ≤ x3 then
    (some ((0 : Int32), I))
    else
    (if okI (x3) 32 = true then
    (if (I (15) (x3).toNatClampNeg) = x1 then
    ((f_X4_isEnded (x3) (zI (10) I)).bind fun q4 =>
    (if q4 = 0 then
    (if okI (x2) 4 = true then
    ((f_X0_put (x3) (zI (gArm ((x2).toNatClampNeg)) I)).bind fun q8 =>
    (f_X6_endsByItself_b133 (f_X6_endsByItself_b88 fu) (x1) (x2) (x3) ((gI (gArm ((x2).toNatClampNeg)) 2 q8 I))))
    else none)
    else
    (f_X6_endsByItself_b133 (f_X6_endsByItself_b88 fu) (x1) (x2) (x3) (I))))
    else
    (f_X6_endsByItself_b133 (f_X6_endsByItself_b88 fu) (x1) (x2) (x3) (I)))
    else none)
set_option maxHeartbeats 4000000 in
set_option maxRecDepth 100000 in
theorem c_X6_endsByItself_b88 {z : CTX} {J : JS} (O : OK z cX6_endsByItself RX6 4 SWor 34 (rm_ 2 42) (some .boolean)) : ∀ (fu : Nat) (x1 : Int32) (x2 : Int32) (x3 : Int32) (I : IS) (q : Int32 × IS), f_X6_endsByItself_b88 fu x1 x2 x3 I = some q → G z 88 [(0, .ref (0)), (1, .int (x1)), (2, .int (x2)), (3, .int (x3))] [] I J (some (.int q.1), q.2, J) := by
  intro fu
  induction fu with
  | zero =>
    intro x1 x2 x3 I q hF
    cases hF
  | succ fu ih =>
    intro x1 x2 x3 I q hF
    rw [f_X6_endsByItself_b88] at hF
    refine g_iload_n O (pc := 88) dX6_endsByItself_88 3 rfl ?_
    refine g_aload_n O (pc := 89) dX6_endsByItself_89 0 rfl ?_
    refine g_getR O (pc := 90) isC_X6 dX6_endsByItself_90 fw_X6_21 (by decide) fd_SWor_0_1 ?_
    refine g_getI O (pc := 93) isC_X4 dX6_endsByItself_93 fw_X6_93 (by decide) fd_SWor_10_8 ?_
    refine g_icmp_ge O (pc := 96) 139 dX6_endsByItself_96 (by decide) (fun h1 => ?_) (fun h1 => ?_)
    · rw [if_pos h1] at hF
      refine g_iconst O (pc := 139) dX6_endsByItself_139 (ic_0) ?_
      obtain rfl := Option.some.inj hF
      exact g_zreturn O (pc := 140) dX6_endsByItself_140 (by decide) rfl
    · rw [if_neg h1] at hF
      refine g_aload_n O (pc := 99) dX6_endsByItself_99 0 rfl ?_
      refine g_getR O (pc := 100) isC_X6 dX6_endsByItself_100 fw_X6_21 (by decide) fd_SWor_0_1 ?_
      refine g_getR O (pc := 103) isC_X4 dX6_endsByItself_103 fw_X6_153 (by decide) fd_SWor_10_4 ?_
      refine g_iload_n O (pc := 106) dX6_endsByItself_106 3 rfl ?_
      obtain ⟨h2, hF⟩ := gd hF
      refine g_il O (pc := 107) dX6_endsByItself_107 ar_SWor_15 h2 ?_
      refine g_iload_n O (pc := 108) dX6_endsByItself_108 1 rfl ?_
      refine g_icmp_ne O (pc := 109) 133 dX6_endsByItself_109 (by decide) (fun h3 => ?_) (fun h3 => ?_)
      · rw [if_neg h3] at hF
        refine g_sub [0, 1, 2, 3] (L' := [(0, .ref (0)), (1, .int (x1)), (2, .int (x2)), (3, .int (x3))]) rfl ?_
        exact c_X6_endsByItself_b133 O ih _ _ _ _ _ hF
      · rw [if_pos h3] at hF
        refine g_aload_n O (pc := 112) dX6_endsByItself_112 0 rfl ?_
        refine g_getR O (pc := 113) isC_X6 dX6_endsByItself_113 fw_X6_21 (by decide) fd_SWor_0_1 ?_
        refine g_iload_n O (pc := 116) dX6_endsByItself_116 3 rfl ?_
        obtain ⟨q4, e5, hF⟩ := bnd hF
        refine g_Vi O (pc := 117) (st := []) dX6_endsByItself_117 (mc_X4_isEnded (zI (10) J) e5) cb_X4_isEnded ml_X6_103 isC_X4 ob_STas (zm1R sub_Wor_tas _ _ _) (rmok (Nat.le_of_ble_eq_true rfl) (Nat.le_of_ble_eq_true rfl)) (Nat.le_of_ble_eq_true rfl) rfl ?_
        refine g_if_ne O (pc := 120) 133 dX6_endsByItself_120 (by decide) (fun h6 => ?_) (fun h6 => ?_)
        · rw [if_neg h6] at hF
          refine g_sub [0, 1, 2, 3] (L' := [(0, .ref (0)), (1, .int (x1)), (2, .int (x2)), (3, .int (x3))]) rfl ?_
          exact c_X6_endsByItself_b133 O ih _ _ _ _ _ hF
        · rw [if_pos h6] at hF
          refine g_aload_n O (pc := 123) dX6_endsByItself_123 0 rfl ?_
          refine g_getR O (pc := 124) isC_X6 dX6_endsByItself_124 fw_X6_11 (by decide) fd_SWor_0_0 ?_
          refine g_iload_n O (pc := 127) dX6_endsByItself_127 2 rfl ?_
          obtain ⟨h7, hF⟩ := gd hF
          refine g_al O (pc := 128) dX6_endsByItself_128 rr_SWor_1 (Or.inl rfl) h7 ?_
          refine g_iload_n O (pc := 129) dX6_endsByItself_129 3 rfl ?_
          obtain ⟨q8, e9, hF⟩ := bnd hF
          refine g_Vv O (pc := 130) (st := []) dX6_endsByItself_130 (mc_X0_put (zI (gArm ((x2).toNatClampNeg)) J) e9) cb_X0_put ml_X6_81 isC_X0 ob_SArm (zm1I (sub_Wor_arm ((x2).toNatClampNeg)) _ _ _ _) (rmok (Nat.le_of_ble_eq_true rfl) (Nat.le_of_ble_eq_true rfl)) (Nat.le_of_ble_eq_true rfl) rfl ?_
          refine g_sub [0, 1, 2, 3] (L' := [(0, .ref (0)), (1, .int (x1)), (2, .int (x2)), (3, .int (x3))]) rfl ?_
          exact c_X6_endsByItself_b133 O ih _ _ _ _ _ hF

def f_X6_endsByItself (x1 : Int32) (x2 : Int32) (I : IS) : Option (Int32 × IS) :=
  if okI (x1) 32 = true then
  (if (I (16) (x1).toNatClampNeg) = (1 : Int32) then
  (if okI (x1) 32 = true then
  ((f_X1_add (((u2 I (14) (x1).toNatClampNeg ((4 : Int32))) (0) 8)) (x2) ((4 : Int32)) (x1) (zI (19) (u2 I (14) (x1).toNatClampNeg ((4 : Int32))))).bind fun q12 =>
  (some ((1 : Int32), (gI (19) 6 q12 (u2 I (14) (x1).toNatClampNeg ((4 : Int32)))))))
  else none)
  else
  ((f_X4_allInAreEnded (x1) (zI (10) I)).bind fun q3 =>
  (if q3 = 0 then
  (if okI (x1) 32 = true then
  (f_X6_endsByItself_b88 LF (x1) (x2) ((x1 + (1 : Int32))) ((u2 I (14) (x1).toNatClampNeg ((2 : Int32)))))
  else none)
  else
  ((f_X4_finish (x1) (zI (10) I)).bind fun q7 =>
  ((f_X1_add (((gI (10) 9 q7 I) (0) 8)) (x2) ((3 : Int32)) (x1) (zI (19) (gI (10) 9 q7 I))).bind fun q9 =>
  (some ((1 : Int32), (gI (19) 6 q9 (gI (10) 9 q7 I)))))))))
  else none
set_option maxHeartbeats 4000000 in
set_option maxRecDepth 100000 in
theorem c_X6_endsByItself_e {z : CTX} {J : JS} (O : OK z cX6_endsByItself RX6 4 SWor 34 (rm_ 2 42) (some .boolean)) : ∀ (x1 : Int32) (x2 : Int32) (I : IS) (q : Int32 × IS), f_X6_endsByItself x1 x2 I = some q → G z 0 [(0, .ref (0)), (1, .int (x1)), (2, .int (x2))] [] I J (some (.int q.1), q.2, J) := by
  intro x1 x2 I q hF
  rw [f_X6_endsByItself] at hF
  refine g_aload_n O (pc := 0) dX6_endsByItself_0 0 rfl ?_
  refine g_getR O (pc := 1) isC_X6 dX6_endsByItself_1 fw_X6_21 (by decide) fd_SWor_0_1 ?_
  refine g_getR O (pc := 4) isC_X4 dX6_endsByItself_4 fw_X6_144 (by decide) fd_SWor_10_5 ?_
  refine g_iload_n O (pc := 7) dX6_endsByItself_7 1 rfl ?_
  obtain ⟨h1, hF⟩ := gd hF
  refine g_il O (pc := 8) dX6_endsByItself_8 ar_SWor_16 h1 ?_
  refine g_iconst O (pc := 9) dX6_endsByItself_9 (ic_1) ?_
  refine g_icmp_ne O (pc := 10) 39 dX6_endsByItself_10 (by decide) (fun h2 => ?_) (fun h2 => ?_)
  · rw [if_neg h2] at hF
    refine g_aload_n O (pc := 39) dX6_endsByItself_39 0 rfl ?_
    refine g_getR O (pc := 40) isC_X6 dX6_endsByItself_40 fw_X6_21 (by decide) fd_SWor_0_1 ?_
    refine g_iload_n O (pc := 43) dX6_endsByItself_43 1 rfl ?_
    obtain ⟨q3, e4, hF⟩ := bnd hF
    refine g_Vi O (pc := 44) (st := []) dX6_endsByItself_44 (mc_X4_allInAreEnded (zI (10) J) e4) cb_X4_allInAreEnded ml_X6_147 isC_X4 ob_STas (zm1R sub_Wor_tas _ _ _) (rmok (Nat.le_of_ble_eq_true rfl) (Nat.le_of_ble_eq_true rfl)) (Nat.le_of_ble_eq_true rfl) rfl ?_
    refine g_if_eq O (pc := 47) 74 dX6_endsByItself_47 (by decide) (fun h5 => ?_) (fun h5 => ?_)
    · rw [if_pos h5] at hF
      refine g_aload_n O (pc := 74) dX6_endsByItself_74 0 rfl ?_
      refine g_getR O (pc := 75) isC_X6 dX6_endsByItself_75 fw_X6_21 (by decide) fd_SWor_0_1 ?_
      refine g_getR O (pc := 78) isC_X4 dX6_endsByItself_78 fw_X6_77 (by decide) fd_SWor_10_3 ?_
      refine g_iload_n O (pc := 81) dX6_endsByItself_81 1 rfl ?_
      refine g_iconst O (pc := 82) dX6_endsByItself_82 (ic_2) ?_
      obtain ⟨h6, hF⟩ := gd hF
      refine g_is O (pc := 83) dX6_endsByItself_83 ar_SWor_14 h6 ?_
      refine g_iload_n O (pc := 84) dX6_endsByItself_84 1 rfl ?_
      refine g_iconst O (pc := 85) dX6_endsByItself_85 (ic_1) ?_
      refine g_iadd O (pc := 86) dX6_endsByItself_86 ?_
      refine g_istore_n O (pc := 87) (L' := [(3, .int ((x1 + (1 : Int32)))), (0, .ref (0)), (1, .int (x1)), (2, .int (x2))]) dX6_endsByItself_87 (by decide) rfl ?_
      refine g_sub [1, 2, 3, 0] (L' := [(0, .ref (0)), (1, .int (x1)), (2, .int (x2)), (3, .int ((x1 + (1 : Int32))))]) rfl ?_
      exact c_X6_endsByItself_b88 O _ _ _ _ _ _ hF
    · rw [if_neg h5] at hF
      refine g_aload_n O (pc := 50) dX6_endsByItself_50 0 rfl ?_
      refine g_getR O (pc := 51) isC_X6 dX6_endsByItself_51 fw_X6_21 (by decide) fd_SWor_0_1 ?_
      refine g_iload_n O (pc := 54) dX6_endsByItself_54 1 rfl ?_
      obtain ⟨q7, e8, hF⟩ := bnd hF
      refine g_Vv O (pc := 55) (st := []) dX6_endsByItself_55 (mc_X4_finish (zI (10) J) e8) cb_X4_finish ml_X6_150 isC_X4 ob_STas (zm1I sub_Wor_tas _ _ _ _) (rmok (Nat.le_of_ble_eq_true rfl) (Nat.le_of_ble_eq_true rfl)) (Nat.le_of_ble_eq_true rfl) rfl ?_
      refine g_aload_n O (pc := 58) dX6_endsByItself_58 0 rfl ?_
      refine g_getR O (pc := 59) isC_X6 dX6_endsByItself_59 fw_X6_28 (by decide) fd_SWor_0_2 ?_
      refine g_aload_n O (pc := 62) dX6_endsByItself_62 0 rfl ?_
      refine g_getI O (pc := 63) isC_X6 dX6_endsByItself_63 fw_X6_54 (by decide) fd_SWor_0_8 ?_
      refine g_iload_n O (pc := 66) dX6_endsByItself_66 2 rfl ?_
      refine g_iconst O (pc := 67) dX6_endsByItself_67 (ic_3) ?_
      refine g_iload_n O (pc := 68) dX6_endsByItself_68 1 rfl ?_
      obtain ⟨q9, e10, hF⟩ := bnd hF
      refine g_Vv O (pc := 69) (st := []) dX6_endsByItself_69 (mc_X1_add (zI (19) J) e10) cb_X1_add ml_X6_139 isC_X1 ob_SEnt (zm1I sub_Wor_ent _ _ _ _) (rmok (Nat.le_of_ble_eq_true rfl) (Nat.le_of_ble_eq_true rfl)) (Nat.le_of_ble_eq_true rfl) rfl ?_
      refine g_iconst O (pc := 72) dX6_endsByItself_72 (ic_1) ?_
      obtain rfl := Option.some.inj hF
      exact g_zreturn O (pc := 73) dX6_endsByItself_73 (by decide) rfl
  · rw [if_pos h2] at hF
    refine g_aload_n O (pc := 13) dX6_endsByItself_13 0 rfl ?_
    refine g_getR O (pc := 14) isC_X6 dX6_endsByItself_14 fw_X6_21 (by decide) fd_SWor_0_1 ?_
    refine g_getR O (pc := 17) isC_X4 dX6_endsByItself_17 fw_X6_77 (by decide) fd_SWor_10_3 ?_
    refine g_iload_n O (pc := 20) dX6_endsByItself_20 1 rfl ?_
    refine g_iconst O (pc := 21) dX6_endsByItself_21 (ic_4) ?_
    obtain ⟨h11, hF⟩ := gd hF
    refine g_is O (pc := 22) dX6_endsByItself_22 ar_SWor_14 h11 ?_
    refine g_aload_n O (pc := 23) dX6_endsByItself_23 0 rfl ?_
    refine g_getR O (pc := 24) isC_X6 dX6_endsByItself_24 fw_X6_28 (by decide) fd_SWor_0_2 ?_
    refine g_aload_n O (pc := 27) dX6_endsByItself_27 0 rfl ?_
    refine g_getI O (pc := 28) isC_X6 dX6_endsByItself_28 fw_X6_54 (by decide) fd_SWor_0_8 ?_
    refine g_iload_n O (pc := 31) dX6_endsByItself_31 2 rfl ?_
    refine g_iconst O (pc := 32) dX6_endsByItself_32 (ic_4) ?_
    refine g_iload_n O (pc := 33) dX6_endsByItself_33 1 rfl ?_
    obtain ⟨q12, e13, hF⟩ := bnd hF
    refine g_Vv O (pc := 34) (st := []) dX6_endsByItself_34 (mc_X1_add (zI (19) J) e13) cb_X1_add ml_X6_139 isC_X1 ob_SEnt (zm1I sub_Wor_ent _ _ _ _) (rmok (Nat.le_of_ble_eq_true rfl) (Nat.le_of_ble_eq_true rfl)) (Nat.le_of_ble_eq_true rfl) rfl ?_
    refine g_iconst O (pc := 37) dX6_endsByItself_37 (ic_1) ?_
    obtain rfl := Option.some.inj hF
    exact g_zreturn O (pc := 38) dX6_endsByItself_38 (by decide) rfl

theorem mc_X6_endsByItself {x1 : Int32} {x2 : Int32} {I : IS} (J : JS) {q : Int32 × IS} (hF : f_X6_endsByItself x1 x2 I = some q) : MC yX6_endsByItself cX6_endsByItself 4 (some .boolean) (rm_ 2 42) SWor 34 [.ref (0), .int (x1), .int (x2)] I J (some (.int q.1), q.2, J) :=
  mc_of pn_X6 (Nat.le_of_ble_eq_true rfl) (fun z O => c_X6_endsByItself_e O _ _ _ _ hF)

def f_X6_takeOne_b70 (x1 : Int32) (r2 : Nat) (x3 : Int32) (x4 : Int32) (I : IS) : Option (IS) :=
  (f_X4_has (x3) (zI (10) I)).bind fun q1 =>
  (if q1 = 0 then
  (some (I))
  else
  (if okI (x3) 32 = true then
  ((f_X1_add (((u2 (u2 I (gArm (r2)) 2 (x3)) (14) (x3).toNatClampNeg ((1 : Int32))) (0) 8)) (x1) (x4) (x3) (zI (19) (u2 (u2 I (gArm (r2)) 2 (x3)) (14) (x3).toNatClampNeg ((1 : Int32))))).bind fun q5 =>
  (some ((gI (19) 6 q5 (u2 (u2 I (gArm (r2)) 2 (x3)) (14) (x3).toNatClampNeg ((1 : Int32)))))))
  else none))
set_option maxHeartbeats 4000000 in
set_option maxRecDepth 100000 in
theorem c_X6_takeOne_b70 {z : CTX} {J : JS} (O : OK z cX6_takeOne RX6 6 SWor 34 (rm_ 2 44) none) : ∀ (x1 : Int32) (r2 : Nat) (x3 : Int32) (x4 : Int32) (I : IS) (q : IS), f_X6_takeOne_b70 x1 r2 x3 x4 I = some q → G z 70 [(0, .ref (0)), (1, .int (x1)), (2, .ref (gArm (r2))), (3, .int (x3)), (4, .int (x4))] [] I J (none, q, J) := by
  intro x1 r2 x3 x4 I q hF
  rw [f_X6_takeOne_b70] at hF
  refine g_aload_n O (pc := 70) dX6_takeOne_70 0 rfl ?_
  refine g_getR O (pc := 71) isC_X6 dX6_takeOne_71 fw_X6_21 (by decide) fd_SWor_0_1 ?_
  refine g_iload_n O (pc := 74) dX6_takeOne_74 3 rfl ?_
  obtain ⟨q1, e2, hF⟩ := bnd hF
  refine g_Vi O (pc := 75) (st := []) dX6_takeOne_75 (mc_X4_has (zI (10) J) e2) cb_X4_has ml_X6_73 isC_X4 ob_STas (zm1R sub_Wor_tas _ _ _) (rmok (Nat.le_of_ble_eq_true rfl) (Nat.le_of_ble_eq_true rfl)) (Nat.le_of_ble_eq_true rfl) rfl ?_
  refine g_if_eq O (pc := 78) 111 dX6_takeOne_78 (by decide) (fun h3 => ?_) (fun h3 => ?_)
  · rw [if_pos h3] at hF
    obtain rfl := Option.some.inj hF
    exact g_return O (pc := 111) dX6_takeOne_111 rfl
  · rw [if_neg h3] at hF
    refine g_aload_n O (pc := 81) dX6_takeOne_81 2 rfl ?_
    refine g_iload_n O (pc := 82) dX6_takeOne_82 3 rfl ?_
    refine g_putI O (pc := 83) isC_X0 isT_X0 dX6_takeOne_83 fw_X6_70 (by decide) rfl rfl (fd_SWor_gArm_2 (r2)) ?_
    refine g_aload_n O (pc := 86) dX6_takeOne_86 0 rfl ?_
    refine g_getR O (pc := 87) isC_X6 dX6_takeOne_87 fw_X6_21 (by decide) fd_SWor_0_1 ?_
    refine g_getR O (pc := 90) isC_X4 dX6_takeOne_90 fw_X6_77 (by decide) fd_SWor_10_3 ?_
    refine g_iload_n O (pc := 93) dX6_takeOne_93 3 rfl ?_
    refine g_iconst O (pc := 94) dX6_takeOne_94 (ic_1) ?_
    obtain ⟨h4, hF⟩ := gd hF
    refine g_is O (pc := 95) dX6_takeOne_95 ar_SWor_14 h4 ?_
    refine g_aload_n O (pc := 96) dX6_takeOne_96 0 rfl ?_
    refine g_getR O (pc := 97) isC_X6 dX6_takeOne_97 fw_X6_28 (by decide) fd_SWor_0_2 ?_
    refine g_aload_n O (pc := 100) dX6_takeOne_100 0 rfl ?_
    refine g_getI O (pc := 101) isC_X6 dX6_takeOne_101 fw_X6_54 (by decide) fd_SWor_0_8 ?_
    refine g_iload_n O (pc := 104) dX6_takeOne_104 1 rfl ?_
    refine g_iload O (pc := 105) dX6_takeOne_105 4 rfl ?_
    refine g_iload_n O (pc := 107) dX6_takeOne_107 3 rfl ?_
    obtain ⟨q5, e6, hF⟩ := bnd hF
    refine g_Vv O (pc := 108) (st := []) dX6_takeOne_108 (mc_X1_add (zI (19) J) e6) cb_X1_add ml_X6_139 isC_X1 ob_SEnt (zm1I sub_Wor_ent _ _ _ _) (rmok (Nat.le_of_ble_eq_true rfl) (Nat.le_of_ble_eq_true rfl)) (Nat.le_of_ble_eq_true rfl) rfl ?_
    obtain rfl := Option.some.inj hF
    exact g_return O (pc := 111) dX6_takeOne_111 rfl

def f_X6_takeOne (x1 : Int32) (I : IS) : Option (IS) :=
  if okI (x1) 4 = true then
  ((f_X0_takeNear (zI (gArm ((x1).toNatClampNeg)) I)).bind fun q2 =>
  (if q2.1 = (-5 : Int32) then
  ((f_X6_drawnArm (x1) (gI (gArm ((x1).toNatClampNeg)) 2 q2.2 I)).bind fun q5 =>
  (if q5.1 = (-5 : Int32) then
  (some ((u2 q5.2 (gArm ((x1).toNatClampNeg)) 3 (((q5.2 (gArm ((x1).toNatClampNeg)) 3) + (1 : Int32))))))
  else
  (if okI (q5.1) 4 = true then
  ((f_X0_takeFar (zI (gArm ((q5.1).toNatClampNeg)) q5.2)).bind fun q9 =>
  ((some (u2 (gI (gArm ((q5.1).toNatClampNeg)) 2 q9.2 q5.2) (gArm ((x1).toNatClampNeg)) 4 ((((gI (gArm ((q5.1).toNatClampNeg)) 2 q9.2 q5.2) (gArm ((x1).toNatClampNeg)) 4) + (1 : Int32))))).bind fun I11 =>
  (f_X6_takeOne_b70 (x1) ((x1).toNatClampNeg) (q9.1) ((1 : Int32)) (I11))))
  else none)))
  else
  (f_X6_takeOne_b70 (x1) ((x1).toNatClampNeg) (q2.1) ((0 : Int32)) ((gI (gArm ((x1).toNatClampNeg)) 2 q2.2 I)))))
  else none
set_option maxHeartbeats 4000000 in
set_option maxRecDepth 100000 in
theorem c_X6_takeOne_e {z : CTX} {J : JS} (O : OK z cX6_takeOne RX6 6 SWor 34 (rm_ 2 44) none) : ∀ (x1 : Int32) (I : IS) (q : IS), f_X6_takeOne x1 I = some q → G z 0 [(0, .ref (0)), (1, .int (x1))] [] I J (none, q, J) := by
  intro x1 I q hF
  rw [f_X6_takeOne] at hF
  refine g_aload_n O (pc := 0) dX6_takeOne_0 0 rfl ?_
  refine g_getR O (pc := 1) isC_X6 dX6_takeOne_1 fw_X6_11 (by decide) fd_SWor_0_0 ?_
  refine g_iload_n O (pc := 4) dX6_takeOne_4 1 rfl ?_
  obtain ⟨h1, hF⟩ := gd hF
  refine g_al O (pc := 5) dX6_takeOne_5 rr_SWor_1 (Or.inl rfl) h1 ?_
  refine g_astore_n O (pc := 6) (L' := [(2, .ref (gArm ((x1).toNatClampNeg))), (0, .ref (0)), (1, .int (x1))]) dX6_takeOne_6 (by decide) rfl ?_
  refine g_aload_n O (pc := 7) dX6_takeOne_7 0 rfl ?_
  obtain ⟨q2, e3, hF⟩ := bnd hF
  refine g_Vi O (pc := 8) (st := []) dX6_takeOne_8 (mc_X0_takeNear (zI (gArm ((x1).toNatClampNeg)) J) e3) cb_X0_takeNear ml_X6_123 isC_X0 ob_SArm (zm1I (sub_Wor_arm ((x1).toNatClampNeg)) _ _ _ _) (rmok (Nat.le_of_ble_eq_true rfl) (Nat.le_of_ble_eq_true rfl)) (Nat.le_of_ble_eq_true rfl) rfl ?_
  refine g_istore_n O (pc := 11) (L' := [(3, .int (q2.1)), (2, .ref (gArm ((x1).toNatClampNeg))), (0, .ref (0)), (1, .int (x1))]) dX6_takeOne_11 (by decide) rfl ?_
  refine g_iconst O (pc := 12) dX6_takeOne_12 (ic_0) ?_
  refine g_istore O (pc := 13) (L' := [(4, .int ((0 : Int32))), (3, .int (q2.1)), (2, .ref (gArm ((x1).toNatClampNeg))), (0, .ref (0)), (1, .int (x1))]) dX6_takeOne_13 (by decide) rfl ?_
  refine g_iload_n O (pc := 15) dX6_takeOne_15 1 rfl ?_
  refine g_bipush O (pc := 16) dX6_takeOne_16 bp_m5 ?_
  refine g_icmp_ne O (pc := 18) 70 dX6_takeOne_18 (by decide) (fun h4 => ?_) (fun h4 => ?_)
  · rw [if_neg h4] at hF
    refine g_sub [3, 4, 2, 1, 0] (L' := [(0, .ref (0)), (1, .int (x1)), (2, .ref (gArm ((x1).toNatClampNeg))), (3, .int (q2.1)), (4, .int ((0 : Int32)))]) rfl ?_
    exact c_X6_takeOne_b70 O _ _ _ _ _ _ hF
  · rw [if_pos h4] at hF
    refine g_aload_n O (pc := 21) dX6_takeOne_21 3 rfl ?_
    refine g_iload_n O (pc := 22) dX6_takeOne_22 4 rfl ?_
    obtain ⟨q5, e6, hF⟩ := bnd hF
    refine g_Vi O (pc := 23) (st := []) dX6_takeOne_23 (mc_X6_drawnArm J e6) cb_X6_drawnArm ml_X6_127 isC_X6 ob_SWor (zm0 _ _ _ _ _ _ _) (rmok (Nat.le_of_ble_eq_true rfl) (Nat.le_of_ble_eq_true rfl)) (Nat.le_of_ble_eq_true rfl) rfl ?_
    refine g_istore O (pc := 26) (L' := [(5, .int (q5.1)), (4, .int ((0 : Int32))), (3, .int (q2.1)), (2, .ref (gArm ((x1).toNatClampNeg))), (0, .ref (0)), (1, .int (x1))]) dX6_takeOne_26 (by decide) rfl ?_
    refine g_iload O (pc := 28) dX6_takeOne_28 0 rfl ?_
    refine g_bipush O (pc := 30) dX6_takeOne_30 bp_m5 ?_
    refine g_icmp_ne O (pc := 32) 46 dX6_takeOne_32 (by decide) (fun h7 => ?_) (fun h7 => ?_)
    · rw [if_neg h7] at hF
      refine g_aload_n O (pc := 46) dX6_takeOne_46 4 rfl ?_
      refine g_getR O (pc := 47) isC_X6 dX6_takeOne_47 fw_X6_11 (by decide) fd_SWor_0_0 ?_
      refine g_iload O (pc := 50) dX6_takeOne_50 0 rfl ?_
      obtain ⟨h8, hF⟩ := gd hF
      refine g_al O (pc := 52) dX6_takeOne_52 rr_SWor_1 (Or.inl rfl) h8 ?_
      obtain ⟨q9, e10, hF⟩ := bnd hF
      refine g_Vi O (pc := 53) (st := []) dX6_takeOne_53 (mc_X0_takeFar (zI (gArm ((q5.1).toNatClampNeg)) J) e10) cb_X0_takeFar ml_X6_133 isC_X0 ob_SArm (zm1I (sub_Wor_arm ((q5.1).toNatClampNeg)) _ _ _ _) (rmok (Nat.le_of_ble_eq_true rfl) (Nat.le_of_ble_eq_true rfl)) (Nat.le_of_ble_eq_true rfl) rfl ?_
      refine g_istore_n O (pc := 56) (L' := [(3, .int (q9.1)), (5, .int (q5.1)), (4, .int ((0 : Int32))), (2, .ref (gArm ((x1).toNatClampNeg))), (0, .ref (0)), (1, .int (x1))]) dX6_takeOne_56 (by decide) rfl ?_
      refine g_aload_n O (pc := 57) dX6_takeOne_57 3 rfl ?_
      refine g_dup O (pc := 58) dX6_takeOne_58 rfl ?_
      refine g_getI O (pc := 59) isC_X0 dX6_takeOne_59 fw_X6_136 (by decide) (fd_SWor_gArm_4 ((x1).toNatClampNeg)) ?_
      refine g_iconst O (pc := 62) dX6_takeOne_62 (ic_1) ?_
      refine g_iadd O (pc := 63) dX6_takeOne_63 ?_
      refine g_putI O (pc := 64) isC_X0 isT_X0 dX6_takeOne_64 fw_X6_136 (by decide) rfl rfl (fd_SWor_gArm_4 ((x1).toNatClampNeg)) ?_
      obtain ⟨I11, g12, hF⟩ := bnd hF
      refine g_nmI (Option.some.inj g12) ?_
      refine g_iconst O (pc := 67) dX6_takeOne_67 (ic_1) ?_
      refine g_istore O (pc := 68) (L' := [(4, .int ((1 : Int32))), (3, .int (q9.1)), (5, .int (q5.1)), (2, .ref (gArm ((x1).toNatClampNeg))), (0, .ref (0)), (1, .int (x1))]) dX6_takeOne_68 (by decide) rfl ?_
      refine g_sub [4, 5, 3, 1, 0] (L' := [(0, .ref (0)), (1, .int (x1)), (2, .ref (gArm ((x1).toNatClampNeg))), (3, .int (q9.1)), (4, .int ((1 : Int32)))]) rfl ?_
      exact c_X6_takeOne_b70 O _ _ _ _ _ _ hF
    · rw [if_pos h7] at hF
      refine g_aload_n O (pc := 35) dX6_takeOne_35 3 rfl ?_
      refine g_dup O (pc := 36) dX6_takeOne_36 rfl ?_
      refine g_getI O (pc := 37) isC_X0 dX6_takeOne_37 fw_X6_130 (by decide) (fd_SWor_gArm_3 ((x1).toNatClampNeg)) ?_
      refine g_iconst O (pc := 40) dX6_takeOne_40 (ic_1) ?_
      refine g_iadd O (pc := 41) dX6_takeOne_41 ?_
      refine g_putI O (pc := 42) isC_X0 isT_X0 dX6_takeOne_42 fw_X6_130 (by decide) rfl rfl (fd_SWor_gArm_3 ((x1).toNatClampNeg)) ?_
      obtain rfl := Option.some.inj hF
      exact g_return O (pc := 45) dX6_takeOne_45 rfl

theorem mc_X6_takeOne {x1 : Int32} {I : IS} (J : JS) {q : IS} (hF : f_X6_takeOne x1 I = some q) : MC yX6_takeOne cX6_takeOne 6 none (rm_ 2 44) SWor 34 [.ref (0), .int (x1)] I J (none, q, J) :=
  mc_of pn_X6 (Nat.le_of_ble_eq_true rfl) (fun z O => c_X6_takeOne_e O _ _ _ hF)

def f_X6_goRound_b75 (k2 : Int32 → IS → Option (IS)) (x1 : Int32) (I : IS) : Option (IS) :=
  k2 (x1 + (1 : Int32)) (I)
set_option maxHeartbeats 4000000 in
set_option maxRecDepth 100000 in
theorem c_X6_goRound_b75 {z : CTX} {J : JS} (O : OK z cX6_goRound RX6 3 SWor 34 (rm_ 3 74) none) {k2 : Int32 → IS → Option (IS)} (hk2 : ∀ (x1 : Int32) (I : IS) (q : IS), k2 x1 I = some q → G z 2 [(0, .ref (0)), (1, .int (x1))] [] I J (none, q, J)) : ∀ (x1 : Int32) (I : IS) (q : IS), f_X6_goRound_b75 k2 x1 I = some q → G z 75 [(0, .ref (0)), (1, .int (x1))] [] I J (none, q, J) := by
  intro x1 I q hF
  rw [f_X6_goRound_b75] at hF
  refine g_iinc O (pc := 75) (v := x1 + (1 : Int32)) (L' := [(1, .int (x1 + (1 : Int32))), (0, .ref (0))]) dX6_goRound_75 1 rfl rfl (by decide) rfl ?_
  refine g_goto O (pc := 78) 2 dX6_goRound_78 (by decide) ?_
  refine g_sub [1, 0] (L' := [(0, .ref (0)), (1, .int (x1 + (1 : Int32)))]) rfl ?_
  exact hk2 _ _ _ hF

def f_X6_goRound_b2 : Nat → Int32 → IS → Option (IS)
  | 0, _, _ => none
  | fu + 1, x1, I =>
    if (I (0) 6) ≤ x1 then
    (some ((u2 I (0) 8 (((I (0) 8) + (1 : Int32))))))
    else
    (if okI (x1) 4 = true then
    ((f_X4_has ((I (gArm ((x1).toNatClampNeg)) 2)) (zI (10) I)).bind fun q3 =>
    (if q3 = 0 then
    ((f_X6_takeOne (x1) I).bind fun q15 =>
    (f_X6_goRound_b75 (f_X6_goRound_b2 fu) (x1) (q15)))
    else
    ((f_X4_lessLeft ((I (gArm ((x1).toNatClampNeg)) 2)) (zI (10) I)).bind fun q6 =>
    (if q6.1 = 0 then
    (if okI (x1) 4 = true then
    ((f_X6_endsByItself ((I (gArm ((x1).toNatClampNeg)) 2)) (x1) (u2 (gI (10) 9 q6.2 I) (gArm ((x1).toNatClampNeg)) 2 ((-5 : Int32)))).bind fun q10 =>
    (if q10.1 = 0 then
    (f_X6_goRound_b75 (f_X6_goRound_b2 fu) (x1) (q10.2))
    else
    ((f_X6_tellUpward ((I (gArm ((x1).toNatClampNeg)) 2)) q10.2).bind fun q13 =>
    (f_X6_goRound_b75 (f_X6_goRound_b2 fu) (x1) (q13)))))
    else none)
    else
    (f_X6_goRound_b75 (f_X6_goRound_b2 fu) (x1) ((gI (10) 9 q6.2 I)))))))
    else none)
set_option maxHeartbeats 4000000 in
set_option maxRecDepth 100000 in
theorem c_X6_goRound_b2 {z : CTX} {J : JS} (O : OK z cX6_goRound RX6 3 SWor 34 (rm_ 3 74) none) : ∀ (fu : Nat) (x1 : Int32) (I : IS) (q : IS), f_X6_goRound_b2 fu x1 I = some q → G z 2 [(0, .ref (0)), (1, .int (x1))] [] I J (none, q, J) := by
  intro fu
  induction fu with
  | zero =>
    intro x1 I q hF
    cases hF
  | succ fu ih =>
    intro x1 I q hF
    rw [f_X6_goRound_b2] at hF
    refine g_iload_n O (pc := 2) dX6_goRound_2 1 rfl ?_
    refine g_aload_n O (pc := 3) dX6_goRound_3 0 rfl ?_
    refine g_getI O (pc := 4) isC_X6 dX6_goRound_4 fw_X6_47 (by decide) fd_SWor_0_6 ?_
    refine g_icmp_ge O (pc := 7) 81 dX6_goRound_7 (by decide) (fun h1 => ?_) (fun h1 => ?_)
    · rw [if_pos h1] at hF
      refine g_aload_n O (pc := 81) dX6_goRound_81 0 rfl ?_
      refine g_dup O (pc := 82) dX6_goRound_82 rfl ?_
      refine g_getI O (pc := 83) isC_X6 dX6_goRound_83 fw_X6_54 (by decide) fd_SWor_0_8 ?_
      refine g_iconst O (pc := 86) dX6_goRound_86 (ic_1) ?_
      refine g_iadd O (pc := 87) dX6_goRound_87 ?_
      refine g_putI O (pc := 88) isC_X6 isT_X6 dX6_goRound_88 fw_X6_54 (by decide) rfl rfl fd_SWor_0_8 ?_
      obtain rfl := Option.some.inj hF
      exact g_return O (pc := 91) dX6_goRound_91 rfl
    · rw [if_neg h1] at hF
      refine g_aload_n O (pc := 10) dX6_goRound_10 0 rfl ?_
      refine g_getR O (pc := 11) isC_X6 dX6_goRound_11 fw_X6_11 (by decide) fd_SWor_0_0 ?_
      refine g_iload_n O (pc := 14) dX6_goRound_14 1 rfl ?_
      obtain ⟨h2, hF⟩ := gd hF
      refine g_al O (pc := 15) dX6_goRound_15 rr_SWor_1 (Or.inl rfl) h2 ?_
      refine g_getI O (pc := 16) isC_X0 dX6_goRound_16 fw_X6_70 (by decide) (fd_SWor_gArm_2 ((x1).toNatClampNeg)) ?_
      refine g_istore_n O (pc := 19) (L' := [(2, .int ((I (gArm ((x1).toNatClampNeg)) 2))), (0, .ref (0)), (1, .int (x1))]) dX6_goRound_19 (by decide) rfl ?_
      refine g_aload_n O (pc := 20) dX6_goRound_20 1 rfl ?_
      refine g_getR O (pc := 21) isC_X6 dX6_goRound_21 fw_X6_21 (by decide) fd_SWor_0_1 ?_
      refine g_iload_n O (pc := 24) dX6_goRound_24 0 rfl ?_
      obtain ⟨q3, e4, hF⟩ := bnd hF
      refine g_Vi O (pc := 25) (st := []) dX6_goRound_25 (mc_X4_has (zI (10) J) e4) cb_X4_has ml_X6_73 isC_X4 ob_STas (zm1R sub_Wor_tas _ _ _) (rmok (Nat.le_of_ble_eq_true rfl) (Nat.le_of_ble_eq_true rfl)) (Nat.le_of_ble_eq_true rfl) rfl ?_
      refine g_if_ne O (pc := 28) 39 dX6_goRound_28 (by decide) (fun h5 => ?_) (fun h5 => ?_)
      · rw [if_neg h5] at hF
        refine g_aload_n O (pc := 39) dX6_goRound_39 1 rfl ?_
        refine g_getR O (pc := 40) isC_X6 dX6_goRound_40 fw_X6_21 (by decide) fd_SWor_0_1 ?_
        refine g_iload_n O (pc := 43) dX6_goRound_43 0 rfl ?_
        obtain ⟨q6, e7, hF⟩ := bnd hF
        refine g_Vi O (pc := 44) (st := []) dX6_goRound_44 (mc_X4_lessLeft (zI (10) J) e7) cb_X4_lessLeft ml_X6_113 isC_X4 ob_STas (zm1I sub_Wor_tas _ _ _ _) (rmok (Nat.le_of_ble_eq_true rfl) (Nat.le_of_ble_eq_true rfl)) (Nat.le_of_ble_eq_true rfl) rfl ?_
        refine g_if_ne O (pc := 47) 75 dX6_goRound_47 (by decide) (fun h8 => ?_) (fun h8 => ?_)
        · rw [if_neg h8] at hF
          refine g_sub [1, 2] (L' := [(0, .ref (0)), (1, .int (x1))]) rfl ?_
          exact c_X6_goRound_b75 O ih _ _ _ hF
        · rw [if_pos h8] at hF
          refine g_aload_n O (pc := 50) dX6_goRound_50 1 rfl ?_
          refine g_getR O (pc := 51) isC_X6 dX6_goRound_51 fw_X6_11 (by decide) fd_SWor_0_0 ?_
          refine g_iload_n O (pc := 54) dX6_goRound_54 2 rfl ?_
          obtain ⟨h9, hF⟩ := gd hF
          refine g_al O (pc := 55) dX6_goRound_55 rr_SWor_1 (Or.inl rfl) h9 ?_
          refine g_bipush O (pc := 56) dX6_goRound_56 bp_m5 ?_
          refine g_putI O (pc := 58) isC_X0 isT_X0 dX6_goRound_58 fw_X6_70 (by decide) rfl rfl (fd_SWor_gArm_2 ((x1).toNatClampNeg)) ?_
          refine g_aload_n O (pc := 61) dX6_goRound_61 1 rfl ?_
          refine g_iload_n O (pc := 62) dX6_goRound_62 0 rfl ?_
          refine g_iload_n O (pc := 63) dX6_goRound_63 2 rfl ?_
          obtain ⟨q10, e11, hF⟩ := bnd hF
          refine g_Vi O (pc := 64) (st := []) dX6_goRound_64 (mc_X6_endsByItself J e11) cb_X6_endsByItself ml_X6_116 isC_X6 ob_SWor (zm0 _ _ _ _ _ _ _) (rmok (Nat.le_of_ble_eq_true rfl) (Nat.le_of_ble_eq_true rfl)) (Nat.le_of_ble_eq_true rfl) rfl ?_
          refine g_if_eq O (pc := 67) 75 dX6_goRound_67 (by decide) (fun h12 => ?_) (fun h12 => ?_)
          · rw [if_pos h12] at hF
            refine g_sub [1, 2] (L' := [(0, .ref (0)), (1, .int (x1))]) rfl ?_
            exact c_X6_goRound_b75 O ih _ _ _ hF
          · rw [if_neg h12] at hF
            refine g_aload_n O (pc := 70) dX6_goRound_70 1 rfl ?_
            refine g_iload_n O (pc := 71) dX6_goRound_71 0 rfl ?_
            obtain ⟨q13, e14, hF⟩ := bnd hF
            refine g_Vv O (pc := 72) (st := []) dX6_goRound_72 (mc_X6_tellUpward J e14) cb_X6_tellUpward ml_X6_120 isC_X6 ob_SWor (zm0 _ _ _ _ _ _ _) (rmok (Nat.le_of_ble_eq_true rfl) (Nat.le_of_ble_eq_true rfl)) (Nat.le_of_ble_eq_true rfl) rfl ?_
            refine g_sub [1, 2] (L' := [(0, .ref (0)), (1, .int (x1))]) rfl ?_
            exact c_X6_goRound_b75 O ih _ _ _ hF
      · rw [if_pos h5] at hF
        refine g_aload_n O (pc := 31) dX6_goRound_31 1 rfl ?_
        refine g_iload_n O (pc := 32) dX6_goRound_32 2 rfl ?_
        obtain ⟨q15, e16, hF⟩ := bnd hF
        refine g_Vv O (pc := 33) (st := []) dX6_goRound_33 (mc_X6_takeOne J e16) cb_X6_takeOne ml_X6_110 isC_X6 ob_SWor (zm0 _ _ _ _ _ _ _) (rmok (Nat.le_of_ble_eq_true rfl) (Nat.le_of_ble_eq_true rfl)) (Nat.le_of_ble_eq_true rfl) rfl ?_
        refine g_goto O (pc := 36) 75 dX6_goRound_36 (by decide) ?_
        refine g_sub [1, 2] (L' := [(0, .ref (0)), (1, .int (x1))]) rfl ?_
        exact c_X6_goRound_b75 O ih _ _ _ hF

def f_X6_goRound (I : IS) : Option (IS) :=
  f_X6_goRound_b2 LF ((0 : Int32)) (I)
set_option maxHeartbeats 4000000 in
set_option maxRecDepth 100000 in
theorem c_X6_goRound_e {z : CTX} {J : JS} (O : OK z cX6_goRound RX6 3 SWor 34 (rm_ 3 74) none) : ∀ (I : IS) (q : IS), f_X6_goRound I = some q → G z 0 [(0, .ref (0))] [] I J (none, q, J) := by
  intro I q hF
  rw [f_X6_goRound] at hF
  refine g_iconst O (pc := 0) dX6_goRound_0 (ic_0) ?_
  refine g_istore_n O (pc := 1) (L' := [(1, .int ((0 : Int32))), (0, .ref (0))]) dX6_goRound_1 (by decide) rfl ?_
  refine g_sub [1, 0] (L' := [(0, .ref (0)), (1, .int ((0 : Int32)))]) rfl ?_
  exact c_X6_goRound_b2 O _ _ _ _ hF

theorem mc_X6_goRound {I : IS} (J : JS) {q : IS} (hF : f_X6_goRound I = some q) : MC yX6_goRound cX6_goRound 3 none (rm_ 3 74) SWor 34 [.ref (0)] I J (none, q, J) :=
  mc_of pn_X6 (Nat.le_of_ble_eq_true rfl) (fun z O => c_X6_goRound_e O _ _ hF)

def f_X6_goAsPlanned (x1 : Int32) (x2 : Int32) (I : IS) : Option (IS) :=
  if x1 = 0 then
  ((f_X6_goRound I).bind fun q11 =>
  (some (q11)))
  else
  (if x1 = (2 : Int32) then
  (some ((u2 I (0) 7 (x2))))
  else
  ((f_X4_has (x2) (zI (10) I)).bind fun q3 =>
  (if q3 = 0 then
  (some (I))
  else
  ((f_X4_isEnded (x2) (zI (10) I)).bind fun q6 =>
  (if q6 = 0 then
  ((f_X6_cancelByHand (x2) I).bind fun q9 =>
  (some (q9.2)))
  else
  (some (I)))))))
set_option maxHeartbeats 4000000 in
set_option maxRecDepth 100000 in
theorem c_X6_goAsPlanned_e {z : CTX} {J : JS} (O : OK z cX6_goAsPlanned RX6 3 SWor 34 (rm_ 4 96) none) : ∀ (x1 : Int32) (x2 : Int32) (I : IS) (q : IS), f_X6_goAsPlanned x1 x2 I = some q → G z 0 [(0, .ref (0)), (1, .int (x1)), (2, .int (x2))] [] I J (none, q, J) := by
  intro x1 x2 I q hF
  rw [f_X6_goAsPlanned] at hF
  refine g_iload_n O (pc := 0) dX6_goAsPlanned_0 1 rfl ?_
  refine g_if_ne O (pc := 1) 11 dX6_goAsPlanned_1 (by decide) (fun h1 => ?_) (fun h1 => ?_)
  · rw [if_neg h1] at hF
    refine g_iload_n O (pc := 11) dX6_goAsPlanned_11 1 rfl ?_
    refine g_iconst O (pc := 12) dX6_goAsPlanned_12 (ic_2) ?_
    refine g_icmp_ne O (pc := 13) 24 dX6_goAsPlanned_13 (by decide) (fun h2 => ?_) (fun h2 => ?_)
    · rw [if_neg h2] at hF
      refine g_aload_n O (pc := 24) dX6_goAsPlanned_24 0 rfl ?_
      refine g_getR O (pc := 25) isC_X6 dX6_goAsPlanned_25 fw_X6_21 (by decide) fd_SWor_0_1 ?_
      refine g_iload_n O (pc := 28) dX6_goAsPlanned_28 2 rfl ?_
      obtain ⟨q3, e4, hF⟩ := bnd hF
      refine g_Vi O (pc := 29) (st := []) dX6_goAsPlanned_29 (mc_X4_has (zI (10) J) e4) cb_X4_has ml_X6_73 isC_X4 ob_STas (zm1R sub_Wor_tas _ _ _) (rmok (Nat.le_of_ble_eq_true rfl) (Nat.le_of_ble_eq_true rfl)) (Nat.le_of_ble_eq_true rfl) rfl ?_
      refine g_if_eq O (pc := 32) 52 dX6_goAsPlanned_32 (by decide) (fun h5 => ?_) (fun h5 => ?_)
      · rw [if_pos h5] at hF
        obtain rfl := Option.some.inj hF
        exact g_return O (pc := 52) dX6_goAsPlanned_52 rfl
      · rw [if_neg h5] at hF
        refine g_aload_n O (pc := 35) dX6_goAsPlanned_35 0 rfl ?_
        refine g_getR O (pc := 36) isC_X6 dX6_goAsPlanned_36 fw_X6_21 (by decide) fd_SWor_0_1 ?_
        refine g_iload_n O (pc := 39) dX6_goAsPlanned_39 2 rfl ?_
        obtain ⟨q6, e7, hF⟩ := bnd hF
        refine g_Vi O (pc := 40) (st := []) dX6_goAsPlanned_40 (mc_X4_isEnded (zI (10) J) e7) cb_X4_isEnded ml_X6_103 isC_X4 ob_STas (zm1R sub_Wor_tas _ _ _) (rmok (Nat.le_of_ble_eq_true rfl) (Nat.le_of_ble_eq_true rfl)) (Nat.le_of_ble_eq_true rfl) rfl ?_
        refine g_if_ne O (pc := 43) 52 dX6_goAsPlanned_43 (by decide) (fun h8 => ?_) (fun h8 => ?_)
        · rw [if_neg h8] at hF
          obtain rfl := Option.some.inj hF
          exact g_return O (pc := 52) dX6_goAsPlanned_52 rfl
        · rw [if_pos h8] at hF
          refine g_aload_n O (pc := 46) dX6_goAsPlanned_46 0 rfl ?_
          refine g_iload_n O (pc := 47) dX6_goAsPlanned_47 2 rfl ?_
          obtain ⟨q9, e10, hF⟩ := bnd hF
          refine g_Vi O (pc := 48) (st := []) dX6_goAsPlanned_48 (mc_X6_cancelByHand J e10) cb_X6_cancelByHand ml_X6_106 isC_X6 ob_SWor (zm0 _ _ _ _ _ _ _) (rmok (Nat.le_of_ble_eq_true rfl) (Nat.le_of_ble_eq_true rfl)) (Nat.le_of_ble_eq_true rfl) rfl ?_
          refine g_pop O (pc := 51) dX6_goAsPlanned_51 rfl ?_
          obtain rfl := Option.some.inj hF
          exact g_return O (pc := 52) dX6_goAsPlanned_52 rfl
    · rw [if_pos h2] at hF
      refine g_aload_n O (pc := 16) dX6_goAsPlanned_16 0 rfl ?_
      refine g_iload_n O (pc := 17) dX6_goAsPlanned_17 2 rfl ?_
      refine g_putI O (pc := 18) isC_X6 isT_X6 dX6_goAsPlanned_18 fw_X6_51 (by decide) rfl rfl fd_SWor_0_7 ?_
      refine g_goto O (pc := 21) 52 dX6_goAsPlanned_21 (by decide) ?_
      obtain rfl := Option.some.inj hF
      exact g_return O (pc := 52) dX6_goAsPlanned_52 rfl
  · rw [if_pos h1] at hF
    refine g_aload_n O (pc := 4) dX6_goAsPlanned_4 0 rfl ?_
    obtain ⟨q11, e12, hF⟩ := bnd hF
    refine g_Vv O (pc := 5) (st := []) dX6_goAsPlanned_5 (mc_X6_goRound J e12) cb_X6_goRound ml_X6_96 isC_X6 ob_SWor (zm0 _ _ _ _ _ _ _) (rmok (Nat.le_of_ble_eq_true rfl) (Nat.le_of_ble_eq_true rfl)) (Nat.le_of_ble_eq_true rfl) rfl ?_
    refine g_goto O (pc := 8) 52 dX6_goAsPlanned_8 (by decide) ?_
    obtain rfl := Option.some.inj hF
    exact g_return O (pc := 52) dX6_goAsPlanned_52 rfl

theorem mc_X6_goAsPlanned {x1 : Int32} {x2 : Int32} {I : IS} (J : JS) {q : IS} (hF : f_X6_goAsPlanned x1 x2 I = some q) : MC yX6_goAsPlanned cX6_goAsPlanned 3 none (rm_ 4 96) SWor 34 [.ref (0), .int (x1), .int (x2)] I J (none, q, J) :=
  mc_of pn_X6 (Nat.le_of_ble_eq_true rfl) (fun z O => c_X6_goAsPlanned_e O _ _ _ _ hF)

def f_X6_goRounds_b2 : Nat → Int32 → Int32 → IS → Option (IS)
  | 0, _, _, _ => none
  | fu + 1, x1, x2, I =>
    if x1 ≤ x2 then
    (some (I))
    else
    ((f_X6_goRound I).bind fun q2 =>
    (f_X6_goRounds_b2 fu (x1) (x2 + (1 : Int32)) (q2)))
set_option maxHeartbeats 4000000 in
set_option maxRecDepth 100000 in
theorem c_X6_goRounds_b2 {z : CTX} {J : JS} (O : OK z cX6_goRounds RX6 3 SWor 34 (rm_ 4 96) none) : ∀ (fu : Nat) (x1 : Int32) (x2 : Int32) (I : IS) (q : IS), f_X6_goRounds_b2 fu x1 x2 I = some q → G z 2 [(0, .ref (0)), (1, .int (x1)), (2, .int (x2))] [] I J (none, q, J) := by
  intro fu
  induction fu with
  | zero =>
    intro x1 x2 I q hF
    cases hF
  | succ fu ih =>
    intro x1 x2 I q hF
    rw [f_X6_goRounds_b2] at hF
    refine g_iload_n O (pc := 2) dX6_goRounds_2 2 rfl ?_
    refine g_iload_n O (pc := 3) dX6_goRounds_3 1 rfl ?_
    refine g_icmp_ge O (pc := 4) 17 dX6_goRounds_4 (by decide) (fun h1 => ?_) (fun h1 => ?_)
    · rw [if_pos h1] at hF
      obtain rfl := Option.some.inj hF
      exact g_return O (pc := 17) dX6_goRounds_17 rfl
    · rw [if_neg h1] at hF
      refine g_aload_n O (pc := 7) dX6_goRounds_7 0 rfl ?_
      obtain ⟨q2, e3, hF⟩ := bnd hF
      refine g_Vv O (pc := 8) (st := []) dX6_goRounds_8 (mc_X6_goRound J e3) cb_X6_goRound ml_X6_96 isC_X6 ob_SWor (zm0 _ _ _ _ _ _ _) (rmok (Nat.le_of_ble_eq_true rfl) (Nat.le_of_ble_eq_true rfl)) (Nat.le_of_ble_eq_true rfl) rfl ?_
      refine g_iinc O (pc := 11) (v := x2 + (1 : Int32)) (L' := [(2, .int (x2 + (1 : Int32))), (0, .ref (0)), (1, .int (x1))]) dX6_goRounds_11 2 rfl rfl (by decide) rfl ?_
      refine g_goto O (pc := 14) 2 dX6_goRounds_14 (by decide) ?_
      refine g_sub [1, 2, 0] (L' := [(0, .ref (0)), (1, .int (x1)), (2, .int (x2 + (1 : Int32)))]) rfl ?_
      exact ih _ _ _ _ hF

def f_X6_goRounds (x1 : Int32) (I : IS) : Option (IS) :=
  f_X6_goRounds_b2 LF (x1) ((0 : Int32)) (I)
set_option maxHeartbeats 4000000 in
set_option maxRecDepth 100000 in
theorem c_X6_goRounds_e {z : CTX} {J : JS} (O : OK z cX6_goRounds RX6 3 SWor 34 (rm_ 4 96) none) : ∀ (x1 : Int32) (I : IS) (q : IS), f_X6_goRounds x1 I = some q → G z 0 [(0, .ref (0)), (1, .int (x1))] [] I J (none, q, J) := by
  intro x1 I q hF
  rw [f_X6_goRounds] at hF
  refine g_iconst O (pc := 0) dX6_goRounds_0 (ic_0) ?_
  refine g_istore_n O (pc := 1) (L' := [(2, .int ((0 : Int32))), (0, .ref (0)), (1, .int (x1))]) dX6_goRounds_1 (by decide) rfl ?_
  refine g_sub [1, 2, 0] (L' := [(0, .ref (0)), (1, .int (x1)), (2, .int ((0 : Int32)))]) rfl ?_
  exact c_X6_goRounds_b2 O _ _ _ _ _ hF

theorem mc_X6_goRounds {x1 : Int32} {I : IS} (J : JS) {q : IS} (hF : f_X6_goRounds x1 I = some q) : MC yX6_goRounds cX6_goRounds 3 none (rm_ 4 96) SWor 34 [.ref (0), .int (x1)] I J (none, q, J) :=
  mc_of pn_X6 (Nat.le_of_ble_eq_true rfl) (fun z O => c_X6_goRounds_e O _ _ _ hF)

def f_X6_isOver_b46 : Nat → Int32 → IS → Option (Int32)
  | 0, _, _ => none
  | fu + 1, x1, I =>
    if (I (10) 8) ≤ x1 then
    (some ((1 : Int32)))
    else
    (if okI (x1) 32 = true then
    (if (I (14) (x1).toNatClampNeg) = (2 : Int32) then
    (some ((0 : Int32)))
    else
    (f_X6_isOver_b46 fu (x1 + (1 : Int32)) (I)))
    else none)
set_option maxHeartbeats 4000000 in
set_option maxRecDepth 100000 in
theorem c_X6_isOver_b46 {z : CTX} {J : JS} (O : OK z cX6_isOver RX6 2 SWor 34 (rm_ 0 0) (some .boolean)) : ∀ (fu : Nat) (x1 : Int32) (I : IS) (q : Int32), f_X6_isOver_b46 fu x1 I = some q → G z 46 [(0, .ref (0)), (1, .int (x1))] [] I J (some (.int q), I, J) := by
  intro fu
  induction fu with
  | zero =>
    intro x1 I q hF
    cases hF
  | succ fu ih =>
    intro x1 I q hF
    rw [f_X6_isOver_b46] at hF
    refine g_iload_n O (pc := 46) dX6_isOver_46 1 rfl ?_
    refine g_aload_n O (pc := 47) dX6_isOver_47 0 rfl ?_
    refine g_getR O (pc := 48) isC_X6 dX6_isOver_48 fw_X6_21 (by decide) fd_SWor_0_1 ?_
    refine g_getI O (pc := 51) isC_X4 dX6_isOver_51 fw_X6_93 (by decide) fd_SWor_10_8 ?_
    refine g_icmp_ge O (pc := 54) 78 dX6_isOver_54 (by decide) (fun h1 => ?_) (fun h1 => ?_)
    · rw [if_pos h1] at hF
      refine g_iconst O (pc := 78) dX6_isOver_78 (ic_1) ?_
      obtain rfl := Option.some.inj hF
      exact g_zreturn O (pc := 79) dX6_isOver_79 (by decide) rfl
    · rw [if_neg h1] at hF
      refine g_aload_n O (pc := 57) dX6_isOver_57 0 rfl ?_
      refine g_getR O (pc := 58) isC_X6 dX6_isOver_58 fw_X6_21 (by decide) fd_SWor_0_1 ?_
      refine g_getR O (pc := 61) isC_X4 dX6_isOver_61 fw_X6_77 (by decide) fd_SWor_10_3 ?_
      refine g_iload_n O (pc := 64) dX6_isOver_64 1 rfl ?_
      obtain ⟨h2, hF⟩ := gd hF
      refine g_il O (pc := 65) dX6_isOver_65 ar_SWor_14 h2 ?_
      refine g_iconst O (pc := 66) dX6_isOver_66 (ic_2) ?_
      refine g_icmp_ne O (pc := 67) 72 dX6_isOver_67 (by decide) (fun h3 => ?_) (fun h3 => ?_)
      · rw [if_neg h3] at hF
        refine g_iinc O (pc := 72) (v := x1 + (1 : Int32)) (L' := [(1, .int (x1 + (1 : Int32))), (0, .ref (0))]) dX6_isOver_72 1 rfl rfl (by decide) rfl ?_
        refine g_goto O (pc := 75) 46 dX6_isOver_75 (by decide) ?_
        refine g_sub [1, 0] (L' := [(0, .ref (0)), (1, .int (x1 + (1 : Int32)))]) rfl ?_
        exact ih _ _ _ hF
      · rw [if_pos h3] at hF
        refine g_iconst O (pc := 70) dX6_isOver_70 (ic_0) ?_
        obtain rfl := Option.some.inj hF
        exact g_zreturn O (pc := 71) dX6_isOver_71 (by decide) rfl

def f_X6_isOver_b36 (I : IS) : Option (Int32) :=
  some ((0 : Int32))
set_option maxHeartbeats 4000000 in
set_option maxRecDepth 100000 in
theorem c_X6_isOver_b36 {z : CTX} {J : JS} (O : OK z cX6_isOver RX6 2 SWor 34 (rm_ 0 0) (some .boolean)) : ∀ (I : IS) (q : Int32), f_X6_isOver_b36 I = some q → G z 36 [] [] I J (some (.int q), I, J) := by
  intro I q hF
  rw [f_X6_isOver_b36] at hF
  refine g_iconst O (pc := 36) dX6_isOver_36 (ic_0) ?_
  obtain rfl := Option.some.inj hF
  exact g_zreturn O (pc := 37) dX6_isOver_37 (by decide) rfl

def f_X6_isOver_b2 : Nat → Int32 → IS → Option (Int32)
  | 0, _, _ => none
  | fu + 1, x1, I =>
    if (I (0) 6) ≤ x1 then
    (f_X6_isOver_b46 LF ((0 : Int32)) (I))
    else
    (if okI (x1) 4 = true then
    (if 0 < (I (gArm ((x1).toNatClampNeg)) 1) then
    (f_X6_isOver_b36 (I))
    else
    (if okI (x1) 4 = true then
    (if (I (gArm ((x1).toNatClampNeg)) 2) = (-5 : Int32) then
    (f_X6_isOver_b2 fu (x1 + (1 : Int32)) (I))
    else
    (f_X6_isOver_b36 (I)))
    else none))
    else none)
set_option maxHeartbeats 4000000 in
set_option maxRecDepth 100000 in
theorem c_X6_isOver_b2 {z : CTX} {J : JS} (O : OK z cX6_isOver RX6 2 SWor 34 (rm_ 0 0) (some .boolean)) : ∀ (fu : Nat) (x1 : Int32) (I : IS) (q : Int32), f_X6_isOver_b2 fu x1 I = some q → G z 2 [(0, .ref (0)), (1, .int (x1))] [] I J (some (.int q), I, J) := by
  intro fu
  induction fu with
  | zero =>
    intro x1 I q hF
    cases hF
  | succ fu ih =>
    intro x1 I q hF
    rw [f_X6_isOver_b2] at hF
    refine g_iload_n O (pc := 2) dX6_isOver_2 1 rfl ?_
    refine g_aload_n O (pc := 3) dX6_isOver_3 0 rfl ?_
    refine g_getI O (pc := 4) isC_X6 dX6_isOver_4 fw_X6_47 (by decide) fd_SWor_0_6 ?_
    refine g_icmp_ge O (pc := 7) 44 dX6_isOver_7 (by decide) (fun h1 => ?_) (fun h1 => ?_)
    · rw [if_pos h1] at hF
      refine g_iconst O (pc := 44) dX6_isOver_44 (ic_0) ?_
      refine g_istore_n O (pc := 45) (L' := [(1, .int ((0 : Int32))), (0, .ref (0))]) dX6_isOver_45 (by decide) rfl ?_
      refine g_sub [1, 0] (L' := [(0, .ref (0)), (1, .int ((0 : Int32)))]) rfl ?_
      exact c_X6_isOver_b46 O _ _ _ _ hF
    · rw [if_neg h1] at hF
      refine g_aload_n O (pc := 10) dX6_isOver_10 0 rfl ?_
      refine g_getR O (pc := 11) isC_X6 dX6_isOver_11 fw_X6_11 (by decide) fd_SWor_0_0 ?_
      refine g_iload_n O (pc := 14) dX6_isOver_14 1 rfl ?_
      obtain ⟨h2, hF⟩ := gd hF
      refine g_al O (pc := 15) dX6_isOver_15 rr_SWor_1 (Or.inl rfl) h2 ?_
      refine g_getI O (pc := 16) isC_X0 dX6_isOver_16 fw_X6_84 (by decide) (fd_SWor_gArm_1 ((x1).toNatClampNeg)) ?_
      refine g_if_gt O (pc := 19) 36 dX6_isOver_19 (by decide) (fun h3 => ?_) (fun h3 => ?_)
      · rw [if_pos h3] at hF
        refine g_sub [] (L' := []) rfl ?_
        exact c_X6_isOver_b36 O _ _ hF
      · rw [if_neg h3] at hF
        refine g_aload_n O (pc := 22) dX6_isOver_22 0 rfl ?_
        refine g_getR O (pc := 23) isC_X6 dX6_isOver_23 fw_X6_11 (by decide) fd_SWor_0_0 ?_
        refine g_iload_n O (pc := 26) dX6_isOver_26 1 rfl ?_
        obtain ⟨h4, hF⟩ := gd hF
        refine g_al O (pc := 27) dX6_isOver_27 rr_SWor_1 (Or.inl rfl) h4 ?_
        refine g_getI O (pc := 28) isC_X0 dX6_isOver_28 fw_X6_70 (by decide) (fd_SWor_gArm_2 ((x1).toNatClampNeg)) ?_
        refine g_bipush O (pc := 31) dX6_isOver_31 bp_m5 ?_
        refine g_icmp_eq O (pc := 33) 38 dX6_isOver_33 (by decide) (fun h5 => ?_) (fun h5 => ?_)
        · rw [if_pos h5] at hF
          refine g_iinc O (pc := 38) (v := x1 + (1 : Int32)) (L' := [(1, .int (x1 + (1 : Int32))), (0, .ref (0))]) dX6_isOver_38 1 rfl rfl (by decide) rfl ?_
          refine g_goto O (pc := 41) 2 dX6_isOver_41 (by decide) ?_
          refine g_sub [1, 0] (L' := [(0, .ref (0)), (1, .int (x1 + (1 : Int32)))]) rfl ?_
          exact ih _ _ _ hF
        · rw [if_neg h5] at hF
          refine g_sub [] (L' := []) rfl ?_
          exact c_X6_isOver_b36 O _ _ hF

def f_X6_isOver (I : IS) : Option (Int32) :=
  f_X6_isOver_b2 LF ((0 : Int32)) (I)
set_option maxHeartbeats 4000000 in
set_option maxRecDepth 100000 in
theorem c_X6_isOver_e {z : CTX} {J : JS} (O : OK z cX6_isOver RX6 2 SWor 34 (rm_ 0 0) (some .boolean)) : ∀ (I : IS) (q : Int32), f_X6_isOver I = some q → G z 0 [(0, .ref (0))] [] I J (some (.int q), I, J) := by
  intro I q hF
  rw [f_X6_isOver] at hF
  refine g_iconst O (pc := 0) dX6_isOver_0 (ic_0) ?_
  refine g_istore_n O (pc := 1) (L' := [(1, .int ((0 : Int32))), (0, .ref (0))]) dX6_isOver_1 (by decide) rfl ?_
  refine g_sub [1, 0] (L' := [(0, .ref (0)), (1, .int ((0 : Int32)))]) rfl ?_
  exact c_X6_isOver_b2 O _ _ _ _ hF

theorem mc_X6_isOver {I : IS} (J : JS) {q : Int32} (hF : f_X6_isOver I = some q) : MC yX6_isOver cX6_isOver 2 (some .boolean) (rm_ 0 0) SWor 34 [.ref (0)] I J (some (.int q), I, J) :=
  mc_of pn_X6 (Nat.le_of_ble_eq_true rfl) (fun z O => c_X6_isOver_e O _ _ hF)

def f_X6_goRoundsTillOver_b2 : Nat → Int32 → Int32 → IS → Option (IS)
  | 0, _, _, _ => none
  | fu + 1, x1, x2, I =>
    if x1 ≤ x2 then
    (some (I))
    else
    ((f_X6_isOver I).bind fun q2 =>
    (if q2 = 0 then
    ((f_X6_goRound I).bind fun q5 =>
    (f_X6_goRoundsTillOver_b2 fu (x1) (x2 + (1 : Int32)) (q5)))
    else
    (some (I))))
set_option maxHeartbeats 4000000 in
set_option maxRecDepth 100000 in
theorem c_X6_goRoundsTillOver_b2 {z : CTX} {J : JS} (O : OK z cX6_goRoundsTillOver RX6 3 SWor 34 (rm_ 4 96) none) : ∀ (fu : Nat) (x1 : Int32) (x2 : Int32) (I : IS) (q : IS), f_X6_goRoundsTillOver_b2 fu x1 x2 I = some q → G z 2 [(0, .ref (0)), (1, .int (x1)), (2, .int (x2))] [] I J (none, q, J) := by
  intro fu
  induction fu with
  | zero =>
    intro x1 x2 I q hF
    cases hF
  | succ fu ih =>
    intro x1 x2 I q hF
    rw [f_X6_goRoundsTillOver_b2] at hF
    refine g_iload_n O (pc := 2) dX6_goRoundsTillOver_2 2 rfl ?_
    refine g_iload_n O (pc := 3) dX6_goRoundsTillOver_3 1 rfl ?_
    refine g_icmp_ge O (pc := 4) 24 dX6_goRoundsTillOver_4 (by decide) (fun h1 => ?_) (fun h1 => ?_)
    · rw [if_pos h1] at hF
      obtain rfl := Option.some.inj hF
      exact g_return O (pc := 24) dX6_goRoundsTillOver_24 rfl
    · rw [if_neg h1] at hF
      refine g_aload_n O (pc := 7) dX6_goRoundsTillOver_7 0 rfl ?_
      obtain ⟨q2, e3, hF⟩ := bnd hF
      refine g_Vi O (pc := 8) (st := []) dX6_goRoundsTillOver_8 (mc_X6_isOver J e3) cb_X6_isOver ml_X6_99 isC_X6 ob_SWor (zm0 _ _ _ _ _ _ _) (rmok (Nat.le_of_ble_eq_true rfl) (Nat.le_of_ble_eq_true rfl)) (Nat.le_of_ble_eq_true rfl) rfl ?_
      refine g_if_ne O (pc := 11) 24 dX6_goRoundsTillOver_11 (by decide) (fun h4 => ?_) (fun h4 => ?_)
      · rw [if_neg h4] at hF
        obtain rfl := Option.some.inj hF
        exact g_return O (pc := 24) dX6_goRoundsTillOver_24 rfl
      · rw [if_pos h4] at hF
        refine g_aload_n O (pc := 14) dX6_goRoundsTillOver_14 0 rfl ?_
        obtain ⟨q5, e6, hF⟩ := bnd hF
        refine g_Vv O (pc := 15) (st := []) dX6_goRoundsTillOver_15 (mc_X6_goRound J e6) cb_X6_goRound ml_X6_96 isC_X6 ob_SWor (zm0 _ _ _ _ _ _ _) (rmok (Nat.le_of_ble_eq_true rfl) (Nat.le_of_ble_eq_true rfl)) (Nat.le_of_ble_eq_true rfl) rfl ?_
        refine g_iinc O (pc := 18) (v := x2 + (1 : Int32)) (L' := [(2, .int (x2 + (1 : Int32))), (0, .ref (0)), (1, .int (x1))]) dX6_goRoundsTillOver_18 2 rfl rfl (by decide) rfl ?_
        refine g_goto O (pc := 21) 2 dX6_goRoundsTillOver_21 (by decide) ?_
        refine g_sub [1, 2, 0] (L' := [(0, .ref (0)), (1, .int (x1)), (2, .int (x2 + (1 : Int32)))]) rfl ?_
        exact ih _ _ _ _ hF

def f_X6_goRoundsTillOver (x1 : Int32) (I : IS) : Option (IS) :=
  f_X6_goRoundsTillOver_b2 LF (x1) ((0 : Int32)) (I)
set_option maxHeartbeats 4000000 in
set_option maxRecDepth 100000 in
theorem c_X6_goRoundsTillOver_e {z : CTX} {J : JS} (O : OK z cX6_goRoundsTillOver RX6 3 SWor 34 (rm_ 4 96) none) : ∀ (x1 : Int32) (I : IS) (q : IS), f_X6_goRoundsTillOver x1 I = some q → G z 0 [(0, .ref (0)), (1, .int (x1))] [] I J (none, q, J) := by
  intro x1 I q hF
  rw [f_X6_goRoundsTillOver] at hF
  refine g_iconst O (pc := 0) dX6_goRoundsTillOver_0 (ic_0) ?_
  refine g_istore_n O (pc := 1) (L' := [(2, .int ((0 : Int32))), (0, .ref (0)), (1, .int (x1))]) dX6_goRoundsTillOver_1 (by decide) rfl ?_
  refine g_sub [1, 2, 0] (L' := [(0, .ref (0)), (1, .int (x1)), (2, .int ((0 : Int32)))]) rfl ?_
  exact c_X6_goRoundsTillOver_b2 O _ _ _ _ _ hF

theorem mc_X6_goRoundsTillOver {x1 : Int32} {I : IS} (J : JS) {q : IS} (hF : f_X6_goRoundsTillOver x1 I = some q) : MC yX6_goRoundsTillOver cX6_goRoundsTillOver 3 none (rm_ 4 96) SWor 34 [.ref (0), .int (x1)] I J (none, q, J) :=
  mc_of pn_X6 (Nat.le_of_ble_eq_true rfl) (fun z O => c_X6_goRoundsTillOver_e O _ _ _ hF)

def f_X6_idleOfAll_b4 : Nat → Int32 → Int32 → IS → Option (Int32)
  | 0, _, _, _ => none
  | fu + 1, x1, x2, I =>
    if (I (0) 6) ≤ x2 then
    (some (x1))
    else
    (if okI (x2) 4 = true then
    (f_X6_idleOfAll_b4 fu ((x1 + (I (gArm ((x2).toNatClampNeg)) 3))) (x2 + (1 : Int32)) (I))
    else none)
set_option maxHeartbeats 4000000 in
set_option maxRecDepth 100000 in
theorem c_X6_idleOfAll_b4 {z : CTX} {J : JS} (O : OK z cX6_idleOfAll RX6 3 SWor 34 (rm_ 0 0) (some .int)) : ∀ (fu : Nat) (x1 : Int32) (x2 : Int32) (I : IS) (q : Int32), f_X6_idleOfAll_b4 fu x1 x2 I = some q → G z 4 [(0, .ref (0)), (1, .int (x1)), (2, .int (x2))] [] I J (some (.int q), I, J) := by
  intro fu
  induction fu with
  | zero =>
    intro x1 x2 I q hF
    cases hF
  | succ fu ih =>
    intro x1 x2 I q hF
    rw [f_X6_idleOfAll_b4] at hF
    refine g_iload_n O (pc := 4) dX6_idleOfAll_4 2 rfl ?_
    refine g_aload_n O (pc := 5) dX6_idleOfAll_5 0 rfl ?_
    refine g_getI O (pc := 6) isC_X6 dX6_idleOfAll_6 fw_X6_47 (by decide) fd_SWor_0_6 ?_
    refine g_icmp_ge O (pc := 9) 30 dX6_idleOfAll_9 (by decide) (fun h1 => ?_) (fun h1 => ?_)
    · rw [if_pos h1] at hF
      refine g_iload_n O (pc := 30) dX6_idleOfAll_30 1 rfl ?_
      obtain rfl := Option.some.inj hF
      exact g_ireturn O (pc := 31) dX6_idleOfAll_31 rfl
    · rw [if_neg h1] at hF
      refine g_iload_n O (pc := 12) dX6_idleOfAll_12 1 rfl ?_
      refine g_aload_n O (pc := 13) dX6_idleOfAll_13 0 rfl ?_
      refine g_getR O (pc := 14) isC_X6 dX6_idleOfAll_14 fw_X6_11 (by decide) fd_SWor_0_0 ?_
      refine g_iload_n O (pc := 17) dX6_idleOfAll_17 2 rfl ?_
      obtain ⟨h2, hF⟩ := gd hF
      refine g_al O (pc := 18) dX6_idleOfAll_18 rr_SWor_1 (Or.inl rfl) h2 ?_
      refine g_getI O (pc := 19) isC_X0 dX6_idleOfAll_19 fw_X6_130 (by decide) (fd_SWor_gArm_3 ((x2).toNatClampNeg)) ?_
      refine g_iadd O (pc := 22) dX6_idleOfAll_22 ?_
      refine g_istore_n O (pc := 23) (L' := [(1, .int ((x1 + (I (gArm ((x2).toNatClampNeg)) 3)))), (0, .ref (0)), (2, .int (x2))]) dX6_idleOfAll_23 (by decide) rfl ?_
      refine g_iinc O (pc := 24) (v := x2 + (1 : Int32)) (L' := [(2, .int (x2 + (1 : Int32))), (1, .int ((x1 + (I (gArm ((x2).toNatClampNeg)) 3)))), (0, .ref (0))]) dX6_idleOfAll_24 2 rfl rfl (by decide) rfl ?_
      refine g_goto O (pc := 27) 4 dX6_idleOfAll_27 (by decide) ?_
      refine g_sub [2, 1, 0] (L' := [(0, .ref (0)), (1, .int ((x1 + (I (gArm ((x2).toNatClampNeg)) 3)))), (2, .int (x2 + (1 : Int32)))]) rfl ?_
      exact ih _ _ _ _ hF

def f_X6_idleOfAll (I : IS) : Option (Int32) :=
  f_X6_idleOfAll_b4 LF ((0 : Int32)) ((0 : Int32)) (I)
set_option maxHeartbeats 4000000 in
set_option maxRecDepth 100000 in
theorem c_X6_idleOfAll_e {z : CTX} {J : JS} (O : OK z cX6_idleOfAll RX6 3 SWor 34 (rm_ 0 0) (some .int)) : ∀ (I : IS) (q : Int32), f_X6_idleOfAll I = some q → G z 0 [(0, .ref (0))] [] I J (some (.int q), I, J) := by
  intro I q hF
  rw [f_X6_idleOfAll] at hF
  refine g_iconst O (pc := 0) dX6_idleOfAll_0 (ic_0) ?_
  refine g_istore_n O (pc := 1) (L' := [(1, .int ((0 : Int32))), (0, .ref (0))]) dX6_idleOfAll_1 (by decide) rfl ?_
  refine g_iconst O (pc := 2) dX6_idleOfAll_2 (ic_0) ?_
  refine g_istore_n O (pc := 3) (L' := [(2, .int ((0 : Int32))), (1, .int ((0 : Int32))), (0, .ref (0))]) dX6_idleOfAll_3 (by decide) rfl ?_
  refine g_sub [2, 1, 0] (L' := [(0, .ref (0)), (1, .int ((0 : Int32))), (2, .int ((0 : Int32)))]) rfl ?_
  exact c_X6_idleOfAll_b4 O _ _ _ _ _ hF

theorem mc_X6_idleOfAll {I : IS} (J : JS) {q : Int32} (hF : f_X6_idleOfAll I = some q) : MC yX6_idleOfAll cX6_idleOfAll 3 (some .int) (rm_ 0 0) SWor 34 [.ref (0)] I J (some (.int q), I, J) :=
  mc_of pn_X6 (Nat.le_of_ble_eq_true rfl) (fun z O => c_X6_idleOfAll_e O _ _ hF)

def f_X6_stoleOfAll_b4 : Nat → Int32 → Int32 → IS → Option (Int32)
  | 0, _, _, _ => none
  | fu + 1, x1, x2, I =>
    if (I (0) 6) ≤ x2 then
    (some (x1))
    else
    (if okI (x2) 4 = true then
    (f_X6_stoleOfAll_b4 fu ((x1 + (I (gArm ((x2).toNatClampNeg)) 4))) (x2 + (1 : Int32)) (I))
    else none)
set_option maxHeartbeats 4000000 in
set_option maxRecDepth 100000 in
theorem c_X6_stoleOfAll_b4 {z : CTX} {J : JS} (O : OK z cX6_stoleOfAll RX6 3 SWor 34 (rm_ 0 0) (some .int)) : ∀ (fu : Nat) (x1 : Int32) (x2 : Int32) (I : IS) (q : Int32), f_X6_stoleOfAll_b4 fu x1 x2 I = some q → G z 4 [(0, .ref (0)), (1, .int (x1)), (2, .int (x2))] [] I J (some (.int q), I, J) := by
  intro fu
  induction fu with
  | zero =>
    intro x1 x2 I q hF
    cases hF
  | succ fu ih =>
    intro x1 x2 I q hF
    rw [f_X6_stoleOfAll_b4] at hF
    refine g_iload_n O (pc := 4) dX6_stoleOfAll_4 2 rfl ?_
    refine g_aload_n O (pc := 5) dX6_stoleOfAll_5 0 rfl ?_
    refine g_getI O (pc := 6) isC_X6 dX6_stoleOfAll_6 fw_X6_47 (by decide) fd_SWor_0_6 ?_
    refine g_icmp_ge O (pc := 9) 30 dX6_stoleOfAll_9 (by decide) (fun h1 => ?_) (fun h1 => ?_)
    · rw [if_pos h1] at hF
      refine g_iload_n O (pc := 30) dX6_stoleOfAll_30 1 rfl ?_
      obtain rfl := Option.some.inj hF
      exact g_ireturn O (pc := 31) dX6_stoleOfAll_31 rfl
    · rw [if_neg h1] at hF
      refine g_iload_n O (pc := 12) dX6_stoleOfAll_12 1 rfl ?_
      refine g_aload_n O (pc := 13) dX6_stoleOfAll_13 0 rfl ?_
      refine g_getR O (pc := 14) isC_X6 dX6_stoleOfAll_14 fw_X6_11 (by decide) fd_SWor_0_0 ?_
      refine g_iload_n O (pc := 17) dX6_stoleOfAll_17 2 rfl ?_
      obtain ⟨h2, hF⟩ := gd hF
      refine g_al O (pc := 18) dX6_stoleOfAll_18 rr_SWor_1 (Or.inl rfl) h2 ?_
      refine g_getI O (pc := 19) isC_X0 dX6_stoleOfAll_19 fw_X6_136 (by decide) (fd_SWor_gArm_4 ((x2).toNatClampNeg)) ?_
      refine g_iadd O (pc := 22) dX6_stoleOfAll_22 ?_
      refine g_istore_n O (pc := 23) (L' := [(1, .int ((x1 + (I (gArm ((x2).toNatClampNeg)) 4)))), (0, .ref (0)), (2, .int (x2))]) dX6_stoleOfAll_23 (by decide) rfl ?_
      refine g_iinc O (pc := 24) (v := x2 + (1 : Int32)) (L' := [(2, .int (x2 + (1 : Int32))), (1, .int ((x1 + (I (gArm ((x2).toNatClampNeg)) 4)))), (0, .ref (0))]) dX6_stoleOfAll_24 2 rfl rfl (by decide) rfl ?_
      refine g_goto O (pc := 27) 4 dX6_stoleOfAll_27 (by decide) ?_
      refine g_sub [2, 1, 0] (L' := [(0, .ref (0)), (1, .int ((x1 + (I (gArm ((x2).toNatClampNeg)) 4)))), (2, .int (x2 + (1 : Int32)))]) rfl ?_
      exact ih _ _ _ _ hF

def f_X6_stoleOfAll (I : IS) : Option (Int32) :=
  f_X6_stoleOfAll_b4 LF ((0 : Int32)) ((0 : Int32)) (I)
set_option maxHeartbeats 4000000 in
set_option maxRecDepth 100000 in
theorem c_X6_stoleOfAll_e {z : CTX} {J : JS} (O : OK z cX6_stoleOfAll RX6 3 SWor 34 (rm_ 0 0) (some .int)) : ∀ (I : IS) (q : Int32), f_X6_stoleOfAll I = some q → G z 0 [(0, .ref (0))] [] I J (some (.int q), I, J) := by
  intro I q hF
  rw [f_X6_stoleOfAll] at hF
  refine g_iconst O (pc := 0) dX6_stoleOfAll_0 (ic_0) ?_
  refine g_istore_n O (pc := 1) (L' := [(1, .int ((0 : Int32))), (0, .ref (0))]) dX6_stoleOfAll_1 (by decide) rfl ?_
  refine g_iconst O (pc := 2) dX6_stoleOfAll_2 (ic_0) ?_
  refine g_istore_n O (pc := 3) (L' := [(2, .int ((0 : Int32))), (1, .int ((0 : Int32))), (0, .ref (0))]) dX6_stoleOfAll_3 (by decide) rfl ?_
  refine g_sub [2, 1, 0] (L' := [(0, .ref (0)), (1, .int ((0 : Int32))), (2, .int ((0 : Int32)))]) rfl ?_
  exact c_X6_stoleOfAll_b4 O _ _ _ _ _ hF

theorem mc_X6_stoleOfAll {I : IS} (J : JS) {q : Int32} (hF : f_X6_stoleOfAll I = some q) : MC yX6_stoleOfAll cX6_stoleOfAll 3 (some .int) (rm_ 0 0) SWor 34 [.ref (0)] I J (some (.int q), I, J) :=
  mc_of pn_X6 (Nat.le_of_ble_eq_true rfl) (fun z O => c_X6_stoleOfAll_e O _ _ hF)

