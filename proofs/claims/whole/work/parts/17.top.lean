def f_X7_isArm_b20 (s0 : Int32) (I : IS) : Option (Int32) :=
  if okZ (s0) = true then some (s0) else none
set_option maxHeartbeats 4000000 in
set_option maxRecDepth 100000 in
theorem c_X7_isArm_b20 {z : CTX} {J : JS} (O : OK z cX7_isArm RX7 2 STop 123 (rm_ 0 0) (some .boolean)) : ∀ (s0 : Int32) (I : IS) (q : Int32), f_X7_isArm_b20 s0 I = some q → G z 20 [] [.int (s0)] I J (some (.int q), I, J) := by
  intro s0 I q hF
  rw [f_X7_isArm_b20] at hF
  obtain ⟨h1, hF⟩ := gd hF
  obtain rfl := Option.some.inj hF
  exact g_zreturn O (pc := 20) dX7_isArm_20 h1 rfl

def f_X7_isArm_b19 (I : IS) : Option (Int32) :=
  f_X7_isArm_b20 ((0 : Int32)) (I)
set_option maxHeartbeats 4000000 in
set_option maxRecDepth 100000 in
theorem c_X7_isArm_b19 {z : CTX} {J : JS} (O : OK z cX7_isArm RX7 2 STop 123 (rm_ 0 0) (some .boolean)) : ∀ (I : IS) (q : Int32), f_X7_isArm_b19 I = some q → G z 19 [] [] I J (some (.int q), I, J) := by
  intro I q hF
  rw [f_X7_isArm_b19] at hF
  refine g_iconst O (pc := 19) dX7_isArm_19 (ic_0) ?_
  refine g_sub [] (L' := []) rfl ?_
  exact c_X7_isArm_b20 O _ _ _ hF

def f_X7_isArm (x1 : Int32) (I : IS) : Option (Int32) :=
  if x1 < 0 then
  (f_X7_isArm_b19 (I))
  else
  (if (I (1) 6) ≤ x1 then
  (f_X7_isArm_b19 (I))
  else
  (f_X7_isArm_b20 ((1 : Int32)) (I)))
set_option maxHeartbeats 4000000 in
set_option maxRecDepth 100000 in
theorem c_X7_isArm_e {z : CTX} {J : JS} (O : OK z cX7_isArm RX7 2 STop 123 (rm_ 0 0) (some .boolean)) : ∀ (x1 : Int32) (I : IS) (q : Int32), f_X7_isArm x1 I = some q → G z 0 [(0, .ref (0)), (1, .int (x1))] [] I J (some (.int q), I, J) := by
  intro x1 I q hF
  rw [f_X7_isArm] at hF
  refine g_iload_n O (pc := 0) dX7_isArm_0 1 rfl ?_
  refine g_if_lt O (pc := 1) 19 dX7_isArm_1 (by decide) (fun h1 => ?_) (fun h1 => ?_)
  · rw [if_pos h1] at hF
    refine g_sub [] (L' := []) rfl ?_
    exact c_X7_isArm_b19 O _ _ hF
  · rw [if_neg h1] at hF
    refine g_iload_n O (pc := 4) dX7_isArm_4 1 rfl ?_
    refine g_aload_n O (pc := 5) dX7_isArm_5 0 rfl ?_
    refine g_getR O (pc := 6) isC_X7 dX7_isArm_6 fw_X7_12 (by decide) fd_STop_0_0 ?_
    refine g_getI O (pc := 9) isC_X6 dX7_isArm_9 fw_X7_42 (by decide) fd_STop_1_6 ?_
    refine g_icmp_ge O (pc := 12) 19 dX7_isArm_12 (by decide) (fun h2 => ?_) (fun h2 => ?_)
    · rw [if_pos h2] at hF
      refine g_sub [] (L' := []) rfl ?_
      exact c_X7_isArm_b19 O _ _ hF
    · rw [if_neg h2] at hF
      refine g_iconst O (pc := 15) dX7_isArm_15 (ic_1) ?_
      refine g_goto O (pc := 16) 20 dX7_isArm_16 (by decide) ?_
      refine g_sub [] (L' := []) rfl ?_
      exact c_X7_isArm_b20 O _ _ _ hF

theorem mc_X7_isArm {x1 : Int32} {I : IS} (J : JS) {q : Int32} (hF : f_X7_isArm x1 I = some q) : MC yX7_isArm cX7_isArm 2 (some .boolean) (rm_ 0 0) STop 123 [.ref (0), .int (x1)] I J (some (.int q), I, J) :=
  mc_of pn_X7 (Nat.le_of_ble_eq_true rfl) (fun z O => c_X7_isArm_e O _ _ _ hF)

def f_X7_arm_b90 (s0 : Int32) (I : IS) : Option (Int32) :=
  some (s0)
set_option maxHeartbeats 4000000 in
set_option maxRecDepth 100000 in
theorem c_X7_arm_b90 {z : CTX} {J : JS} (O : OK z cX7_arm RX7 4 STop 123 (rm_ 1 21) (some .int)) : ∀ (s0 : Int32) (I : IS) (q : Int32), f_X7_arm_b90 s0 I = some q → G z 90 [] [.int (s0)] I J (some (.int q), I, J) := by
  intro s0 I q hF
  rw [f_X7_arm_b90] at hF
  obtain rfl := Option.some.inj hF
  exact g_ireturn O (pc := 90) dX7_arm_90 rfl

def f_X7_arm (x1 : Int32) (x2 : Int32) (I : IS) : Option (Int32) :=
  (f_X7_isArm (x1) I).bind fun q1 =>
  (if q1 = 0 then
  (some ((-1 : Int32)))
  else
  (if okI (x1) 4 = true then
  (if x2 = 0 then
  (some ((I (1 + gArm ((x1).toNatClampNeg)) 1)))
  else if x2 = 1 then
  (some ((I (1 + gArm ((x1).toNatClampNeg)) 2)))
  else if x2 = 2 then
  (some ((I (1 + gArm ((x1).toNatClampNeg)) 3)))
  else if x2 = 3 then
  (some ((I (1 + gArm ((x1).toNatClampNeg)) 4)))
  else (if (10 : Int32) ≤ x2 then
  ((f_X0_taskAt ((x2 - (10 : Int32))) (zI (1 + gArm ((x1).toNatClampNeg)) I)).bind fun q10 =>
  (f_X7_arm_b90 (q10) (I)))
  else
  (f_X7_arm_b90 ((-1 : Int32)) (I))))
  else none))
set_option maxHeartbeats 4000000 in
set_option maxRecDepth 100000 in
theorem c_X7_arm_e {z : CTX} {J : JS} (O : OK z cX7_arm RX7 4 STop 123 (rm_ 1 21) (some .int)) : ∀ (x1 : Int32) (x2 : Int32) (I : IS) (q : Int32), f_X7_arm x1 x2 I = some q → G z 0 [(0, .ref (0)), (1, .int (x1)), (2, .int (x2))] [] I J (some (.int q), I, J) := by
  intro x1 x2 I q hF
  rw [f_X7_arm] at hF
  refine g_aload_n O (pc := 0) dX7_arm_0 0 rfl ?_
  refine g_iload_n O (pc := 1) dX7_arm_1 1 rfl ?_
  obtain ⟨q1, e2, hF⟩ := bnd hF
  refine g_Vi O (pc := 2) (st := []) dX7_arm_2 (mc_X7_isArm J e2) cb_X7_isArm ml_X7_60 isC_X7 ob_STop (zm0 _ _ _ _ _ _ _) (rmok (Nat.le_of_ble_eq_true rfl) (Nat.le_of_ble_eq_true rfl)) (Nat.le_of_ble_eq_true rfl) rfl ?_
  refine g_if_ne O (pc := 5) 10 dX7_arm_5 (by decide) (fun h3 => ?_) (fun h3 => ?_)
  · rw [if_neg h3] at hF
    refine g_aload_n O (pc := 10) dX7_arm_10 0 rfl ?_
    refine g_getR O (pc := 11) isC_X7 dX7_arm_11 fw_X7_12 (by decide) fd_STop_0_0 ?_
    refine g_getR O (pc := 14) isC_X6 dX7_arm_14 fw_X7_91 (by decide) fd_STop_1_0 ?_
    refine g_iload_n O (pc := 17) dX7_arm_17 1 rfl ?_
    obtain ⟨h4, hF⟩ := gd hF
    refine g_al O (pc := 18) dX7_arm_18 rr_STop_2 (Or.inl rfl) h4 ?_
    refine g_astore_n O (pc := 19) (L' := [(3, .ref (1 + gArm ((x1).toNatClampNeg))), (0, .ref (0)), (1, .int (x1)), (2, .int (x2))]) dX7_arm_19 (by decide) rfl ?_
    refine g_iload_n O (pc := 20) dX7_arm_20 3 rfl ?_
    by_cases h5 : x2 = 0
    · rw [if_pos h5] at hF
      refine g_tabIn O (pc := 21) (31) 52 dX7_arm_21 h5 (by decide) (by decide) rfl (by decide) ?_
      refine g_aload_n O (pc := 52) dX7_arm_52 0 rfl ?_
      refine g_getI O (pc := 53) isC_X0 dX7_arm_53 fw_X7_137 (by decide) (fd_STop_1_gArm_1 ((x1).toNatClampNeg)) ?_
      obtain rfl := Option.some.inj hF
      exact g_ireturn O (pc := 56) dX7_arm_56 rfl
    rw [if_neg h5] at hF
    by_cases h6 : x2 = 1
    · rw [if_pos h6] at hF
      refine g_tabIn O (pc := 21) (36) 57 dX7_arm_21 h6 (by decide) (by decide) rfl (by decide) ?_
      refine g_aload_n O (pc := 57) dX7_arm_57 0 rfl ?_
      refine g_getI O (pc := 58) isC_X0 dX7_arm_58 fw_X7_138 (by decide) (fd_STop_1_gArm_2 ((x1).toNatClampNeg)) ?_
      obtain rfl := Option.some.inj hF
      exact g_ireturn O (pc := 61) dX7_arm_61 rfl
    rw [if_neg h6] at hF
    by_cases h7 : x2 = 2
    · rw [if_pos h7] at hF
      refine g_tabIn O (pc := 21) (41) 62 dX7_arm_21 h7 (by decide) (by decide) rfl (by decide) ?_
      refine g_aload_n O (pc := 62) dX7_arm_62 0 rfl ?_
      refine g_getI O (pc := 63) isC_X0 dX7_arm_63 fw_X7_141 (by decide) (fd_STop_1_gArm_3 ((x1).toNatClampNeg)) ?_
      obtain rfl := Option.some.inj hF
      exact g_ireturn O (pc := 66) dX7_arm_66 rfl
    rw [if_neg h7] at hF
    by_cases h8 : x2 = 3
    · rw [if_pos h8] at hF
      refine g_tabIn O (pc := 21) (46) 67 dX7_arm_21 h8 (by decide) (by decide) rfl (by decide) ?_
      refine g_aload_n O (pc := 67) dX7_arm_67 0 rfl ?_
      refine g_getI O (pc := 68) isC_X0 dX7_arm_68 fw_X7_144 (by decide) (fd_STop_1_gArm_4 ((x1).toNatClampNeg)) ?_
      obtain rfl := Option.some.inj hF
      exact g_ireturn O (pc := 71) dX7_arm_71 rfl
    rw [if_neg h8] at hF
    have ih5 : ¬ (x2).toInt = 0 := fun q => h5 (Int32.toInt_inj.mp q)
    have ih6 : ¬ (x2).toInt = 1 := fun q => h6 (Int32.toInt_inj.mp q)
    have ih7 : ¬ (x2).toInt = 2 := fun q => h7 (Int32.toInt_inj.mp q)
    have ih8 : ¬ (x2).toInt = 3 := fun q => h8 (Int32.toInt_inj.mp q)
    refine g_tabOut O (pc := 21) 72 dX7_arm_21 (by omega) (by decide) ?_
    refine g_iload_n O (pc := 72) dX7_arm_72 3 rfl ?_
    refine g_bipush O (pc := 73) dX7_arm_73 bp_10 ?_
    refine g_icmp_ge O (pc := 75) 82 dX7_arm_75 (by decide) (fun h9 => ?_) (fun h9 => ?_)
    · rw [if_pos h9] at hF
      refine g_aload_n O (pc := 82) dX7_arm_82 0 rfl ?_
      refine g_iload_n O (pc := 83) dX7_arm_83 3 rfl ?_
      refine g_bipush O (pc := 84) dX7_arm_84 bp_10 ?_
      refine g_isub O (pc := 86) dX7_arm_86 ?_
      obtain ⟨q10, e11, hF⟩ := bnd hF
      refine g_Vi O (pc := 87) (st := []) dX7_arm_87 (mc_X0_taskAt (zI (1 + gArm ((x1).toNatClampNeg)) J) e11) cb_X0_taskAt ml_X7_147 isC_X0 ob_SArm (zm1R (sub_tr sub_Top_now (sub_Wor_arm ((x1).toNatClampNeg))) _ _ _) (rmok (Nat.le_of_ble_eq_true rfl) (Nat.le_of_ble_eq_true rfl)) (Nat.le_of_ble_eq_true rfl) rfl ?_
      refine g_sub [] (L' := []) rfl ?_
      exact c_X7_arm_b90 O _ _ _ hF
    · rw [if_neg h9] at hF
      refine g_iconst O (pc := 78) dX7_arm_78 (ic_m1) ?_
      refine g_goto O (pc := 79) 90 dX7_arm_79 (by decide) ?_
      refine g_sub [] (L' := []) rfl ?_
      exact c_X7_arm_b90 O _ _ _ hF
  · rw [if_pos h3] at hF
    refine g_iconst O (pc := 8) dX7_arm_8 (ic_m1) ?_
    obtain rfl := Option.some.inj hF
    exact g_ireturn O (pc := 9) dX7_arm_9 rfl

theorem mc_X7_arm {x1 : Int32} {x2 : Int32} {I : IS} (J : JS) {q : Int32} (hF : f_X7_arm x1 x2 I = some q) : MC yX7_arm cX7_arm 4 (some .int) (rm_ 1 21) STop 123 [.ref (0), .int (x1), .int (x2)] I J (some (.int q), I, J) :=
  mc_of pn_X7 (Nat.le_of_ble_eq_true rfl) (fun z O => c_X7_arm_e O _ _ _ _ hF)

def f_X7_arms_b10 (I : IS) : Option (Int32 × IS) :=
  some ((-2 : Int32), I)
set_option maxHeartbeats 4000000 in
set_option maxRecDepth 100000 in
theorem c_X7_arms_b10 {z : CTX} {J : JS} (O : OK z cX7_arms RX7 3 STop 123 (rm_ 2 45) (some .int)) : ∀ (I : IS) (q : Int32 × IS), f_X7_arms_b10 I = some q → G z 10 [] [] I J (some (.int q.1), q.2, J) := by
  intro I q hF
  rw [f_X7_arms_b10] at hF
  refine g_bipush O (pc := 10) dX7_arms_10 bp_m2 ?_
  obtain rfl := Option.some.inj hF
  exact g_ireturn O (pc := 12) dX7_arms_12 rfl

def f_X7_arms (x1 : Int32) (I : IS) : Option (Int32 × IS) :=
  if x1 < (1 : Int32) then
  (f_X7_arms_b10 (I))
  else
  (if x1 ≤ (4 : Int32) then
  ((f_X6_changeArms (x1) (zI (1) I)).bind fun q3 =>
  (some ((I (1) 6), (gI (1) 34 q3 I))))
  else
  (f_X7_arms_b10 (I)))
set_option maxHeartbeats 4000000 in
set_option maxRecDepth 100000 in
theorem c_X7_arms_e {z : CTX} {J : JS} (O : OK z cX7_arms RX7 3 STop 123 (rm_ 2 45) (some .int)) : ∀ (x1 : Int32) (I : IS) (q : Int32 × IS), f_X7_arms x1 I = some q → G z 0 [(0, .ref (0)), (1, .int (x1))] [] I J (some (.int q.1), q.2, J) := by
  intro x1 I q hF
  rw [f_X7_arms] at hF
  refine g_iload_n O (pc := 0) dX7_arms_0 1 rfl ?_
  refine g_iconst O (pc := 1) dX7_arms_1 (ic_1) ?_
  refine g_icmp_lt O (pc := 2) 10 dX7_arms_2 (by decide) (fun h1 => ?_) (fun h1 => ?_)
  · rw [if_pos h1] at hF
    refine g_sub [] (L' := []) rfl ?_
    exact c_X7_arms_b10 O _ _ hF
  · rw [if_neg h1] at hF
    refine g_iload_n O (pc := 5) dX7_arms_5 1 rfl ?_
    refine g_iconst O (pc := 6) dX7_arms_6 (ic_4) ?_
    refine g_icmp_le O (pc := 7) 13 dX7_arms_7 (by decide) (fun h2 => ?_) (fun h2 => ?_)
    · rw [if_pos h2] at hF
      refine g_aload_n O (pc := 13) dX7_arms_13 0 rfl ?_
      refine g_getR O (pc := 14) isC_X7 dX7_arms_14 fw_X7_12 (by decide) fd_STop_0_0 ?_
      refine g_getI O (pc := 17) isC_X6 dX7_arms_17 fw_X7_42 (by decide) fd_STop_1_6 ?_
      refine g_istore_n O (pc := 20) (L' := [(2, .int ((I (1) 6))), (0, .ref (0)), (1, .int (x1))]) dX7_arms_20 (by decide) rfl ?_
      refine g_aload_n O (pc := 21) dX7_arms_21 1 rfl ?_
      refine g_getR O (pc := 22) isC_X7 dX7_arms_22 fw_X7_12 (by decide) fd_STop_0_0 ?_
      refine g_iload_n O (pc := 25) dX7_arms_25 2 rfl ?_
      obtain ⟨q3, e4, hF⟩ := bnd hF
      refine g_Vv O (pc := 26) (st := []) dX7_arms_26 (mc_X6_changeArms (zI (1) J) e4) cb_X6_changeArms ml_X7_46 isC_X6 ob_SWor (zm1I sub_Top_now _ _ _ _) (rmok (Nat.le_of_ble_eq_true rfl) (Nat.le_of_ble_eq_true rfl)) (Nat.le_of_ble_eq_true rfl) rfl ?_
      refine g_iload_n O (pc := 29) dX7_arms_29 0 rfl ?_
      obtain rfl := Option.some.inj hF
      exact g_ireturn O (pc := 30) dX7_arms_30 rfl
    · rw [if_neg h2] at hF
      refine g_sub [] (L' := []) rfl ?_
      exact c_X7_arms_b10 O _ _ hF

theorem mc_X7_arms {x1 : Int32} {I : IS} (J : JS) {q : Int32 × IS} (hF : f_X7_arms x1 I = some q) : MC yX7_arms cX7_arms 3 (some .int) (rm_ 2 45) STop 123 [.ref (0), .int (x1)] I J (some (.int q.1), q.2, J) :=
  mc_of pn_X7 (Nat.le_of_ble_eq_true rfl) (fun z O => c_X7_arms_e O _ _ _ hF)

def f_X7_roundsTillOver_b21 : Nat → Int32 → IS → Option (Int32 × IS)
  | 0, _, _ => none
  | fu + 1, x2, I =>
    if (300 : Int32) < x2 then
    (some ((-5 : Int32), I))
    else
    ((f_X6_isOver (zI (69) I)).bind fun q2 =>
    (if q2 = 0 then
    ((f_X6_goRound (zI (69) I)).bind fun q5 =>
    (f_X7_roundsTillOver_b21 fu (x2 + (1 : Int32)) ((gI (69) 34 q5 I))))
    else
    (some (x2, I))))
set_option maxHeartbeats 4000000 in
set_option maxRecDepth 100000 in
theorem c_X7_roundsTillOver_b21 {z : CTX} {J : JS} (O : OK z cX7_roundsTillOver RX7 3 STop 123 (rm_ 4 96) (some .int)) : ∀ (fu : Nat) (x2 : Int32) (I : IS) (q : Int32 × IS), f_X7_roundsTillOver_b21 fu x2 I = some q → G z 21 [(0, .ref (0)), (2, .int (x2))] [] I J (some (.int q.1), q.2, J) := by
  intro fu
  induction fu with
  | zero =>
    intro x2 I q hF
    cases hF
  | succ fu ih =>
    intro x2 I q hF
    rw [f_X7_roundsTillOver_b21] at hF
    refine g_iload_n O (pc := 21) dX7_roundsTillOver_21 1 rfl ?_
    refine g_sipush O (pc := 22) dX7_roundsTillOver_22 sp_300 ?_
    refine g_icmp_gt O (pc := 25) 53 dX7_roundsTillOver_25 (by decide) (fun h1 => ?_) (fun h1 => ?_)
    · rw [if_pos h1] at hF
      refine g_bipush O (pc := 53) dX7_roundsTillOver_53 bp_m5 ?_
      obtain rfl := Option.some.inj hF
      exact g_ireturn O (pc := 55) dX7_roundsTillOver_55 rfl
    · rw [if_neg h1] at hF
      refine g_aload_n O (pc := 28) dX7_roundsTillOver_28 0 rfl ?_
      refine g_getR O (pc := 29) isC_X7 dX7_roundsTillOver_29 fw_X7_21 (by decide) fd_STop_0_2 ?_
      obtain ⟨q2, e3, hF⟩ := bnd hF
      refine g_Vi O (pc := 32) (st := []) dX7_roundsTillOver_32 (mc_X6_isOver (zI (69) J) e3) cb_X6_isOver ml_X7_162 isC_X6 ob_SWor (zm1R sub_Top_asked _ _ _) (rmok (Nat.le_of_ble_eq_true rfl) (Nat.le_of_ble_eq_true rfl)) (Nat.le_of_ble_eq_true rfl) rfl ?_
      refine g_if_eq O (pc := 35) 40 dX7_roundsTillOver_35 (by decide) (fun h4 => ?_) (fun h4 => ?_)
      · rw [if_pos h4] at hF
        refine g_aload_n O (pc := 40) dX7_roundsTillOver_40 0 rfl ?_
        refine g_getR O (pc := 41) isC_X7 dX7_roundsTillOver_41 fw_X7_21 (by decide) fd_STop_0_2 ?_
        obtain ⟨q5, e6, hF⟩ := bnd hF
        refine g_Vv O (pc := 44) (st := []) dX7_roundsTillOver_44 (mc_X6_goRound (zI (69) J) e6) cb_X6_goRound ml_X7_266 isC_X6 ob_SWor (zm1I sub_Top_asked _ _ _ _) (rmok (Nat.le_of_ble_eq_true rfl) (Nat.le_of_ble_eq_true rfl)) (Nat.le_of_ble_eq_true rfl) rfl ?_
        refine g_iinc O (pc := 47) (v := x2 + (1 : Int32)) (L' := [(2, .int (x2 + (1 : Int32))), (0, .ref (0))]) dX7_roundsTillOver_47 1 rfl rfl (by decide) rfl ?_
        refine g_goto O (pc := 50) 21 dX7_roundsTillOver_50 (by decide) ?_
        refine g_sub [1, 0] (L' := [(0, .ref (0)), (2, .int (x2 + (1 : Int32)))]) rfl ?_
        exact ih _ _ _ hF
      · rw [if_neg h4] at hF
        refine g_iload_n O (pc := 38) dX7_roundsTillOver_38 1 rfl ?_
        obtain rfl := Option.some.inj hF
        exact g_ireturn O (pc := 39) dX7_roundsTillOver_39 rfl

def f_X7_roundsTillOver (x1 : Int32) (I : IS) : Option (Int32 × IS) :=
  (f_X6_become (zI2 (69) 34 (1) I)).bind fun q1 =>
  ((f_X6_changeArms (x1) (zI (69) (gI2 (69) 34 (1) 34 q1 I))).bind fun q3 =>
  (f_X7_roundsTillOver_b21 LF ((0 : Int32)) ((gI (69) 34 q3 (gI2 (69) 34 (1) 34 q1 I)))))
set_option maxHeartbeats 4000000 in
set_option maxRecDepth 100000 in
theorem c_X7_roundsTillOver_e {z : CTX} {J : JS} (O : OK z cX7_roundsTillOver RX7 3 STop 123 (rm_ 4 96) (some .int)) : ∀ (x1 : Int32) (I : IS) (q : Int32 × IS), f_X7_roundsTillOver x1 I = some q → G z 0 [(0, .ref (0)), (1, .int (x1))] [] I J (some (.int q.1), q.2, J) := by
  intro x1 I q hF
  rw [f_X7_roundsTillOver] at hF
  refine g_aload_n O (pc := 0) dX7_roundsTillOver_0 0 rfl ?_
  refine g_getR O (pc := 1) isC_X7 dX7_roundsTillOver_1 fw_X7_21 (by decide) fd_STop_0_2 ?_
  refine g_aload_n O (pc := 4) dX7_roundsTillOver_4 0 rfl ?_
  refine g_getR O (pc := 5) isC_X7 dX7_roundsTillOver_5 fw_X7_12 (by decide) fd_STop_0_0 ?_
  obtain ⟨q1, e2, hF⟩ := bnd hF
  refine g_Vv O (pc := 8) (st := []) dX7_roundsTillOver_8 (mc_X6_become (zI2 (69) 34 (1) J) e2) cb_X6_become ml_X7_183 isC_X6 ob_dbl_34_SWor (zm2I rfl (by decide) (sub_o2 clo_Wor sub_Top_asked sub_Top_now (by decide)) _ _ _ _) (rmok (Nat.le_of_ble_eq_true rfl) (Nat.le_of_ble_eq_true rfl)) (Nat.le_of_ble_eq_true rfl) rfl ?_
  refine g_aload_n O (pc := 11) dX7_roundsTillOver_11 0 rfl ?_
  refine g_getR O (pc := 12) isC_X7 dX7_roundsTillOver_12 fw_X7_21 (by decide) fd_STop_0_2 ?_
  refine g_iload_n O (pc := 15) dX7_roundsTillOver_15 1 rfl ?_
  obtain ⟨q3, e4, hF⟩ := bnd hF
  refine g_Vv O (pc := 16) (st := []) dX7_roundsTillOver_16 (mc_X6_changeArms (zI (69) J) e4) cb_X6_changeArms ml_X7_46 isC_X6 ob_SWor (zm1I sub_Top_asked _ _ _ _) (rmok (Nat.le_of_ble_eq_true rfl) (Nat.le_of_ble_eq_true rfl)) (Nat.le_of_ble_eq_true rfl) rfl ?_
  refine g_iconst O (pc := 19) dX7_roundsTillOver_19 (ic_0) ?_
  refine g_istore_n O (pc := 20) (L' := [(2, .int ((0 : Int32))), (0, .ref (0)), (1, .int (x1))]) dX7_roundsTillOver_20 (by decide) rfl ?_
  refine g_sub [1, 0] (L' := [(0, .ref (0)), (2, .int ((0 : Int32)))]) rfl ?_
  exact c_X7_roundsTillOver_b21 O _ _ _ _ hF

theorem mc_X7_roundsTillOver {x1 : Int32} {I : IS} (J : JS) {q : Int32 × IS} (hF : f_X7_roundsTillOver x1 I = some q) : MC yX7_roundsTillOver cX7_roundsTillOver 3 (some .int) (rm_ 4 96) STop 123 [.ref (0), .int (x1)] I J (some (.int q.1), q.2, J) :=
  mc_of pn_X7 (Nat.le_of_ble_eq_true rfl) (fun z O => c_X7_roundsTillOver_e O _ _ _ hF)

def f_X7_bestArms_b39 (k9 : Int32 → Int32 → Int32 → IS → Option (Int32 × IS)) (x1 : Int32) (x2 : Int32) (x3 : Int32) (I : IS) : Option (Int32 × IS) :=
  k9 (x1) (x2) (x3 + (1 : Int32)) (I)
set_option maxHeartbeats 4000000 in
set_option maxRecDepth 100000 in
theorem c_X7_bestArms_b39 {z : CTX} {J : JS} (O : OK z cX7_bestArms RX7 5 STop 123 (rm_ 5 118) (some .int)) {k9 : Int32 → Int32 → Int32 → IS → Option (Int32 × IS)} (hk9 : ∀ (x1 : Int32) (x2 : Int32) (x3 : Int32) (I : IS) (q : Int32 × IS), k9 x1 x2 x3 I = some q → G z 9 [(0, .ref (0)), (1, .int (x1)), (2, .int (x2)), (3, .int (x3))] [] I J (some (.int q.1), q.2, J)) : ∀ (x1 : Int32) (x2 : Int32) (x3 : Int32) (I : IS) (q : Int32 × IS), f_X7_bestArms_b39 k9 x1 x2 x3 I = some q → G z 39 [(0, .ref (0)), (1, .int (x1)), (2, .int (x2)), (3, .int (x3))] [] I J (some (.int q.1), q.2, J) := by
  intro x1 x2 x3 I q hF
  rw [f_X7_bestArms_b39] at hF
  refine g_iinc O (pc := 39) (v := x3 + (1 : Int32)) (L' := [(3, .int (x3 + (1 : Int32))), (0, .ref (0)), (1, .int (x1)), (2, .int (x2))]) dX7_bestArms_39 3 rfl rfl (by decide) rfl ?_
  refine g_goto O (pc := 42) 9 dX7_bestArms_42 (by decide) ?_
  refine g_sub [1, 2, 3, 0] (L' := [(0, .ref (0)), (1, .int (x1)), (2, .int (x2)), (3, .int (x3 + (1 : Int32)))]) rfl ?_
  exact hk9 _ _ _ _ _ hF

def f_X7_bestArms_b9 : Nat → Int32 → Int32 → Int32 → IS → Option (Int32 × IS)
  | 0, _, _, _, _ => none
  | fu + 1, x1, x2, x3, I =>
    if (4 : Int32) < x3 then
    (some (x1, I))
    else
    ((f_X7_roundsTillOver (x3) I).bind fun q2 =>
    (if q2.1 = (-5 : Int32) then
    (f_X7_bestArms_b39 (f_X7_bestArms_b9 fu) (x1) (x2) (x3) (q2.2))
    else
    (if x2 ≤ q2.1 then
    (f_X7_bestArms_b39 (f_X7_bestArms_b9 fu) (x1) (x2) (x3) (q2.2))
    else
    (f_X7_bestArms_b39 (f_X7_bestArms_b9 fu) (x3) (q2.1) (x3) (q2.2)))))
set_option maxHeartbeats 4000000 in
set_option maxRecDepth 100000 in
theorem c_X7_bestArms_b9 {z : CTX} {J : JS} (O : OK z cX7_bestArms RX7 5 STop 123 (rm_ 5 118) (some .int)) : ∀ (fu : Nat) (x1 : Int32) (x2 : Int32) (x3 : Int32) (I : IS) (q : Int32 × IS), f_X7_bestArms_b9 fu x1 x2 x3 I = some q → G z 9 [(0, .ref (0)), (1, .int (x1)), (2, .int (x2)), (3, .int (x3))] [] I J (some (.int q.1), q.2, J) := by
  intro fu
  induction fu with
  | zero =>
    intro x1 x2 x3 I q hF
    cases hF
  | succ fu ih =>
    intro x1 x2 x3 I q hF
    rw [f_X7_bestArms_b9] at hF
    refine g_iload_n O (pc := 9) dX7_bestArms_9 3 rfl ?_
    refine g_iconst O (pc := 10) dX7_bestArms_10 (ic_4) ?_
    refine g_icmp_gt O (pc := 11) 45 dX7_bestArms_11 (by decide) (fun h1 => ?_) (fun h1 => ?_)
    · rw [if_pos h1] at hF
      refine g_iload_n O (pc := 45) dX7_bestArms_45 1 rfl ?_
      obtain rfl := Option.some.inj hF
      exact g_ireturn O (pc := 46) dX7_bestArms_46 rfl
    · rw [if_neg h1] at hF
      refine g_aload_n O (pc := 14) dX7_bestArms_14 0 rfl ?_
      refine g_iload_n O (pc := 15) dX7_bestArms_15 3 rfl ?_
      obtain ⟨q2, e3, hF⟩ := bnd hF
      refine g_Vi O (pc := 16) (st := []) dX7_bestArms_16 (mc_X7_roundsTillOver J e3) cb_X7_roundsTillOver ml_X7_166 isC_X7 ob_STop (zm0 _ _ _ _ _ _ _) (rmok (Nat.le_of_ble_eq_true rfl) (Nat.le_of_ble_eq_true rfl)) (Nat.le_of_ble_eq_true rfl) rfl ?_
      refine g_istore O (pc := 19) (L' := [(4, .int (q2.1)), (0, .ref (0)), (1, .int (x1)), (2, .int (x2)), (3, .int (x3))]) dX7_bestArms_19 (by decide) rfl ?_
      refine g_iload O (pc := 21) dX7_bestArms_21 0 rfl ?_
      refine g_bipush O (pc := 23) dX7_bestArms_23 bp_m5 ?_
      refine g_icmp_eq O (pc := 25) 39 dX7_bestArms_25 (by decide) (fun h4 => ?_) (fun h4 => ?_)
      · rw [if_pos h4] at hF
        refine g_sub [1, 2, 3, 4] (L' := [(0, .ref (0)), (1, .int (x1)), (2, .int (x2)), (3, .int (x3))]) rfl ?_
        exact c_X7_bestArms_b39 O ih _ _ _ _ _ hF
      · rw [if_neg h4] at hF
        refine g_iload O (pc := 28) dX7_bestArms_28 0 rfl ?_
        refine g_iload_n O (pc := 30) dX7_bestArms_30 3 rfl ?_
        refine g_icmp_ge O (pc := 31) 39 dX7_bestArms_31 (by decide) (fun h5 => ?_) (fun h5 => ?_)
        · rw [if_pos h5] at hF
          refine g_sub [1, 2, 3, 4] (L' := [(0, .ref (0)), (1, .int (x1)), (2, .int (x2)), (3, .int (x3))]) rfl ?_
          exact c_X7_bestArms_b39 O ih _ _ _ _ _ hF
        · rw [if_neg h5] at hF
          refine g_iload O (pc := 34) dX7_bestArms_34 0 rfl ?_
          refine g_istore_n O (pc := 36) (L' := [(2, .int (q2.1)), (4, .int (q2.1)), (0, .ref (0)), (1, .int (x1)), (3, .int (x3))]) dX7_bestArms_36 (by decide) rfl ?_
          refine g_iload_n O (pc := 37) dX7_bestArms_37 4 rfl ?_
          refine g_istore_n O (pc := 38) (L' := [(1, .int (x3)), (2, .int (q2.1)), (4, .int (q2.1)), (0, .ref (0)), (3, .int (x3))]) dX7_bestArms_38 (by decide) rfl ?_
          refine g_sub [3, 0, 1, 4] (L' := [(0, .ref (0)), (1, .int (x3)), (2, .int (q2.1)), (3, .int (x3))]) rfl ?_
          exact c_X7_bestArms_b39 O ih _ _ _ _ _ hF

def f_X7_bestArms (I : IS) : Option (Int32 × IS) :=
  f_X7_bestArms_b9 LF ((-5 : Int32)) ((301 : Int32)) ((1 : Int32)) (I)
set_option maxHeartbeats 4000000 in
set_option maxRecDepth 100000 in
theorem c_X7_bestArms_e {z : CTX} {J : JS} (O : OK z cX7_bestArms RX7 5 STop 123 (rm_ 5 118) (some .int)) : ∀ (I : IS) (q : Int32 × IS), f_X7_bestArms I = some q → G z 0 [(0, .ref (0))] [] I J (some (.int q.1), q.2, J) := by
  intro I q hF
  rw [f_X7_bestArms] at hF
  refine g_bipush O (pc := 0) dX7_bestArms_0 bp_m5 ?_
  refine g_istore_n O (pc := 2) (L' := [(1, .int ((-5 : Int32))), (0, .ref (0))]) dX7_bestArms_2 (by decide) rfl ?_
  refine g_sipush O (pc := 3) dX7_bestArms_3 sp_301 ?_
  refine g_istore_n O (pc := 6) (L' := [(2, .int ((301 : Int32))), (1, .int ((-5 : Int32))), (0, .ref (0))]) dX7_bestArms_6 (by decide) rfl ?_
  refine g_iconst O (pc := 7) dX7_bestArms_7 (ic_1) ?_
  refine g_istore_n O (pc := 8) (L' := [(3, .int ((1 : Int32))), (2, .int ((301 : Int32))), (1, .int ((-5 : Int32))), (0, .ref (0))]) dX7_bestArms_8 (by decide) rfl ?_
  refine g_sub [3, 2, 1, 0] (L' := [(0, .ref (0)), (1, .int ((-5 : Int32))), (2, .int ((301 : Int32))), (3, .int ((1 : Int32)))]) rfl ?_
  exact c_X7_bestArms_b9 O _ _ _ _ _ _ hF

theorem mc_X7_bestArms {I : IS} (J : JS) {q : Int32 × IS} (hF : f_X7_bestArms I = some q) : MC yX7_bestArms cX7_bestArms 5 (some .int) (rm_ 5 118) STop 123 [.ref (0)] I J (some (.int q.1), q.2, J) :=
  mc_of pn_X7 (Nat.le_of_ble_eq_true rfl) (fun z O => c_X7_bestArms_e O _ _ hF)

def f_X7_book_b41 (I : IS) : Option (Int32 × IS) :=
  some ((-2 : Int32), I)
set_option maxHeartbeats 4000000 in
set_option maxRecDepth 100000 in
theorem c_X7_book_b41 {z : CTX} {J : JS} (O : OK z cX7_book RX7 3 STop 123 (rm_ 1 22) (some .int)) : ∀ (I : IS) (q : Int32 × IS), f_X7_book_b41 I = some q → G z 41 [] [] I J (some (.int q.1), q.2, J) := by
  intro I q hF
  rw [f_X7_book_b41] at hF
  refine g_bipush O (pc := 41) dX7_book_41 bp_m2 ?_
  obtain rfl := Option.some.inj hF
  exact g_ireturn O (pc := 43) dX7_book_43 rfl

def f_X7_book (x1 : Int32) (x2 : Int32) (I : IS) : Option (Int32 × IS) :=
  if x1 = (-1 : Int32) then
  ((f_X2_clear 8 (zI (32) I)).bind fun q9 =>
  (some (q9.1, (gI (32) 3 q9.2 I))))
  else
  ((f_X4_has (x1) (zI (11) I)).bind fun q2 =>
  (if q2 = 0 then
  (some ((-1 : Int32), I))
  else
  (if x2 < 0 then
  (f_X7_book_b41 (I))
  else
  (if x2 ≤ (5 : Int32) then
  ((f_X2_add 8 (x1) (x2) (zI (32) I)).bind fun q7 =>
  (some (q7.1, (gI (32) 3 q7.2 I))))
  else
  (f_X7_book_b41 (I))))))
set_option maxHeartbeats 4000000 in
set_option maxRecDepth 100000 in
theorem c_X7_book_e {z : CTX} {J : JS} (O : OK z cX7_book RX7 3 STop 123 (rm_ 1 22) (some .int)) : ∀ (x1 : Int32) (x2 : Int32) (I : IS) (q : Int32 × IS), f_X7_book x1 x2 I = some q → G z 0 [(0, .ref (0)), (1, .int (x1)), (2, .int (x2))] [] I J (some (.int q.1), q.2, J) := by
  intro x1 x2 I q hF
  rw [f_X7_book] at hF
  refine g_iload_n O (pc := 0) dX7_book_0 1 rfl ?_
  refine g_iconst O (pc := 1) dX7_book_1 (ic_m1) ?_
  refine g_icmp_ne O (pc := 2) 16 dX7_book_2 (by decide) (fun h1 => ?_) (fun h1 => ?_)
  · rw [if_neg h1] at hF
    refine g_aload_n O (pc := 16) dX7_book_16 0 rfl ?_
    refine g_getR O (pc := 17) isC_X7 dX7_book_17 fw_X7_12 (by decide) fd_STop_0_0 ?_
    refine g_getR O (pc := 20) isC_X6 dX7_book_20 fw_X7_67 (by decide) fd_STop_1_1 ?_
    refine g_iload_n O (pc := 23) dX7_book_23 1 rfl ?_
    obtain ⟨q2, e3, hF⟩ := bnd hF
    refine g_Vi O (pc := 24) (st := []) dX7_book_24 (mc_X4_has (zI (11) J) e3) cb_X4_has ml_X7_100 isC_X4 ob_STas (zm1R sub_Top_11 _ _ _) (rmok (Nat.le_of_ble_eq_true rfl) (Nat.le_of_ble_eq_true rfl)) (Nat.le_of_ble_eq_true rfl) rfl ?_
    refine g_if_ne O (pc := 27) 32 dX7_book_27 (by decide) (fun h4 => ?_) (fun h4 => ?_)
    · rw [if_neg h4] at hF
      refine g_iload_n O (pc := 32) dX7_book_32 2 rfl ?_
      refine g_if_lt O (pc := 33) 41 dX7_book_33 (by decide) (fun h5 => ?_) (fun h5 => ?_)
      · rw [if_pos h5] at hF
        refine g_sub [] (L' := []) rfl ?_
        exact c_X7_book_b41 O _ _ hF
      · rw [if_neg h5] at hF
        refine g_iload_n O (pc := 36) dX7_book_36 2 rfl ?_
        refine g_iconst O (pc := 37) dX7_book_37 (ic_5) ?_
        refine g_icmp_le O (pc := 38) 44 dX7_book_38 (by decide) (fun h6 => ?_) (fun h6 => ?_)
        · rw [if_pos h6] at hF
          refine g_aload_n O (pc := 44) dX7_book_44 0 rfl ?_
          refine g_getR O (pc := 45) isC_X7 dX7_book_45 fw_X7_12 (by decide) fd_STop_0_0 ?_
          refine g_getR O (pc := 48) isC_X6 dX7_book_48 fw_X7_239 (by decide) fd_STop_1_5 ?_
          refine g_iload_n O (pc := 51) dX7_book_51 1 rfl ?_
          refine g_iload_n O (pc := 52) dX7_book_52 2 rfl ?_
          obtain ⟨q7, e8, hF⟩ := bnd hF
          refine g_Vi O (pc := 53) (st := []) dX7_book_53 (mc_X2_add 8 (zI (32) J) e8) cb_X2_add ml_X7_208 isC_X2 (ob_SPrs_n _) (zm1I sub_Top_32 _ _ _ _) (rmok (Nat.le_of_ble_eq_true rfl) (Nat.le_of_ble_eq_true rfl)) (Nat.le_of_ble_eq_true rfl) rfl ?_
          obtain rfl := Option.some.inj hF
          exact g_ireturn O (pc := 56) dX7_book_56 rfl
        · rw [if_neg h6] at hF
          refine g_sub [] (L' := []) rfl ?_
          exact c_X7_book_b41 O _ _ hF
    · rw [if_pos h4] at hF
      refine g_iconst O (pc := 30) dX7_book_30 (ic_m1) ?_
      obtain rfl := Option.some.inj hF
      exact g_ireturn O (pc := 31) dX7_book_31 rfl
  · rw [if_pos h1] at hF
    refine g_aload_n O (pc := 5) dX7_book_5 0 rfl ?_
    refine g_getR O (pc := 6) isC_X7 dX7_book_6 fw_X7_12 (by decide) fd_STop_0_0 ?_
    refine g_getR O (pc := 9) isC_X6 dX7_book_9 fw_X7_239 (by decide) fd_STop_1_5 ?_
    obtain ⟨q9, e10, hF⟩ := bnd hF
    refine g_Vi O (pc := 12) (st := []) dX7_book_12 (mc_X2_clear 8 (zI (32) J) e10) cb_X2_clear ml_X7_203 isC_X2 (ob_SPrs_n _) (zm1I sub_Top_32 _ _ _ _) (rmok (Nat.le_of_ble_eq_true rfl) (Nat.le_of_ble_eq_true rfl)) (Nat.le_of_ble_eq_true rfl) rfl ?_
    obtain rfl := Option.some.inj hF
    exact g_ireturn O (pc := 15) dX7_book_15 rfl

theorem mc_X7_book {x1 : Int32} {x2 : Int32} {I : IS} (J : JS) {q : Int32 × IS} (hF : f_X7_book x1 x2 I = some q) : MC yX7_book cX7_book 3 (some .int) (rm_ 1 22) STop 123 [.ref (0), .int (x1), .int (x2)] I J (some (.int q.1), q.2, J) :=
  mc_of pn_X7 (Nat.le_of_ble_eq_true rfl) (fun z O => c_X7_book_e O _ _ _ _ hF)

def f_X7_cancel_b43 (s0 : Int32) (I : IS) : Option (Int32 × IS) :=
  some (s0, I)
set_option maxHeartbeats 4000000 in
set_option maxRecDepth 100000 in
theorem c_X7_cancel_b43 {z : CTX} {J : JS} (O : OK z cX7_cancel RX7 2 STop 123 (rm_ 4 96) (some .int)) : ∀ (s0 : Int32) (I : IS) (q : Int32 × IS), f_X7_cancel_b43 s0 I = some q → G z 43 [] [.int (s0)] I J (some (.int q.1), q.2, J) := by
  intro s0 I q hF
  rw [f_X7_cancel_b43] at hF
  obtain rfl := Option.some.inj hF
  exact g_ireturn O (pc := 43) dX7_cancel_43 rfl

def f_X7_cancel (x1 : Int32) (I : IS) : Option (Int32 × IS) :=
  (f_X4_has (x1) (zI (11) I)).bind fun q1 =>
  (if q1 = 0 then
  (some ((-1 : Int32), I))
  else
  ((f_X4_isEnded (x1) (zI (11) I)).bind fun q4 =>
  (if q4 = 0 then
  ((f_X6_cancelByHand (x1) (zI (1) I)).bind fun q7 =>
  (f_X7_cancel_b43 (q7.1) ((gI (1) 34 q7.2 I))))
  else
  (f_X7_cancel_b43 ((-3 : Int32)) (I)))))
set_option maxHeartbeats 4000000 in
set_option maxRecDepth 100000 in
theorem c_X7_cancel_e {z : CTX} {J : JS} (O : OK z cX7_cancel RX7 2 STop 123 (rm_ 4 96) (some .int)) : ∀ (x1 : Int32) (I : IS) (q : Int32 × IS), f_X7_cancel x1 I = some q → G z 0 [(0, .ref (0)), (1, .int (x1))] [] I J (some (.int q.1), q.2, J) := by
  intro x1 I q hF
  rw [f_X7_cancel] at hF
  refine g_aload_n O (pc := 0) dX7_cancel_0 0 rfl ?_
  refine g_getR O (pc := 1) isC_X7 dX7_cancel_1 fw_X7_12 (by decide) fd_STop_0_0 ?_
  refine g_getR O (pc := 4) isC_X6 dX7_cancel_4 fw_X7_67 (by decide) fd_STop_1_1 ?_
  refine g_iload_n O (pc := 7) dX7_cancel_7 1 rfl ?_
  obtain ⟨q1, e2, hF⟩ := bnd hF
  refine g_Vi O (pc := 8) (st := []) dX7_cancel_8 (mc_X4_has (zI (11) J) e2) cb_X4_has ml_X7_100 isC_X4 ob_STas (zm1R sub_Top_11 _ _ _) (rmok (Nat.le_of_ble_eq_true rfl) (Nat.le_of_ble_eq_true rfl)) (Nat.le_of_ble_eq_true rfl) rfl ?_
  refine g_if_ne O (pc := 11) 16 dX7_cancel_11 (by decide) (fun h3 => ?_) (fun h3 => ?_)
  · rw [if_neg h3] at hF
    refine g_aload_n O (pc := 16) dX7_cancel_16 0 rfl ?_
    refine g_getR O (pc := 17) isC_X7 dX7_cancel_17 fw_X7_12 (by decide) fd_STop_0_0 ?_
    refine g_getR O (pc := 20) isC_X6 dX7_cancel_20 fw_X7_67 (by decide) fd_STop_1_1 ?_
    refine g_iload_n O (pc := 23) dX7_cancel_23 1 rfl ?_
    obtain ⟨q4, e5, hF⟩ := bnd hF
    refine g_Vi O (pc := 24) (st := []) dX7_cancel_24 (mc_X4_isEnded (zI (11) J) e5) cb_X4_isEnded ml_X7_156 isC_X4 ob_STas (zm1R sub_Top_11 _ _ _) (rmok (Nat.le_of_ble_eq_true rfl) (Nat.le_of_ble_eq_true rfl)) (Nat.le_of_ble_eq_true rfl) rfl ?_
    refine g_if_eq O (pc := 27) 35 dX7_cancel_27 (by decide) (fun h6 => ?_) (fun h6 => ?_)
    · rw [if_pos h6] at hF
      refine g_aload_n O (pc := 35) dX7_cancel_35 0 rfl ?_
      refine g_getR O (pc := 36) isC_X7 dX7_cancel_36 fw_X7_12 (by decide) fd_STop_0_0 ?_
      refine g_iload_n O (pc := 39) dX7_cancel_39 1 rfl ?_
      obtain ⟨q7, e8, hF⟩ := bnd hF
      refine g_Vi O (pc := 40) (st := []) dX7_cancel_40 (mc_X6_cancelByHand (zI (1) J) e8) cb_X6_cancelByHand ml_X7_159 isC_X6 ob_SWor (zm1I sub_Top_now _ _ _ _) (rmok (Nat.le_of_ble_eq_true rfl) (Nat.le_of_ble_eq_true rfl)) (Nat.le_of_ble_eq_true rfl) rfl ?_
      refine g_sub [] (L' := []) rfl ?_
      exact c_X7_cancel_b43 O _ _ _ hF
    · rw [if_neg h6] at hF
      refine g_bipush O (pc := 30) dX7_cancel_30 bp_m3 ?_
      refine g_goto O (pc := 32) 43 dX7_cancel_32 (by decide) ?_
      refine g_sub [] (L' := []) rfl ?_
      exact c_X7_cancel_b43 O _ _ _ hF
  · rw [if_pos h3] at hF
    refine g_iconst O (pc := 14) dX7_cancel_14 (ic_m1) ?_
    obtain rfl := Option.some.inj hF
    exact g_ireturn O (pc := 15) dX7_cancel_15 rfl

theorem mc_X7_cancel {x1 : Int32} {I : IS} (J : JS) {q : Int32 × IS} (hF : f_X7_cancel x1 I = some q) : MC yX7_cancel cX7_cancel 2 (some .int) (rm_ 4 96) STop 123 [.ref (0), .int (x1)] I J (some (.int q.1), q.2, J) :=
  mc_of pn_X7 (Nat.le_of_ble_eq_true rfl) (fun z O => c_X7_cancel_e O _ _ _ hF)

def f_X7_cause_b20 (I : IS) : Option (Int32) :=
  some ((-1 : Int32))
set_option maxHeartbeats 4000000 in
set_option maxRecDepth 100000 in
theorem c_X7_cause_b20 {z : CTX} {J : JS} (O : OK z cX7_cause RX7 6 STop 123 (rm_ 1 21) (some .int)) : ∀ (I : IS) (q : Int32), f_X7_cause_b20 I = some q → G z 20 [] [] I J (some (.int q), I, J) := by
  intro I q hF
  rw [f_X7_cause_b20] at hF
  refine g_iconst O (pc := 20) dX7_cause_20 (ic_m1) ?_
  obtain rfl := Option.some.inj hF
  exact g_ireturn O (pc := 21) dX7_cause_21 rfl

def f_X7_cause_b73 (x4 : Int32) (I : IS) : Option (Int32) :=
  some (x4)
set_option maxHeartbeats 4000000 in
set_option maxRecDepth 100000 in
theorem c_X7_cause_b73 {z : CTX} {J : JS} (O : OK z cX7_cause RX7 6 STop 123 (rm_ 1 21) (some .int)) : ∀ (x4 : Int32) (I : IS) (q : Int32), f_X7_cause_b73 x4 I = some q → G z 73 [(4, .int (x4))] [] I J (some (.int q), I, J) := by
  intro x4 I q hF
  rw [f_X7_cause_b73] at hF
  refine g_iload O (pc := 73) dX7_cause_73 0 rfl ?_
  obtain rfl := Option.some.inj hF
  exact g_ireturn O (pc := 75) dX7_cause_75 rfl

def f_X7_cause_b43 : Nat → Int32 → Int32 → Int32 → IS → Option (Int32)
  | 0, _, _, _, _ => none
  | fu + 1, x2, x4, x5, I =>
    if x2 ≤ x5 then
    (f_X7_cause_b73 (x4) (I))
    else
    ((f_X4_has (x4) (zI (11) I)).bind fun q2 =>
    (if q2 = 0 then
    (f_X7_cause_b73 (x4) (I))
    else
    (if okI (x4) 32 = true then
    (f_X7_cause_b43 fu (x2) ((I (18) (x4).toNatClampNeg)) (x5 + (1 : Int32)) (I))
    else none)))
set_option maxHeartbeats 4000000 in
set_option maxRecDepth 100000 in
theorem c_X7_cause_b43 {z : CTX} {J : JS} (O : OK z cX7_cause RX7 6 STop 123 (rm_ 1 21) (some .int)) : ∀ (fu : Nat) (x2 : Int32) (x4 : Int32) (x5 : Int32) (I : IS) (q : Int32), f_X7_cause_b43 fu x2 x4 x5 I = some q → G z 43 [(2, .int (x2)), (3, .ref (11)), (4, .int (x4)), (5, .int (x5))] [] I J (some (.int q), I, J) := by
  intro fu
  induction fu with
  | zero =>
    intro x2 x4 x5 I q hF
    cases hF
  | succ fu ih =>
    intro x2 x4 x5 I q hF
    rw [f_X7_cause_b43] at hF
    refine g_iload O (pc := 43) dX7_cause_43 3 rfl ?_
    refine g_iload_n O (pc := 45) dX7_cause_45 0 rfl ?_
    refine g_icmp_ge O (pc := 46) 73 dX7_cause_46 (by decide) (fun h1 => ?_) (fun h1 => ?_)
    · rw [if_pos h1] at hF
      refine g_sub [2] (L' := [(4, .int (x4))]) rfl ?_
      exact c_X7_cause_b73 O _ _ _ hF
    · rw [if_neg h1] at hF
      refine g_aload_n O (pc := 49) dX7_cause_49 1 rfl ?_
      refine g_iload O (pc := 50) dX7_cause_50 2 rfl ?_
      obtain ⟨q2, e3, hF⟩ := bnd hF
      refine g_Vi O (pc := 52) (st := []) dX7_cause_52 (mc_X4_has (zI (11) J) e3) cb_X4_has ml_X7_100 isC_X4 ob_STas (zm1R sub_Top_11 _ _ _) (rmok (Nat.le_of_ble_eq_true rfl) (Nat.le_of_ble_eq_true rfl)) (Nat.le_of_ble_eq_true rfl) rfl ?_
      refine g_if_eq O (pc := 55) 73 dX7_cause_55 (by decide) (fun h4 => ?_) (fun h4 => ?_)
      · rw [if_pos h4] at hF
        refine g_sub [2] (L' := [(4, .int (x4))]) rfl ?_
        exact c_X7_cause_b73 O _ _ _ hF
      · rw [if_neg h4] at hF
        refine g_aload_n O (pc := 58) dX7_cause_58 1 rfl ?_
        refine g_getR O (pc := 59) isC_X4 dX7_cause_59 fw_X7_134 (by decide) fd_STop_11_6 ?_
        refine g_iload O (pc := 62) dX7_cause_62 2 rfl ?_
        obtain ⟨h5, hF⟩ := gd hF
        refine g_il O (pc := 64) dX7_cause_64 ar_STop_18 h5 ?_
        refine g_istore O (pc := 65) (L' := [(4, .int ((I (18) (x4).toNatClampNeg))), (2, .int (x2)), (3, .ref (11)), (5, .int (x5))]) dX7_cause_65 (by decide) rfl ?_
        refine g_iinc O (pc := 67) (v := x5 + (1 : Int32)) (L' := [(5, .int (x5 + (1 : Int32))), (4, .int ((I (18) (x4).toNatClampNeg))), (2, .int (x2)), (3, .ref (11))]) dX7_cause_67 3 rfl rfl (by decide) rfl ?_
        refine g_goto O (pc := 70) 43 dX7_cause_70 (by decide) ?_
        refine g_sub [2, 3, 1, 0] (L' := [(2, .int (x2)), (3, .ref (11)), (4, .int ((I (18) (x4).toNatClampNeg))), (5, .int (x5 + (1 : Int32)))]) rfl ?_
        exact ih _ _ _ _ _ hF

def f_X7_cause_b38 (x2 : Int32) (s0 : Int32) (I : IS) : Option (Int32) :=
  f_X7_cause_b43 LF (x2) (s0) ((0 : Int32)) (I)
set_option maxHeartbeats 4000000 in
set_option maxRecDepth 100000 in
theorem c_X7_cause_b38 {z : CTX} {J : JS} (O : OK z cX7_cause RX7 6 STop 123 (rm_ 1 21) (some .int)) : ∀ (x2 : Int32) (s0 : Int32) (I : IS) (q : Int32), f_X7_cause_b38 x2 s0 I = some q → G z 38 [(2, .int (x2)), (3, .ref (11))] [.int (s0)] I J (some (.int q), I, J) := by
  intro x2 s0 I q hF
  rw [f_X7_cause_b38] at hF
  refine g_istore O (pc := 38) (L' := [(4, .int (s0)), (2, .int (x2)), (3, .ref (11))]) dX7_cause_38 (by decide) rfl ?_
  refine g_iconst O (pc := 40) dX7_cause_40 (ic_0) ?_
  refine g_istore O (pc := 41) (L' := [(5, .int ((0 : Int32))), (4, .int (s0)), (2, .int (x2)), (3, .ref (11))]) dX7_cause_41 (by decide) rfl ?_
  refine g_sub [2, 3, 1, 0] (L' := [(2, .int (x2)), (3, .ref (11)), (4, .int (s0)), (5, .int ((0 : Int32)))]) rfl ?_
  exact c_X7_cause_b43 O _ _ _ _ _ _ hF

def f_X7_cause (x1 : Int32) (x2 : Int32) (I : IS) : Option (Int32) :=
  (f_X4_has (x1) (zI (11) I)).bind fun q1 =>
  (if q1 = 0 then
  (f_X7_cause_b20 (I))
  else
  (if 0 ≤ x2 then
  (if okI (x1) 32 = true then
  (if (I (15) (x1).toNatClampNeg) = (4 : Int32) then
  (f_X7_cause_b38 (x2) (x1) (I))
  else
  (f_X7_cause_b38 (x2) ((-5 : Int32)) (I)))
  else none)
  else
  (f_X7_cause_b20 (I))))
set_option maxHeartbeats 4000000 in
set_option maxRecDepth 100000 in
theorem c_X7_cause_e {z : CTX} {J : JS} (O : OK z cX7_cause RX7 6 STop 123 (rm_ 1 21) (some .int)) : ∀ (x1 : Int32) (x2 : Int32) (I : IS) (q : Int32), f_X7_cause x1 x2 I = some q → G z 0 [(0, .ref (0)), (1, .int (x1)), (2, .int (x2))] [] I J (some (.int q), I, J) := by
  intro x1 x2 I q hF
  rw [f_X7_cause] at hF
  refine g_aload_n O (pc := 0) dX7_cause_0 0 rfl ?_
  refine g_getR O (pc := 1) isC_X7 dX7_cause_1 fw_X7_12 (by decide) fd_STop_0_0 ?_
  refine g_getR O (pc := 4) isC_X6 dX7_cause_4 fw_X7_67 (by decide) fd_STop_1_1 ?_
  refine g_astore_n O (pc := 7) (L' := [(3, .ref (11)), (0, .ref (0)), (1, .int (x1)), (2, .int (x2))]) dX7_cause_7 (by decide) rfl ?_
  refine g_aload_n O (pc := 8) dX7_cause_8 0 rfl ?_
  refine g_iload_n O (pc := 9) dX7_cause_9 2 rfl ?_
  obtain ⟨q1, e2, hF⟩ := bnd hF
  refine g_Vi O (pc := 10) (st := []) dX7_cause_10 (mc_X4_has (zI (11) J) e2) cb_X4_has ml_X7_100 isC_X4 ob_STas (zm1R sub_Top_11 _ _ _) (rmok (Nat.le_of_ble_eq_true rfl) (Nat.le_of_ble_eq_true rfl)) (Nat.le_of_ble_eq_true rfl) rfl ?_
  refine g_if_eq O (pc := 13) 20 dX7_cause_13 (by decide) (fun h3 => ?_) (fun h3 => ?_)
  · rw [if_pos h3] at hF
    refine g_sub [] (L' := []) rfl ?_
    exact c_X7_cause_b20 O _ _ hF
  · rw [if_neg h3] at hF
    refine g_iload_n O (pc := 16) dX7_cause_16 3 rfl ?_
    refine g_if_ge O (pc := 17) 22 dX7_cause_17 (by decide) (fun h4 => ?_) (fun h4 => ?_)
    · rw [if_pos h4] at hF
      refine g_aload_n O (pc := 22) dX7_cause_22 0 rfl ?_
      refine g_getR O (pc := 23) isC_X4 dX7_cause_23 fw_X7_103 (by decide) fd_STop_11_3 ?_
      refine g_iload_n O (pc := 26) dX7_cause_26 2 rfl ?_
      obtain ⟨h5, hF⟩ := gd hF
      refine g_il O (pc := 27) dX7_cause_27 ar_STop_15 h5 ?_
      refine g_iconst O (pc := 28) dX7_cause_28 (ic_4) ?_
      refine g_icmp_ne O (pc := 29) 36 dX7_cause_29 (by decide) (fun h6 => ?_) (fun h6 => ?_)
      · rw [if_neg h6] at hF
        refine g_bipush O (pc := 36) dX7_cause_36 bp_m5 ?_
        refine g_sub [3, 0] (L' := [(2, .int (x2)), (3, .ref (11))]) rfl ?_
        exact c_X7_cause_b38 O _ _ _ _ hF
      · rw [if_pos h6] at hF
        refine g_iload_n O (pc := 32) dX7_cause_32 2 rfl ?_
        refine g_goto O (pc := 33) 38 dX7_cause_33 (by decide) ?_
        refine g_sub [3, 0] (L' := [(2, .int (x2)), (3, .ref (11))]) rfl ?_
        exact c_X7_cause_b38 O _ _ _ _ hF
    · rw [if_neg h4] at hF
      refine g_sub [] (L' := []) rfl ?_
      exact c_X7_cause_b20 O _ _ hF

theorem mc_X7_cause {x1 : Int32} {x2 : Int32} {I : IS} (J : JS) {q : Int32} (hF : f_X7_cause x1 x2 I = some q) : MC yX7_cause cX7_cause 6 (some .int) (rm_ 1 21) STop 123 [.ref (0), .int (x1), .int (x2)] I J (some (.int q), I, J) :=
  mc_of pn_X7 (Nat.le_of_ble_eq_true rfl) (fun z O => c_X7_cause_e O _ _ _ _ hF)

def f_X7_count (x1 : Int32) (I : IS) : Option (Int32) :=
  if x1 = 0 then
  (some ((I (11) 8)))
  else if x1 = 1 then
  ((f_X4_howManyEnded (zI (11) I)).bind fun q3 =>
  (some (q3)))
  else if x1 = 2 then
  (some ((I (26) 2)))
  else if x1 = 3 then
  (some ((I (29) 2)))
  else if x1 = 4 then
  (some ((I (32) 2)))
  else if x1 = 5 then
  (some ((I (103) 1)))
  else (some ((-2 : Int32)))
set_option maxHeartbeats 4000000 in
set_option maxRecDepth 100000 in
theorem c_X7_count_e {z : CTX} {J : JS} (O : OK z cX7_count RX7 2 STop 123 (rm_ 1 22) (some .int)) : ∀ (x1 : Int32) (I : IS) (q : Int32), f_X7_count x1 I = some q → G z 0 [(0, .ref (0)), (1, .int (x1))] [] I J (some (.int q), I, J) := by
  intro x1 I q hF
  rw [f_X7_count] at hF
  refine g_iload_n O (pc := 0) dX7_count_0 1 rfl ?_
  by_cases h1 : x1 = 0
  · rw [if_pos h1] at hF
    refine g_tabIn O (pc := 1) (39) 40 dX7_count_1 h1 (by decide) (by decide) rfl (by decide) ?_
    refine g_aload_n O (pc := 40) dX7_count_40 0 rfl ?_
    refine g_getR O (pc := 41) isC_X7 dX7_count_41 fw_X7_12 (by decide) fd_STop_0_0 ?_
    refine g_getR O (pc := 44) isC_X6 dX7_count_44 fw_X7_67 (by decide) fd_STop_1_1 ?_
    refine g_getI O (pc := 47) isC_X4 dX7_count_47 fw_X7_71 (by decide) fd_STop_11_8 ?_
    obtain rfl := Option.some.inj hF
    exact g_ireturn O (pc := 50) dX7_count_50 rfl
  rw [if_neg h1] at hF
  by_cases h2 : x1 = 1
  · rw [if_pos h2] at hF
    refine g_tabIn O (pc := 1) (50) 51 dX7_count_1 h2 (by decide) (by decide) rfl (by decide) ?_
    refine g_aload_n O (pc := 51) dX7_count_51 0 rfl ?_
    refine g_getR O (pc := 52) isC_X7 dX7_count_52 fw_X7_12 (by decide) fd_STop_0_0 ?_
    refine g_getR O (pc := 55) isC_X6 dX7_count_55 fw_X7_67 (by decide) fd_STop_1_1 ?_
    obtain ⟨q3, e4, hF⟩ := bnd hF
    refine g_Vi O (pc := 58) (st := []) dX7_count_58 (mc_X4_howManyEnded (zI (11) J) e4) cb_X4_howManyEnded ml_X7_187 isC_X4 ob_STas (zm1R sub_Top_11 _ _ _) (rmok (Nat.le_of_ble_eq_true rfl) (Nat.le_of_ble_eq_true rfl)) (Nat.le_of_ble_eq_true rfl) rfl ?_
    obtain rfl := Option.some.inj hF
    exact g_ireturn O (pc := 61) dX7_count_61 rfl
  rw [if_neg h2] at hF
  by_cases h5 : x1 = 2
  · rw [if_pos h5] at hF
    refine g_tabIn O (pc := 1) (61) 62 dX7_count_1 h5 (by decide) (by decide) rfl (by decide) ?_
    refine g_aload_n O (pc := 62) dX7_count_62 0 rfl ?_
    refine g_getR O (pc := 63) isC_X7 dX7_count_63 fw_X7_12 (by decide) fd_STop_0_0 ?_
    refine g_getR O (pc := 66) isC_X6 dX7_count_66 fw_X7_199 (by decide) fd_STop_1_3 ?_
    refine g_getI O (pc := 69) isC_X2 dX7_count_69 fw_X7_228 (by decide) fd_STop_26_2 ?_
    obtain rfl := Option.some.inj hF
    exact g_ireturn O (pc := 72) dX7_count_72 rfl
  rw [if_neg h5] at hF
  by_cases h6 : x1 = 3
  · rw [if_pos h6] at hF
    refine g_tabIn O (pc := 1) (72) 73 dX7_count_1 h6 (by decide) (by decide) rfl (by decide) ?_
    refine g_aload_n O (pc := 73) dX7_count_73 0 rfl ?_
    refine g_getR O (pc := 74) isC_X7 dX7_count_74 fw_X7_12 (by decide) fd_STop_0_0 ?_
    refine g_getR O (pc := 77) isC_X6 dX7_count_77 fw_X7_225 (by decide) fd_STop_1_4 ?_
    refine g_getI O (pc := 80) isC_X2 dX7_count_80 fw_X7_228 (by decide) fd_STop_29_2 ?_
    obtain rfl := Option.some.inj hF
    exact g_ireturn O (pc := 83) dX7_count_83 rfl
  rw [if_neg h6] at hF
  by_cases h7 : x1 = 4
  · rw [if_pos h7] at hF
    refine g_tabIn O (pc := 1) (83) 84 dX7_count_1 h7 (by decide) (by decide) rfl (by decide) ?_
    refine g_aload_n O (pc := 84) dX7_count_84 0 rfl ?_
    refine g_getR O (pc := 85) isC_X7 dX7_count_85 fw_X7_12 (by decide) fd_STop_0_0 ?_
    refine g_getR O (pc := 88) isC_X6 dX7_count_88 fw_X7_239 (by decide) fd_STop_1_5 ?_
    refine g_getI O (pc := 91) isC_X2 dX7_count_91 fw_X7_228 (by decide) fd_STop_32_2 ?_
    obtain rfl := Option.some.inj hF
    exact g_ireturn O (pc := 94) dX7_count_94 rfl
  rw [if_neg h7] at hF
  by_cases h8 : x1 = 5
  · rw [if_pos h8] at hF
    refine g_tabIn O (pc := 1) (94) 95 dX7_count_1 h8 (by decide) (by decide) rfl (by decide) ?_
    refine g_aload_n O (pc := 95) dX7_count_95 0 rfl ?_
    refine g_getR O (pc := 96) isC_X7 dX7_count_96 fw_X7_27 (by decide) fd_STop_0_3 ?_
    refine g_getI O (pc := 99) isC_X5 dX7_count_99 fw_X7_57 (by decide) fd_STop_103_1 ?_
    obtain rfl := Option.some.inj hF
    exact g_ireturn O (pc := 102) dX7_count_102 rfl
  rw [if_neg h8] at hF
  have ih1 : ¬ (x1).toInt = 0 := fun q => h1 (Int32.toInt_inj.mp q)
  have ih2 : ¬ (x1).toInt = 1 := fun q => h2 (Int32.toInt_inj.mp q)
  have ih5 : ¬ (x1).toInt = 2 := fun q => h5 (Int32.toInt_inj.mp q)
  have ih6 : ¬ (x1).toInt = 3 := fun q => h6 (Int32.toInt_inj.mp q)
  have ih7 : ¬ (x1).toInt = 4 := fun q => h7 (Int32.toInt_inj.mp q)
  have ih8 : ¬ (x1).toInt = 5 := fun q => h8 (Int32.toInt_inj.mp q)
  refine g_tabOut O (pc := 1) 103 dX7_count_1 (by omega) (by decide) ?_
  refine g_bipush O (pc := 103) dX7_count_103 bp_m2 ?_
  obtain rfl := Option.some.inj hF
  exact g_ireturn O (pc := 105) dX7_count_105 rfl

theorem mc_X7_count {x1 : Int32} {I : IS} (J : JS) {q : Int32} (hF : f_X7_count x1 I = some q) : MC yX7_count cX7_count 2 (some .int) (rm_ 1 22) STop 123 [.ref (0), .int (x1)] I J (some (.int q), I, J) :=
  mc_of pn_X7 (Nat.le_of_ble_eq_true rfl) (fun z O => c_X7_count_e O _ _ _ hF)

def f_X7_ends_b9 (I : IS) : Option (Int32 × IS) :=
  some ((-1 : Int32), I)
set_option maxHeartbeats 4000000 in
set_option maxRecDepth 100000 in
theorem c_X7_ends_b9 {z : CTX} {J : JS} (O : OK z cX7_ends RX7 3 STop 123 (rm_ 5 118) (some .int)) : ∀ (I : IS) (q : Int32 × IS), f_X7_ends_b9 I = some q → G z 9 [] [] I J (some (.int q.1), q.2, J) := by
  intro I q hF
  rw [f_X7_ends_b9] at hF
  refine g_iconst O (pc := 9) dX7_ends_9 (ic_m1) ?_
  obtain rfl := Option.some.inj hF
  exact g_ireturn O (pc := 10) dX7_ends_10 rfl

def f_X7_ends_b102 (s0 : Int32) (I : IS) : Option (Int32 × IS) :=
  some (s0, I)
set_option maxHeartbeats 4000000 in
set_option maxRecDepth 100000 in
theorem c_X7_ends_b102 {z : CTX} {J : JS} (O : OK z cX7_ends RX7 3 STop 123 (rm_ 5 118) (some .int)) : ∀ (s0 : Int32) (I : IS) (q : Int32 × IS), f_X7_ends_b102 s0 I = some q → G z 102 [] [.int (s0)] I J (some (.int q.1), q.2, J) := by
  intro s0 I q hF
  rw [f_X7_ends_b102] at hF
  obtain rfl := Option.some.inj hF
  exact g_ireturn O (pc := 102) dX7_ends_102 rfl

def f_X7_ends_b24 : Nat → Int32 → Int32 → IS → Option (Int32 × IS)
  | 0, _, _, _ => none
  | fu + 1, x1, x2, I =>
    if (I (29) 2) ≤ x2 then
    (if x1 = 0 then
    ((f_X4_howManyEnded (zI (79) I)).bind fun q5 =>
    (f_X7_ends_b102 (q5) (I)))
    else
    ((f_X4_worthOfAllDone (zI (79) I)).bind fun q3 =>
    (f_X7_ends_b102 (q3) (I))))
    else
    (if okI (x2) 10 = true then
    (if okI (x2) 10 = true then
    ((f_X6_goAsPlanned ((I (30) (x2).toNatClampNeg)) ((I (31) (x2).toNatClampNeg)) (zI (69) I)).bind fun q9 =>
    (f_X7_ends_b24 fu (x1) (x2 + (1 : Int32)) ((gI (69) 34 q9 I))))
    else none)
    else none)
set_option maxHeartbeats 4000000 in
set_option maxRecDepth 100000 in
theorem c_X7_ends_b24 {z : CTX} {J : JS} (O : OK z cX7_ends RX7 3 STop 123 (rm_ 5 118) (some .int)) : ∀ (fu : Nat) (x1 : Int32) (x2 : Int32) (I : IS) (q : Int32 × IS), f_X7_ends_b24 fu x1 x2 I = some q → G z 24 [(0, .ref (0)), (1, .int (x1)), (2, .int (x2))] [] I J (some (.int q.1), q.2, J) := by
  intro fu
  induction fu with
  | zero =>
    intro x1 x2 I q hF
    cases hF
  | succ fu ih =>
    intro x1 x2 I q hF
    rw [f_X7_ends_b24] at hF
    refine g_iload_n O (pc := 24) dX7_ends_24 2 rfl ?_
    refine g_aload_n O (pc := 25) dX7_ends_25 0 rfl ?_
    refine g_getR O (pc := 26) isC_X7 dX7_ends_26 fw_X7_12 (by decide) fd_STop_0_0 ?_
    refine g_getR O (pc := 29) isC_X6 dX7_ends_29 fw_X7_225 (by decide) fd_STop_1_4 ?_
    refine g_getI O (pc := 32) isC_X2 dX7_ends_32 fw_X7_228 (by decide) fd_STop_29_2 ?_
    refine g_icmp_ge O (pc := 35) 75 dX7_ends_35 (by decide) (fun h1 => ?_) (fun h1 => ?_)
    · rw [if_pos h1] at hF
      refine g_iload_n O (pc := 75) dX7_ends_75 1 rfl ?_
      refine g_if_ne O (pc := 76) 92 dX7_ends_76 (by decide) (fun h2 => ?_) (fun h2 => ?_)
      · rw [if_neg h2] at hF
        refine g_aload_n O (pc := 92) dX7_ends_92 0 rfl ?_
        refine g_getR O (pc := 93) isC_X7 dX7_ends_93 fw_X7_21 (by decide) fd_STop_0_2 ?_
        refine g_getR O (pc := 96) isC_X6 dX7_ends_96 fw_X7_67 (by decide) fd_STop_69_1 ?_
        obtain ⟨q3, e4, hF⟩ := bnd hF
        refine g_Vi O (pc := 99) (st := []) dX7_ends_99 (mc_X4_worthOfAllDone (zI (79) J) e4) cb_X4_worthOfAllDone ml_X7_222 isC_X4 ob_STas (zm1R sub_Top_79 _ _ _) (rmok (Nat.le_of_ble_eq_true rfl) (Nat.le_of_ble_eq_true rfl)) (Nat.le_of_ble_eq_true rfl) rfl ?_
        refine g_sub [] (L' := []) rfl ?_
        exact c_X7_ends_b102 O _ _ _ hF
      · rw [if_pos h2] at hF
        refine g_aload_n O (pc := 79) dX7_ends_79 0 rfl ?_
        refine g_getR O (pc := 80) isC_X7 dX7_ends_80 fw_X7_21 (by decide) fd_STop_0_2 ?_
        refine g_getR O (pc := 83) isC_X6 dX7_ends_83 fw_X7_67 (by decide) fd_STop_69_1 ?_
        obtain ⟨q5, e6, hF⟩ := bnd hF
        refine g_Vi O (pc := 86) (st := []) dX7_ends_86 (mc_X4_howManyEnded (zI (79) J) e6) cb_X4_howManyEnded ml_X7_187 isC_X4 ob_STas (zm1R sub_Top_79 _ _ _) (rmok (Nat.le_of_ble_eq_true rfl) (Nat.le_of_ble_eq_true rfl)) (Nat.le_of_ble_eq_true rfl) rfl ?_
        refine g_goto O (pc := 89) 102 dX7_ends_89 (by decide) ?_
        refine g_sub [] (L' := []) rfl ?_
        exact c_X7_ends_b102 O _ _ _ hF
    · rw [if_neg h1] at hF
      refine g_aload_n O (pc := 38) dX7_ends_38 0 rfl ?_
      refine g_getR O (pc := 39) isC_X7 dX7_ends_39 fw_X7_21 (by decide) fd_STop_0_2 ?_
      refine g_aload_n O (pc := 42) dX7_ends_42 0 rfl ?_
      refine g_getR O (pc := 43) isC_X7 dX7_ends_43 fw_X7_12 (by decide) fd_STop_0_0 ?_
      refine g_getR O (pc := 46) isC_X6 dX7_ends_46 fw_X7_225 (by decide) fd_STop_1_4 ?_
      refine g_getR O (pc := 49) isC_X2 dX7_ends_49 fw_X7_229 (by decide) fd_STop_29_0 ?_
      refine g_iload_n O (pc := 52) dX7_ends_52 2 rfl ?_
      obtain ⟨h7, hF⟩ := gd hF
      refine g_il O (pc := 53) dX7_ends_53 ar_STop_30 h7 ?_
      refine g_aload_n O (pc := 54) dX7_ends_54 0 rfl ?_
      refine g_getR O (pc := 55) isC_X7 dX7_ends_55 fw_X7_12 (by decide) fd_STop_0_0 ?_
      refine g_getR O (pc := 58) isC_X6 dX7_ends_58 fw_X7_225 (by decide) fd_STop_1_4 ?_
      refine g_getR O (pc := 61) isC_X2 dX7_ends_61 fw_X7_232 (by decide) fd_STop_29_1 ?_
      refine g_iload_n O (pc := 64) dX7_ends_64 2 rfl ?_
      obtain ⟨h8, hF⟩ := gd hF
      refine g_il O (pc := 65) dX7_ends_65 ar_STop_31 h8 ?_
      obtain ⟨q9, e10, hF⟩ := bnd hF
      refine g_Vv O (pc := 66) (st := []) dX7_ends_66 (mc_X6_goAsPlanned (zI (69) J) e10) cb_X6_goAsPlanned ml_X7_235 isC_X6 ob_SWor (zm1I sub_Top_asked _ _ _ _) (rmok (Nat.le_of_ble_eq_true rfl) (Nat.le_of_ble_eq_true rfl)) (Nat.le_of_ble_eq_true rfl) rfl ?_
      refine g_iinc O (pc := 69) (v := x2 + (1 : Int32)) (L' := [(2, .int (x2 + (1 : Int32))), (0, .ref (0)), (1, .int (x1))]) dX7_ends_69 2 rfl rfl (by decide) rfl ?_
      refine g_goto O (pc := 72) 24 dX7_ends_72 (by decide) ?_
      refine g_sub [1, 2, 0] (L' := [(0, .ref (0)), (1, .int (x1)), (2, .int (x2 + (1 : Int32)))]) rfl ?_
      exact ih _ _ _ _ hF

def f_X7_ends (x1 : Int32) (I : IS) : Option (Int32 × IS) :=
  if x1 < 0 then
  (f_X7_ends_b9 (I))
  else
  (if x1 ≤ (1 : Int32) then
  ((f_X6_become (zI2 (69) 34 (1) I)).bind fun q3 =>
  (f_X7_ends_b24 LF (x1) ((0 : Int32)) ((gI2 (69) 34 (1) 34 q3 I))))
  else
  (f_X7_ends_b9 (I)))
set_option maxHeartbeats 4000000 in
set_option maxRecDepth 100000 in
theorem c_X7_ends_e {z : CTX} {J : JS} (O : OK z cX7_ends RX7 3 STop 123 (rm_ 5 118) (some .int)) : ∀ (x1 : Int32) (I : IS) (q : Int32 × IS), f_X7_ends x1 I = some q → G z 0 [(0, .ref (0)), (1, .int (x1))] [] I J (some (.int q.1), q.2, J) := by
  intro x1 I q hF
  rw [f_X7_ends] at hF
  refine g_iload_n O (pc := 0) dX7_ends_0 1 rfl ?_
  refine g_if_lt O (pc := 1) 9 dX7_ends_1 (by decide) (fun h1 => ?_) (fun h1 => ?_)
  · rw [if_pos h1] at hF
    refine g_sub [] (L' := []) rfl ?_
    exact c_X7_ends_b9 O _ _ hF
  · rw [if_neg h1] at hF
    refine g_iload_n O (pc := 4) dX7_ends_4 1 rfl ?_
    refine g_iconst O (pc := 5) dX7_ends_5 (ic_1) ?_
    refine g_icmp_le O (pc := 6) 11 dX7_ends_6 (by decide) (fun h2 => ?_) (fun h2 => ?_)
    · rw [if_pos h2] at hF
      refine g_aload_n O (pc := 11) dX7_ends_11 0 rfl ?_
      refine g_getR O (pc := 12) isC_X7 dX7_ends_12 fw_X7_21 (by decide) fd_STop_0_2 ?_
      refine g_aload_n O (pc := 15) dX7_ends_15 0 rfl ?_
      refine g_getR O (pc := 16) isC_X7 dX7_ends_16 fw_X7_12 (by decide) fd_STop_0_0 ?_
      obtain ⟨q3, e4, hF⟩ := bnd hF
      refine g_Vv O (pc := 19) (st := []) dX7_ends_19 (mc_X6_become (zI2 (69) 34 (1) J) e4) cb_X6_become ml_X7_183 isC_X6 ob_dbl_34_SWor (zm2I rfl (by decide) (sub_o2 clo_Wor sub_Top_asked sub_Top_now (by decide)) _ _ _ _) (rmok (Nat.le_of_ble_eq_true rfl) (Nat.le_of_ble_eq_true rfl)) (Nat.le_of_ble_eq_true rfl) rfl ?_
      refine g_iconst O (pc := 22) dX7_ends_22 (ic_0) ?_
      refine g_istore_n O (pc := 23) (L' := [(2, .int ((0 : Int32))), (0, .ref (0)), (1, .int (x1))]) dX7_ends_23 (by decide) rfl ?_
      refine g_sub [1, 2, 0] (L' := [(0, .ref (0)), (1, .int (x1)), (2, .int ((0 : Int32)))]) rfl ?_
      exact c_X7_ends_b24 O _ _ _ _ _ hF
    · rw [if_neg h2] at hF
      refine g_sub [] (L' := []) rfl ?_
      exact c_X7_ends_b9 O _ _ hF

theorem mc_X7_ends {x1 : Int32} {I : IS} (J : JS) {q : Int32 × IS} (hF : f_X7_ends x1 I = some q) : MC yX7_ends cX7_ends 3 (some .int) (rm_ 5 118) STop 123 [.ref (0), .int (x1)] I J (some (.int q.1), q.2, J) :=
  mc_of pn_X7 (Nat.le_of_ble_eq_true rfl) (fun z O => c_X7_ends_e O _ _ _ hF)

def f_X7_feed_b10 (I : IS) : Option (Int32 × IS) :=
  some ((-2 : Int32), I)
set_option maxHeartbeats 4000000 in
set_option maxRecDepth 100000 in
theorem c_X7_feed_b10 {z : CTX} {J : JS} (O : OK z cX7_feed RX7 2 STop 123 (rm_ 1 21) (some .int)) : ∀ (I : IS) (q : Int32 × IS), f_X7_feed_b10 I = some q → G z 10 [] [] I J (some (.int q.1), q.2, J) := by
  intro I q hF
  rw [f_X7_feed_b10] at hF
  refine g_bipush O (pc := 10) dX7_feed_10 bp_m2 ?_
  obtain rfl := Option.some.inj hF
  exact g_ireturn O (pc := 12) dX7_feed_12 rfl

def f_X7_feed_b36 (s0 : Int32) (I : IS) : Option (Int32 × IS) :=
  some (s0, I)
set_option maxHeartbeats 4000000 in
set_option maxRecDepth 100000 in
theorem c_X7_feed_b36 {z : CTX} {J : JS} (O : OK z cX7_feed RX7 2 STop 123 (rm_ 1 21) (some .int)) : ∀ (s0 : Int32) (I : IS) (q : Int32 × IS), f_X7_feed_b36 s0 I = some q → G z 36 [] [.int (s0)] I J (some (.int q.1), q.2, J) := by
  intro s0 I q hF
  rw [f_X7_feed_b36] at hF
  obtain rfl := Option.some.inj hF
  exact g_ireturn O (pc := 36) dX7_feed_36 rfl

def f_X7_feed (x1 : Int32) (I : IS) : Option (Int32 × IS) :=
  if x1 < 0 then
  (f_X7_feed_b10 (I))
  else
  (if x1 ≤ (127 : Int32) then
  ((f_X5_append (x1) (zI (103) I)).bind fun q3 =>
  (if q3.1 = 0 then
  (f_X7_feed_b36 ((-4 : Int32)) ((gI (103) 7 q3.2 I)))
  else
  (f_X7_feed_b36 (((gI (103) 7 q3.2 I) (103) 1)) ((gI (103) 7 q3.2 I)))))
  else
  (f_X7_feed_b10 (I)))
set_option maxHeartbeats 4000000 in
set_option maxRecDepth 100000 in
theorem c_X7_feed_e {z : CTX} {J : JS} (O : OK z cX7_feed RX7 2 STop 123 (rm_ 1 21) (some .int)) : ∀ (x1 : Int32) (I : IS) (q : Int32 × IS), f_X7_feed x1 I = some q → G z 0 [(0, .ref (0)), (1, .int (x1))] [] I J (some (.int q.1), q.2, J) := by
  intro x1 I q hF
  rw [f_X7_feed] at hF
  refine g_iload_n O (pc := 0) dX7_feed_0 1 rfl ?_
  refine g_if_lt O (pc := 1) 10 dX7_feed_1 (by decide) (fun h1 => ?_) (fun h1 => ?_)
  · rw [if_pos h1] at hF
    refine g_sub [] (L' := []) rfl ?_
    exact c_X7_feed_b10 O _ _ hF
  · rw [if_neg h1] at hF
    refine g_iload_n O (pc := 4) dX7_feed_4 1 rfl ?_
    refine g_bipush O (pc := 5) dX7_feed_5 bp_127 ?_
    refine g_icmp_le O (pc := 7) 13 dX7_feed_7 (by decide) (fun h2 => ?_) (fun h2 => ?_)
    · rw [if_pos h2] at hF
      refine g_aload_n O (pc := 13) dX7_feed_13 0 rfl ?_
      refine g_getR O (pc := 14) isC_X7 dX7_feed_14 fw_X7_27 (by decide) fd_STop_0_3 ?_
      refine g_iload_n O (pc := 17) dX7_feed_17 1 rfl ?_
      obtain ⟨q3, e4, hF⟩ := bnd hF
      refine g_Vi O (pc := 18) (st := []) dX7_feed_18 (mc_X5_append (zI (103) J) e4) cb_X5_append ml_X7_53 isC_X5 ob_STxt (zm1I sub_Top_text _ _ _ _) (rmok (Nat.le_of_ble_eq_true rfl) (Nat.le_of_ble_eq_true rfl)) (Nat.le_of_ble_eq_true rfl) rfl ?_
      refine g_if_eq O (pc := 21) 34 dX7_feed_21 (by decide) (fun h5 => ?_) (fun h5 => ?_)
      · rw [if_pos h5] at hF
        refine g_bipush O (pc := 34) dX7_feed_34 bp_m4 ?_
        refine g_sub [] (L' := []) rfl ?_
        exact c_X7_feed_b36 O _ _ _ hF
      · rw [if_neg h5] at hF
        refine g_aload_n O (pc := 24) dX7_feed_24 0 rfl ?_
        refine g_getR O (pc := 25) isC_X7 dX7_feed_25 fw_X7_27 (by decide) fd_STop_0_3 ?_
        refine g_getI O (pc := 28) isC_X5 dX7_feed_28 fw_X7_57 (by decide) fd_STop_103_1 ?_
        refine g_goto O (pc := 31) 36 dX7_feed_31 (by decide) ?_
        refine g_sub [] (L' := []) rfl ?_
        exact c_X7_feed_b36 O _ _ _ hF
    · rw [if_neg h2] at hF
      refine g_sub [] (L' := []) rfl ?_
      exact c_X7_feed_b10 O _ _ hF

theorem mc_X7_feed {x1 : Int32} {I : IS} (J : JS) {q : Int32 × IS} (hF : f_X7_feed x1 I = some q) : MC yX7_feed cX7_feed 2 (some .int) (rm_ 1 21) STop 123 [.ref (0), .int (x1)] I J (some (.int q.1), q.2, J) :=
  mc_of pn_X7 (Nat.le_of_ble_eq_true rfl) (fun z O => c_X7_feed_e O _ _ _ hF)

def f_X7_image (I : IS) : Option (Int32 × IS) :=
  (f_X6_become (zI2 (35) 34 (1) I)).bind fun q1 =>
  (some (((u2 (gI2 (35) 34 (1) 34 q1 I) (0) 5 ((1 : Int32))) (45) 8), (u2 (gI2 (35) 34 (1) 34 q1 I) (0) 5 ((1 : Int32)))))
set_option maxHeartbeats 4000000 in
set_option maxRecDepth 100000 in
theorem c_X7_image_e {z : CTX} {J : JS} (O : OK z cX7_image RX7 1 STop 123 (rm_ 3 61) (some .int)) : ∀ (I : IS) (q : Int32 × IS), f_X7_image I = some q → G z 0 [(0, .ref (0))] [] I J (some (.int q.1), q.2, J) := by
  intro I q hF
  rw [f_X7_image] at hF
  refine g_aload_n O (pc := 0) dX7_image_0 0 rfl ?_
  refine g_getR O (pc := 1) isC_X7 dX7_image_1 fw_X7_18 (by decide) fd_STop_0_1 ?_
  refine g_aload_n O (pc := 4) dX7_image_4 0 rfl ?_
  refine g_getR O (pc := 5) isC_X7 dX7_image_5 fw_X7_12 (by decide) fd_STop_0_0 ?_
  obtain ⟨q1, e2, hF⟩ := bnd hF
  refine g_Vv O (pc := 8) (st := []) dX7_image_8 (mc_X6_become (zI2 (35) 34 (1) J) e2) cb_X6_become ml_X7_183 isC_X6 ob_dbl_34_SWor (zm2I rfl (by decide) (sub_o2 clo_Wor sub_Top_kept sub_Top_now (by decide)) _ _ _ _) (rmok (Nat.le_of_ble_eq_true rfl) (Nat.le_of_ble_eq_true rfl)) (Nat.le_of_ble_eq_true rfl) rfl ?_
  refine g_aload_n O (pc := 11) dX7_image_11 0 rfl ?_
  refine g_iconst O (pc := 12) dX7_image_12 (ic_1) ?_
  refine g_putZ O (pc := 13) isC_X7 isT_X7 dX7_image_13 fw_X7_38 (by decide) rfl rfl (by decide) fd_STop_0_5 ?_
  refine g_aload_n O (pc := 16) dX7_image_16 0 rfl ?_
  refine g_getR O (pc := 17) isC_X7 dX7_image_17 fw_X7_18 (by decide) fd_STop_0_1 ?_
  refine g_getR O (pc := 20) isC_X6 dX7_image_20 fw_X7_67 (by decide) fd_STop_35_1 ?_
  refine g_getI O (pc := 23) isC_X4 dX7_image_23 fw_X7_71 (by decide) fd_STop_45_8 ?_
  obtain rfl := Option.some.inj hF
  exact g_ireturn O (pc := 26) dX7_image_26 rfl

theorem mc_X7_image {I : IS} (J : JS) {q : Int32 × IS} (hF : f_X7_image I = some q) : MC yX7_image cX7_image 1 (some .int) (rm_ 3 61) STop 123 [.ref (0)] I J (some (.int q.1), q.2, J) :=
  mc_of pn_X7 (Nat.le_of_ble_eq_true rfl) (fun z O => c_X7_image_e O _ _ hF)

def f_X7_isAsSeen_b40 : Nat → Int32 → IS → Option (Int32 × IS)
  | 0, _, _ => none
  | fu + 1, x2, I =>
    if (I (26) 2) ≤ x2 then
    (some ((1 : Int32), I))
    else
    (if okI (x2) 5 = true then
    ((f_X1_watchedTask ((I (28) (x2).toNatClampNeg)) (zI (88) I)).bind fun q3 =>
    (if okI (x2) 5 = true then
    (if q3 = (I (27) (x2).toNatClampNeg) then
    (f_X7_isAsSeen_b40 fu (x2 + (1 : Int32)) (I))
    else
    (some ((0 : Int32), I)))
    else none))
    else none)
set_option maxHeartbeats 4000000 in
set_option maxRecDepth 100000 in
theorem c_X7_isAsSeen_b40 {z : CTX} {J : JS} (O : OK z cX7_isAsSeen RX7 3 STop 123 (rm_ 5 118) (some .boolean)) : ∀ (fu : Nat) (x2 : Int32) (I : IS) (q : Int32 × IS), f_X7_isAsSeen_b40 fu x2 I = some q → G z 40 [(0, .ref (0)), (2, .int (x2))] [] I J (some (.int q.1), q.2, J) := by
  intro fu
  induction fu with
  | zero =>
    intro x2 I q hF
    cases hF
  | succ fu ih =>
    intro x2 I q hF
    rw [f_X7_isAsSeen_b40] at hF
    refine g_iload_n O (pc := 40) dX7_isAsSeen_40 1 rfl ?_
    refine g_aload_n O (pc := 41) dX7_isAsSeen_41 0 rfl ?_
    refine g_getR O (pc := 42) isC_X7 dX7_isAsSeen_42 fw_X7_12 (by decide) fd_STop_0_0 ?_
    refine g_getR O (pc := 45) isC_X6 dX7_isAsSeen_45 fw_X7_199 (by decide) fd_STop_1_3 ?_
    refine g_getI O (pc := 48) isC_X2 dX7_isAsSeen_48 fw_X7_228 (by decide) fd_STop_26_2 ?_
    refine g_icmp_ge O (pc := 51) 99 dX7_isAsSeen_51 (by decide) (fun h1 => ?_) (fun h1 => ?_)
    · rw [if_pos h1] at hF
      refine g_iconst O (pc := 99) dX7_isAsSeen_99 (ic_1) ?_
      obtain rfl := Option.some.inj hF
      exact g_zreturn O (pc := 100) dX7_isAsSeen_100 (by decide) rfl
    · rw [if_neg h1] at hF
      refine g_aload_n O (pc := 54) dX7_isAsSeen_54 0 rfl ?_
      refine g_getR O (pc := 55) isC_X7 dX7_isAsSeen_55 fw_X7_21 (by decide) fd_STop_0_2 ?_
      refine g_getR O (pc := 58) isC_X6 dX7_isAsSeen_58 fw_X7_172 (by decide) fd_STop_69_2 ?_
      refine g_aload_n O (pc := 61) dX7_isAsSeen_61 0 rfl ?_
      refine g_getR O (pc := 62) isC_X7 dX7_isAsSeen_62 fw_X7_12 (by decide) fd_STop_0_0 ?_
      refine g_getR O (pc := 65) isC_X6 dX7_isAsSeen_65 fw_X7_199 (by decide) fd_STop_1_3 ?_
      refine g_getR O (pc := 68) isC_X2 dX7_isAsSeen_68 fw_X7_232 (by decide) fd_STop_26_1 ?_
      refine g_iload_n O (pc := 71) dX7_isAsSeen_71 1 rfl ?_
      obtain ⟨h2, hF⟩ := gd hF
      refine g_il O (pc := 72) dX7_isAsSeen_72 ar_STop_28 h2 ?_
      obtain ⟨q3, e4, hF⟩ := bnd hF
      refine g_Vi O (pc := 73) (st := []) dX7_isAsSeen_73 (mc_X1_watchedTask (zI (88) J) e4) cb_X1_watchedTask ml_X7_272 isC_X1 ob_SEnt (zm1R sub_Top_88 _ _ _) (rmok (Nat.le_of_ble_eq_true rfl) (Nat.le_of_ble_eq_true rfl)) (Nat.le_of_ble_eq_true rfl) rfl ?_
      refine g_aload_n O (pc := 76) dX7_isAsSeen_76 0 rfl ?_
      refine g_getR O (pc := 77) isC_X7 dX7_isAsSeen_77 fw_X7_12 (by decide) fd_STop_0_0 ?_
      refine g_getR O (pc := 80) isC_X6 dX7_isAsSeen_80 fw_X7_199 (by decide) fd_STop_1_3 ?_
      refine g_getR O (pc := 83) isC_X2 dX7_isAsSeen_83 fw_X7_229 (by decide) fd_STop_26_0 ?_
      refine g_iload_n O (pc := 86) dX7_isAsSeen_86 1 rfl ?_
      obtain ⟨h5, hF⟩ := gd hF
      refine g_il O (pc := 87) dX7_isAsSeen_87 ar_STop_27 h5 ?_
      refine g_icmp_eq O (pc := 88) 93 dX7_isAsSeen_88 (by decide) (fun h6 => ?_) (fun h6 => ?_)
      · rw [if_pos h6] at hF
        refine g_iinc O (pc := 93) (v := x2 + (1 : Int32)) (L' := [(2, .int (x2 + (1 : Int32))), (0, .ref (0))]) dX7_isAsSeen_93 1 rfl rfl (by decide) rfl ?_
        refine g_goto O (pc := 96) 40 dX7_isAsSeen_96 (by decide) ?_
        refine g_sub [1, 0] (L' := [(0, .ref (0)), (2, .int (x2 + (1 : Int32)))]) rfl ?_
        exact ih _ _ _ hF
      · rw [if_neg h6] at hF
        refine g_iconst O (pc := 91) dX7_isAsSeen_91 (ic_0) ?_
        obtain rfl := Option.some.inj hF
        exact g_zreturn O (pc := 92) dX7_isAsSeen_92 (by decide) rfl

def f_X7_isAsSeen (x1 : Int32) (I : IS) : Option (Int32 × IS) :=
  (f_X6_become (zI2 (69) 34 (1) I)).bind fun q1 =>
  ((f_X1_watch (zI (88) (u2 (gI2 (69) 34 (1) 34 q1 I) (69) 7 (x1)))).bind fun q3 =>
  ((f_X6_goRoundsTillOver ((60 : Int32)) (zI (69) (gI (88) 6 q3 (u2 (gI2 (69) 34 (1) 34 q1 I) (69) 7 (x1))))).bind fun q5 =>
  (f_X7_isAsSeen_b40 LF ((0 : Int32)) ((gI (69) 34 q5 (gI (88) 6 q3 (u2 (gI2 (69) 34 (1) 34 q1 I) (69) 7 (x1))))))))
set_option maxHeartbeats 4000000 in
set_option maxRecDepth 100000 in
theorem c_X7_isAsSeen_e {z : CTX} {J : JS} (O : OK z cX7_isAsSeen RX7 3 STop 123 (rm_ 5 118) (some .boolean)) : ∀ (x1 : Int32) (I : IS) (q : Int32 × IS), f_X7_isAsSeen x1 I = some q → G z 0 [(0, .ref (0)), (1, .int (x1))] [] I J (some (.int q.1), q.2, J) := by
  intro x1 I q hF
  rw [f_X7_isAsSeen] at hF
  refine g_aload_n O (pc := 0) dX7_isAsSeen_0 0 rfl ?_
  refine g_getR O (pc := 1) isC_X7 dX7_isAsSeen_1 fw_X7_21 (by decide) fd_STop_0_2 ?_
  refine g_aload_n O (pc := 4) dX7_isAsSeen_4 0 rfl ?_
  refine g_getR O (pc := 5) isC_X7 dX7_isAsSeen_5 fw_X7_12 (by decide) fd_STop_0_0 ?_
  obtain ⟨q1, e2, hF⟩ := bnd hF
  refine g_Vv O (pc := 8) (st := []) dX7_isAsSeen_8 (mc_X6_become (zI2 (69) 34 (1) J) e2) cb_X6_become ml_X7_183 isC_X6 ob_dbl_34_SWor (zm2I rfl (by decide) (sub_o2 clo_Wor sub_Top_asked sub_Top_now (by decide)) _ _ _ _) (rmok (Nat.le_of_ble_eq_true rfl) (Nat.le_of_ble_eq_true rfl)) (Nat.le_of_ble_eq_true rfl) rfl ?_
  refine g_aload_n O (pc := 11) dX7_isAsSeen_11 0 rfl ?_
  refine g_getR O (pc := 12) isC_X7 dX7_isAsSeen_12 fw_X7_21 (by decide) fd_STop_0_2 ?_
  refine g_iload_n O (pc := 15) dX7_isAsSeen_15 1 rfl ?_
  refine g_putI O (pc := 16) isC_X6 isT_X6 dX7_isAsSeen_16 fw_X7_50 (by decide) rfl rfl fd_STop_69_7 ?_
  refine g_aload_n O (pc := 19) dX7_isAsSeen_19 0 rfl ?_
  refine g_getR O (pc := 20) isC_X7 dX7_isAsSeen_20 fw_X7_21 (by decide) fd_STop_0_2 ?_
  refine g_getR O (pc := 23) isC_X6 dX7_isAsSeen_23 fw_X7_172 (by decide) fd_STop_69_2 ?_
  obtain ⟨q3, e4, hF⟩ := bnd hF
  refine g_Vv O (pc := 26) (st := []) dX7_isAsSeen_26 (mc_X1_watch (zI (88) J) e4) cb_X1_watch ml_X7_269 isC_X1 ob_SEnt (zm1I sub_Top_88 _ _ _ _) (rmok (Nat.le_of_ble_eq_true rfl) (Nat.le_of_ble_eq_true rfl)) (Nat.le_of_ble_eq_true rfl) rfl ?_
  refine g_aload_n O (pc := 29) dX7_isAsSeen_29 0 rfl ?_
  refine g_getR O (pc := 30) isC_X7 dX7_isAsSeen_30 fw_X7_21 (by decide) fd_STop_0_2 ?_
  refine g_bipush O (pc := 33) dX7_isAsSeen_33 bp_60 ?_
  obtain ⟨q5, e6, hF⟩ := bnd hF
  refine g_Vv O (pc := 35) (st := []) dX7_isAsSeen_35 (mc_X6_goRoundsTillOver (zI (69) J) e6) cb_X6_goRoundsTillOver ml_X7_215 isC_X6 ob_SWor (zm1I sub_Top_asked _ _ _ _) (rmok (Nat.le_of_ble_eq_true rfl) (Nat.le_of_ble_eq_true rfl)) (Nat.le_of_ble_eq_true rfl) rfl ?_
  refine g_iconst O (pc := 38) dX7_isAsSeen_38 (ic_0) ?_
  refine g_istore_n O (pc := 39) (L' := [(2, .int ((0 : Int32))), (0, .ref (0)), (1, .int (x1))]) dX7_isAsSeen_39 (by decide) rfl ?_
  refine g_sub [1, 0] (L' := [(0, .ref (0)), (2, .int ((0 : Int32)))]) rfl ?_
  exact c_X7_isAsSeen_b40 O _ _ _ _ hF

theorem mc_X7_isAsSeen {x1 : Int32} {I : IS} (J : JS) {q : Int32 × IS} (hF : f_X7_isAsSeen x1 I = some q) : MC yX7_isAsSeen cX7_isAsSeen 3 (some .boolean) (rm_ 5 118) STop 123 [.ref (0), .int (x1)] I J (some (.int q.1), q.2, J) :=
  mc_of pn_X7 (Nat.le_of_ble_eq_true rfl) (fun z O => c_X7_isAsSeen_e O _ _ _ hF)

def f_X7_isTape_b18 (s0 : Int32) (I : IS) : Option (Int32) :=
  if okZ (s0) = true then some (s0) else none
set_option maxHeartbeats 4000000 in
set_option maxRecDepth 100000 in
theorem c_X7_isTape_b18 {z : CTX} {J : JS} (O : OK z cX7_isTape RX7 2 STop 123 (rm_ 0 0) (some .boolean)) : ∀ (s0 : Int32) (I : IS) (q : Int32), f_X7_isTape_b18 s0 I = some q → G z 18 [] [.int (s0)] I J (some (.int q), I, J) := by
  intro s0 I q hF
  rw [f_X7_isTape_b18] at hF
  obtain ⟨h1, hF⟩ := gd hF
  obtain rfl := Option.some.inj hF
  exact g_zreturn O (pc := 18) dX7_isTape_18 h1 rfl

def f_X7_isTape_b17 (I : IS) : Option (Int32) :=
  f_X7_isTape_b18 ((0 : Int32)) (I)
set_option maxHeartbeats 4000000 in
set_option maxRecDepth 100000 in
theorem c_X7_isTape_b17 {z : CTX} {J : JS} (O : OK z cX7_isTape RX7 2 STop 123 (rm_ 0 0) (some .boolean)) : ∀ (I : IS) (q : Int32), f_X7_isTape_b17 I = some q → G z 17 [] [] I J (some (.int q), I, J) := by
  intro I q hF
  rw [f_X7_isTape_b17] at hF
  refine g_iconst O (pc := 17) dX7_isTape_17 (ic_0) ?_
  refine g_sub [] (L' := []) rfl ?_
  exact c_X7_isTape_b18 O _ _ _ hF

def f_X7_isTape (x1 : Int32) (I : IS) : Option (Int32) :=
  if x1 < 0 then
  (f_X7_isTape_b17 (I))
  else
  (if (6 : Int32) ≤ x1 then
  (f_X7_isTape_b17 (I))
  else
  (f_X7_isTape_b18 ((1 : Int32)) (I)))
set_option maxHeartbeats 4000000 in
set_option maxRecDepth 100000 in
theorem c_X7_isTape_e {z : CTX} {J : JS} (O : OK z cX7_isTape RX7 2 STop 123 (rm_ 0 0) (some .boolean)) : ∀ (x1 : Int32) (I : IS) (q : Int32), f_X7_isTape x1 I = some q → G z 0 [(0, .ref (0)), (1, .int (x1))] [] I J (some (.int q), I, J) := by
  intro x1 I q hF
  rw [f_X7_isTape] at hF
  refine g_iload_n O (pc := 0) dX7_isTape_0 1 rfl ?_
  refine g_if_lt O (pc := 1) 17 dX7_isTape_1 (by decide) (fun h1 => ?_) (fun h1 => ?_)
  · rw [if_pos h1] at hF
    refine g_sub [] (L' := []) rfl ?_
    exact c_X7_isTape_b17 O _ _ hF
  · rw [if_neg h1] at hF
    refine g_iload_n O (pc := 4) dX7_isTape_4 1 rfl ?_
    refine g_aload_n O (pc := 5) dX7_isTape_5 0 rfl ?_
    refine g_getR O (pc := 6) isC_X7 dX7_isTape_6 fw_X7_33 (by decide) fd_STop_0_4 ?_
    refine g_lenR O (pc := 9) dX7_isTape_9 (by decide) rr_STop_110 (v := (6 : Int32)) rfl ?_
    refine g_icmp_ge O (pc := 10) 17 dX7_isTape_10 (by decide) (fun h2 => ?_) (fun h2 => ?_)
    · rw [if_pos h2] at hF
      refine g_sub [] (L' := []) rfl ?_
      exact c_X7_isTape_b17 O _ _ hF
    · rw [if_neg h2] at hF
      refine g_iconst O (pc := 13) dX7_isTape_13 (ic_1) ?_
      refine g_goto O (pc := 14) 18 dX7_isTape_14 (by decide) ?_
      refine g_sub [] (L' := []) rfl ?_
      exact c_X7_isTape_b18 O _ _ _ hF

theorem mc_X7_isTape {x1 : Int32} {I : IS} (J : JS) {q : Int32} (hF : f_X7_isTape x1 I = some q) : MC yX7_isTape cX7_isTape 2 (some .boolean) (rm_ 0 0) STop 123 [.ref (0), .int (x1)] I J (some (.int q), I, J) :=
  mc_of pn_X7 (Nat.le_of_ble_eq_true rfl) (fun z O => c_X7_isTape_e O _ _ _ hF)

def f_X7_item_b43 (I : IS) (J : JS) : Option (Int32 × JS) :=
  some ((-13 : Int32), J)
set_option maxHeartbeats 4000000 in
set_option maxRecDepth 100000 in
theorem c_X7_item_b43 {z : CTX} (O : OK z cX7_item RX7 6 STop 123 (rm_ 1 22) (some .int)) : ∀ (I : IS) (J : JS) (q : Int32 × JS), f_X7_item_b43 I J = some q → G z 43 [] [] I J (some (.int q.1), I, q.2) := by
  intro I J q hF
  rw [f_X7_item_b43] at hF
  refine g_bipush O (pc := 43) dX7_item_43 bp_m13 ?_
  obtain rfl := Option.some.inj hF
  exact g_ireturn O (pc := 45) dX7_item_45 rfl

def f_X7_item (x1 : Int32) (x2 : Int32) (w3 : Int64) (I : IS) (J : JS) : Option (Int32 × JS) :=
  (f_X7_isTape (x1) I).bind fun q1 =>
  (if q1 = 0 then
  (some ((-1 : Int32), J))
  else
  (if okI (x1) 6 = true then
  (if (I (gTap ((x1).toNatClampNeg)) 1) = (-1 : Int32) then
  (some ((-11 : Int32), J))
  else
  (if x2 < 0 then
  (f_X7_item_b43 (I) (J))
  else
  (if x2 < (I (gTap ((x1).toNatClampNeg)) 2) then
  ((f_X3_cut (w3) (zI (gTap ((x1).toNatClampNeg)) I)).bind fun q8 =>
  (if okI (x2) 60 = true then
  (some ((1 : Int32), (u2 J (gTap ((x1).toNatClampNeg) + 1) (x2).toNatClampNeg (q8))))
  else none))
  else
  (f_X7_item_b43 (I) (J)))))
  else none))
set_option maxHeartbeats 4000000 in
set_option maxRecDepth 100000 in
theorem c_X7_item_e {z : CTX} (O : OK z cX7_item RX7 6 STop 123 (rm_ 1 22) (some .int)) : ∀ (x1 : Int32) (x2 : Int32) (w3 : Int64) (I : IS) (J : JS) (q : Int32 × JS), f_X7_item x1 x2 w3 I J = some q → G z 0 [(0, .ref (0)), (1, .int (x1)), (2, .int (x2)), (3, .long (w3))] [] I J (some (.int q.1), I, q.2) := by
  intro x1 x2 w3 I J q hF
  rw [f_X7_item] at hF
  refine g_aload_n O (pc := 0) dX7_item_0 0 rfl ?_
  refine g_iload_n O (pc := 1) dX7_item_1 1 rfl ?_
  obtain ⟨q1, e2, hF⟩ := bnd hF
  refine g_Vi O (pc := 2) (st := []) dX7_item_2 (mc_X7_isTape J e2) cb_X7_isTape ml_X7_242 isC_X7 ob_STop (zm0 _ _ _ _ _ _ _) (rmok (Nat.le_of_ble_eq_true rfl) (Nat.le_of_ble_eq_true rfl)) (Nat.le_of_ble_eq_true rfl) rfl ?_
  refine g_if_ne O (pc := 5) 10 dX7_item_5 (by decide) (fun h3 => ?_) (fun h3 => ?_)
  · rw [if_neg h3] at hF
    refine g_aload_n O (pc := 10) dX7_item_10 0 rfl ?_
    refine g_getR O (pc := 11) isC_X7 dX7_item_11 fw_X7_33 (by decide) fd_STop_0_4 ?_
    refine g_iload_n O (pc := 14) dX7_item_14 1 rfl ?_
    obtain ⟨h4, hF⟩ := gd hF
    refine g_al O (pc := 15) dX7_item_15 rr_STop_110 (Or.inr rfl) h4 ?_
    refine g_astore O (pc := 16) (L' := [(5, .ref (gTap ((x1).toNatClampNeg))), (0, .ref (0)), (1, .int (x1)), (2, .int (x2)), (3, .long (w3))]) dX7_item_16 (by decide) rfl ?_
    refine g_aload O (pc := 18) dX7_item_18 0 rfl ?_
    refine g_getI O (pc := 20) isC_X3 dX7_item_20 fw_X7_245 (by decide) (fd_STop_gTap_1 ((x1).toNatClampNeg)) ?_
    refine g_iconst O (pc := 23) dX7_item_23 (ic_m1) ?_
    refine g_icmp_ne O (pc := 24) 30 dX7_item_24 (by decide) (fun h5 => ?_) (fun h5 => ?_)
    · rw [if_neg h5] at hF
      refine g_iload_n O (pc := 30) dX7_item_30 3 rfl ?_
      refine g_if_lt O (pc := 31) 43 dX7_item_31 (by decide) (fun h6 => ?_) (fun h6 => ?_)
      · rw [if_pos h6] at hF
        refine g_sub [] (L' := []) rfl ?_
        exact c_X7_item_b43 O _ _ _ hF
      · rw [if_neg h6] at hF
        refine g_iload_n O (pc := 34) dX7_item_34 3 rfl ?_
        refine g_aload O (pc := 35) dX7_item_35 0 rfl ?_
        refine g_getI O (pc := 37) isC_X3 dX7_item_37 fw_X7_248 (by decide) (fd_STop_gTap_2 ((x1).toNatClampNeg)) ?_
        refine g_icmp_lt O (pc := 40) 46 dX7_item_40 (by decide) (fun h7 => ?_) (fun h7 => ?_)
        · rw [if_pos h7] at hF
          refine g_aload O (pc := 46) dX7_item_46 0 rfl ?_
          refine g_getR O (pc := 48) isC_X3 dX7_item_48 fw_X7_249 (by decide) (fd_STop_gTap_0 ((x1).toNatClampNeg)) ?_
          refine g_iload_n O (pc := 51) dX7_item_51 3 rfl ?_
          refine g_aload O (pc := 52) dX7_item_52 0 rfl ?_
          refine g_lload_n O (pc := 54) dX7_item_54 4 rfl ?_
          obtain ⟨q8, e9, hF⟩ := bnd hF
          refine g_Vl O (pc := 55) (st := [.int (x2), .ref (gTap ((x1).toNatClampNeg) + 1)]) dX7_item_55 (mc_X3_cut (zI (gTap ((x1).toNatClampNeg)) J) e9) cb_X3_cut ml_X7_256 isC_X3 ob_STap (zm1R (sub_Top_tape ((x1).toNatClampNeg)) _ _ _) (rmok (Nat.le_of_ble_eq_true rfl) (Nat.le_of_ble_eq_true rfl)) (Nat.le_of_ble_eq_true rfl) rfl ?_
          obtain ⟨h10, hF⟩ := gd hF
          refine g_ls O (pc := 58) dX7_item_58 (ar_STop_gTap_1 ((x1).toNatClampNeg)) h10 ?_
          refine g_iconst O (pc := 59) dX7_item_59 (ic_1) ?_
          obtain rfl := Option.some.inj hF
          exact g_ireturn O (pc := 60) dX7_item_60 rfl
        · rw [if_neg h7] at hF
          refine g_sub [] (L' := []) rfl ?_
          exact c_X7_item_b43 O _ _ _ hF
    · rw [if_pos h5] at hF
      refine g_bipush O (pc := 27) dX7_item_27 bp_m11 ?_
      obtain rfl := Option.some.inj hF
      exact g_ireturn O (pc := 29) dX7_item_29 rfl
  · rw [if_pos h3] at hF
    refine g_iconst O (pc := 8) dX7_item_8 (ic_m1) ?_
    obtain rfl := Option.some.inj hF
    exact g_ireturn O (pc := 9) dX7_item_9 rfl

theorem mc_X7_item {x1 : Int32} {x2 : Int32} {w3 : Int64} {I : IS} {J : JS} {q : Int32 × JS} (hF : f_X7_item x1 x2 w3 I J = some q) : MC yX7_item cX7_item 6 (some .int) (rm_ 1 22) STop 123 [.ref (0), .int (x1), .int (x2), .long (w3)] I J (some (.int q.1), I, q.2) :=
  mc_of pn_X7 (Nat.le_of_ble_eq_true rfl) (fun z O => c_X7_item_e O _ _ _ _ _ _ hF)

def f_X7_judge_b67 : Nat → Int32 → Nat → Int32 → Int32 → IS → JS → Option (Int32)
  | 0, _, _, _, _, _, _ => none
  | fu + 1, x2, r3, x4, x5, I, J =>
    if x4 ≤ x5 then
    (some ((-5 : Int32)))
    else
    (if x5 < ((I (gTap (r3)) 2) - x2) then
    (if okI ((x2 + x5)) 60 = true then
    (if okI (x5) 32 = true then
    (if (lg_cmp ((J (gTap (r3) + 1) ((x2 + x5)).toNatClampNeg)) (((I (14) (x5).toNatClampNeg)).toInt64)) = 0 then
    (f_X7_judge_b67 fu (x2) (r3) (x4) (x5 + (1 : Int32)) (I) (J))
    else
    (some (x5)))
    else none)
    else none)
    else
    (some (((100 : Int32) + x5))))
set_option maxHeartbeats 4000000 in
set_option maxRecDepth 100000 in
theorem c_X7_judge_b67 {z : CTX} (O : OK z cX7_judge RX7 6 STop 123 (rm_ 1 21) (some .int)) : ∀ (fu : Nat) (x2 : Int32) (r3 : Nat) (x4 : Int32) (x5 : Int32) (I : IS) (J : JS) (q : Int32), f_X7_judge_b67 fu x2 r3 x4 x5 I J = some q → G z 67 [(0, .ref (0)), (2, .int (x2)), (3, .ref (gTap (r3))), (4, .int (x4)), (5, .int (x5))] [] I J (some (.int q), I, J) := by
  intro fu
  induction fu with
  | zero =>
    intro x2 r3 x4 x5 I J q hF
    cases hF
  | succ fu ih =>
    intro x2 r3 x4 x5 I J q hF
    rw [f_X7_judge_b67] at hF
    refine g_iload O (pc := 67) dX7_judge_67 4 rfl ?_
    refine g_iload O (pc := 69) dX7_judge_69 3 rfl ?_
    refine g_icmp_ge O (pc := 71) 127 dX7_judge_71 (by decide) (fun h1 => ?_) (fun h1 => ?_)
    · rw [if_pos h1] at hF
      refine g_bipush O (pc := 127) dX7_judge_127 bp_m5 ?_
      obtain rfl := Option.some.inj hF
      exact g_ireturn O (pc := 129) dX7_judge_129 rfl
    · rw [if_neg h1] at hF
      refine g_iload O (pc := 74) dX7_judge_74 4 rfl ?_
      refine g_aload_n O (pc := 76) dX7_judge_76 2 rfl ?_
      refine g_getI O (pc := 77) isC_X3 dX7_judge_77 fw_X7_248 (by decide) (fd_STop_gTap_2 (r3)) ?_
      refine g_iload_n O (pc := 80) dX7_judge_80 1 rfl ?_
      refine g_isub O (pc := 81) dX7_judge_81 ?_
      refine g_icmp_lt O (pc := 82) 91 dX7_judge_82 (by decide) (fun h2 => ?_) (fun h2 => ?_)
      · rw [if_pos h2] at hF
        refine g_aload_n O (pc := 91) dX7_judge_91 2 rfl ?_
        refine g_getR O (pc := 92) isC_X3 dX7_judge_92 fw_X7_249 (by decide) (fd_STop_gTap_0 (r3)) ?_
        refine g_iload_n O (pc := 95) dX7_judge_95 1 rfl ?_
        refine g_iload O (pc := 96) dX7_judge_96 4 rfl ?_
        refine g_iadd O (pc := 98) dX7_judge_98 ?_
        obtain ⟨h3, hF⟩ := gd hF
        refine g_ll O (pc := 99) dX7_judge_99 (ar_STop_gTap_1 (r3)) h3 ?_
        refine g_aload_n O (pc := 100) dX7_judge_100 0 rfl ?_
        refine g_getR O (pc := 101) isC_X7 dX7_judge_101 fw_X7_12 (by decide) fd_STop_0_0 ?_
        refine g_getR O (pc := 104) isC_X6 dX7_judge_104 fw_X7_67 (by decide) fd_STop_1_1 ?_
        refine g_getR O (pc := 107) isC_X4 dX7_judge_107 fw_X7_110 (by decide) fd_STop_11_2 ?_
        refine g_iload O (pc := 110) dX7_judge_110 4 rfl ?_
        obtain ⟨h4, hF⟩ := gd hF
        refine g_il O (pc := 112) dX7_judge_112 ar_STop_14 h4 ?_
        refine g_i2l O (pc := 113) dX7_judge_113 ?_
        refine g_lcmp O (pc := 114) dX7_judge_114 ?_
        refine g_if_eq O (pc := 115) 121 dX7_judge_115 (by decide) (fun h5 => ?_) (fun h5 => ?_)
        · rw [if_pos h5] at hF
          refine g_iinc O (pc := 121) (v := x5 + (1 : Int32)) (L' := [(5, .int (x5 + (1 : Int32))), (0, .ref (0)), (2, .int (x2)), (3, .ref (gTap (r3))), (4, .int (x4))]) dX7_judge_121 4 rfl rfl (by decide) rfl ?_
          refine g_goto O (pc := 124) 67 dX7_judge_124 (by decide) ?_
          refine g_sub [1, 2, 3, 4, 0] (L' := [(0, .ref (0)), (2, .int (x2)), (3, .ref (gTap (r3))), (4, .int (x4)), (5, .int (x5 + (1 : Int32)))]) rfl ?_
          exact ih _ _ _ _ _ _ _ hF
        · rw [if_neg h5] at hF
          refine g_iload O (pc := 118) dX7_judge_118 4 rfl ?_
          obtain rfl := Option.some.inj hF
          exact g_ireturn O (pc := 120) dX7_judge_120 rfl
      · rw [if_neg h2] at hF
        refine g_bipush O (pc := 85) dX7_judge_85 bp_100 ?_
        refine g_iload O (pc := 87) dX7_judge_87 4 rfl ?_
        refine g_iadd O (pc := 89) dX7_judge_89 ?_
        obtain rfl := Option.some.inj hF
        exact g_ireturn O (pc := 90) dX7_judge_90 rfl

def f_X7_judge_b63 (s0 : Int32) (I : IS) (J : JS) : Option (Int32) :=
  some (s0)
set_option maxHeartbeats 4000000 in
set_option maxRecDepth 100000 in
theorem c_X7_judge_b63 {z : CTX} (O : OK z cX7_judge RX7 6 STop 123 (rm_ 1 21) (some .int)) : ∀ (s0 : Int32) (I : IS) (J : JS) (q : Int32), f_X7_judge_b63 s0 I J = some q → G z 63 [] [.int (s0)] I J (some (.int q), I, J) := by
  intro s0 I J q hF
  rw [f_X7_judge_b63] at hF
  obtain rfl := Option.some.inj hF
  exact g_ireturn O (pc := 63) dX7_judge_63 rfl

def f_X7_judge_b35 (x2 : Int32) (r3 : Nat) (I : IS) (J : JS) : Option (Int32) :=
  if 0 ≤ x2 then
  (f_X7_judge_b67 LF (x2) (r3) ((I (11) 8)) ((0 : Int32)) (I) (J))
  else
  (if (I (11) 8) = 0 then
  (f_X7_judge_b63 ((-5 : Int32)) (I) (J))
  else
  (f_X7_judge_b63 ((100 : Int32)) (I) (J)))
set_option maxHeartbeats 4000000 in
set_option maxRecDepth 100000 in
theorem c_X7_judge_b35 {z : CTX} (O : OK z cX7_judge RX7 6 STop 123 (rm_ 1 21) (some .int)) : ∀ (x2 : Int32) (r3 : Nat) (I : IS) (J : JS) (q : Int32), f_X7_judge_b35 x2 r3 I J = some q → G z 35 [(0, .ref (0)), (2, .int (x2)), (3, .ref (gTap (r3)))] [] I J (some (.int q), I, J) := by
  intro x2 r3 I J q hF
  rw [f_X7_judge_b35] at hF
  refine g_aload_n O (pc := 35) dX7_judge_35 0 rfl ?_
  refine g_getR O (pc := 36) isC_X7 dX7_judge_36 fw_X7_12 (by decide) fd_STop_0_0 ?_
  refine g_getR O (pc := 39) isC_X6 dX7_judge_39 fw_X7_67 (by decide) fd_STop_1_1 ?_
  refine g_getI O (pc := 42) isC_X4 dX7_judge_42 fw_X7_71 (by decide) fd_STop_11_8 ?_
  refine g_istore O (pc := 45) (L' := [(4, .int ((I (11) 8))), (0, .ref (0)), (2, .int (x2)), (3, .ref (gTap (r3)))]) dX7_judge_45 (by decide) rfl ?_
  refine g_iload_n O (pc := 47) dX7_judge_47 2 rfl ?_
  refine g_if_ge O (pc := 48) 64 dX7_judge_48 (by decide) (fun h1 => ?_) (fun h1 => ?_)
  · rw [if_pos h1] at hF
    refine g_iconst O (pc := 64) dX7_judge_64 (ic_0) ?_
    refine g_istore O (pc := 65) (L' := [(5, .int ((0 : Int32))), (4, .int ((I (11) 8))), (0, .ref (0)), (2, .int (x2)), (3, .ref (gTap (r3)))]) dX7_judge_65 (by decide) rfl ?_
    refine g_sub [2, 3, 4, 1, 0] (L' := [(0, .ref (0)), (2, .int (x2)), (3, .ref (gTap (r3))), (4, .int ((I (11) 8))), (5, .int ((0 : Int32)))]) rfl ?_
    exact c_X7_judge_b67 O _ _ _ _ _ _ _ _ hF
  · rw [if_neg h1] at hF
    refine g_iload O (pc := 51) dX7_judge_51 0 rfl ?_
    refine g_if_ne O (pc := 53) 61 dX7_judge_53 (by decide) (fun h2 => ?_) (fun h2 => ?_)
    · rw [if_neg h2] at hF
      refine g_bipush O (pc := 61) dX7_judge_61 bp_100 ?_
      refine g_sub [] (L' := []) rfl ?_
      exact c_X7_judge_b63 O _ _ _ _ hF
    · rw [if_pos h2] at hF
      refine g_bipush O (pc := 56) dX7_judge_56 bp_m5 ?_
      refine g_goto O (pc := 58) 63 dX7_judge_58 (by decide) ?_
      refine g_sub [] (L' := []) rfl ?_
      exact c_X7_judge_b63 O _ _ _ _ hF

def f_X7_judge (x1 : Int32) (x2 : Int32) (I : IS) (J : JS) : Option (Int32) :=
  (f_X7_isTape (x1) I).bind fun q1 =>
  (if q1 = 0 then
  (some ((-1 : Int32)))
  else
  (if okI (x1) 6 = true then
  (if (I (gTap ((x1).toNatClampNeg)) 1) = (-1 : Int32) then
  (f_X7_judge_b35 (x2) ((x1).toNatClampNeg) (I) (J))
  else
  (if (I (gTap ((x1).toNatClampNeg)) 1) = 0 then
  (f_X7_judge_b35 (x2) ((x1).toNatClampNeg) (I) (J))
  else
  (some ((-12 : Int32)))))
  else none))
set_option maxHeartbeats 4000000 in
set_option maxRecDepth 100000 in
theorem c_X7_judge_e {z : CTX} (O : OK z cX7_judge RX7 6 STop 123 (rm_ 1 21) (some .int)) : ∀ (x1 : Int32) (x2 : Int32) (I : IS) (J : JS) (q : Int32), f_X7_judge x1 x2 I J = some q → G z 0 [(0, .ref (0)), (1, .int (x1)), (2, .int (x2))] [] I J (some (.int q), I, J) := by
  intro x1 x2 I J q hF
  rw [f_X7_judge] at hF
  refine g_aload_n O (pc := 0) dX7_judge_0 0 rfl ?_
  refine g_iload_n O (pc := 1) dX7_judge_1 1 rfl ?_
  obtain ⟨q1, e2, hF⟩ := bnd hF
  refine g_Vi O (pc := 2) (st := []) dX7_judge_2 (mc_X7_isTape J e2) cb_X7_isTape ml_X7_242 isC_X7 ob_STop (zm0 _ _ _ _ _ _ _) (rmok (Nat.le_of_ble_eq_true rfl) (Nat.le_of_ble_eq_true rfl)) (Nat.le_of_ble_eq_true rfl) rfl ?_
  refine g_if_ne O (pc := 5) 10 dX7_judge_5 (by decide) (fun h3 => ?_) (fun h3 => ?_)
  · rw [if_neg h3] at hF
    refine g_aload_n O (pc := 10) dX7_judge_10 0 rfl ?_
    refine g_getR O (pc := 11) isC_X7 dX7_judge_11 fw_X7_33 (by decide) fd_STop_0_4 ?_
    refine g_iload_n O (pc := 14) dX7_judge_14 1 rfl ?_
    obtain ⟨h4, hF⟩ := gd hF
    refine g_al O (pc := 15) dX7_judge_15 rr_STop_110 (Or.inr rfl) h4 ?_
    refine g_astore_n O (pc := 16) (L' := [(3, .ref (gTap ((x1).toNatClampNeg))), (0, .ref (0)), (1, .int (x1)), (2, .int (x2))]) dX7_judge_16 (by decide) rfl ?_
    refine g_aload_n O (pc := 17) dX7_judge_17 0 rfl ?_
    refine g_getI O (pc := 18) isC_X3 dX7_judge_18 fw_X7_245 (by decide) (fd_STop_gTap_1 ((x1).toNatClampNeg)) ?_
    refine g_iconst O (pc := 21) dX7_judge_21 (ic_m1) ?_
    refine g_icmp_eq O (pc := 22) 35 dX7_judge_22 (by decide) (fun h5 => ?_) (fun h5 => ?_)
    · rw [if_pos h5] at hF
      refine g_sub [1, 3, 0] (L' := [(0, .ref (0)), (2, .int (x2)), (3, .ref (gTap ((x1).toNatClampNeg)))]) rfl ?_
      exact c_X7_judge_b35 O _ _ _ _ _ hF
    · rw [if_neg h5] at hF
      refine g_aload_n O (pc := 25) dX7_judge_25 0 rfl ?_
      refine g_getI O (pc := 26) isC_X3 dX7_judge_26 fw_X7_245 (by decide) (fd_STop_gTap_1 ((x1).toNatClampNeg)) ?_
      refine g_if_eq O (pc := 29) 35 dX7_judge_29 (by decide) (fun h6 => ?_) (fun h6 => ?_)
      · rw [if_pos h6] at hF
        refine g_sub [1, 3, 0] (L' := [(0, .ref (0)), (2, .int (x2)), (3, .ref (gTap ((x1).toNatClampNeg)))]) rfl ?_
        exact c_X7_judge_b35 O _ _ _ _ _ hF
      · rw [if_neg h6] at hF
        refine g_bipush O (pc := 32) dX7_judge_32 bp_m12 ?_
        obtain rfl := Option.some.inj hF
        exact g_ireturn O (pc := 34) dX7_judge_34 rfl
  · rw [if_pos h3] at hF
    refine g_iconst O (pc := 8) dX7_judge_8 (ic_m1) ?_
    obtain rfl := Option.some.inj hF
    exact g_ireturn O (pc := 9) dX7_judge_9 rfl

theorem mc_X7_judge {x1 : Int32} {x2 : Int32} {I : IS} {J : JS} {q : Int32} (hF : f_X7_judge x1 x2 I J = some q) : MC yX7_judge cX7_judge 6 (some .int) (rm_ 1 21) STop 123 [.ref (0), .int (x1), .int (x2)] I J (some (.int q), I, J) :=
  mc_of pn_X7 (Nat.le_of_ble_eq_true rfl) (fun z O => c_X7_judge_e O _ _ _ _ _ hF)

def f_X7_looked_b72 (k2 : Int32 → IS → Option (Int32)) (x1 : Int32) (I : IS) : Option (Int32) :=
  k2 (x1 + (1 : Int32)) (I)
set_option maxHeartbeats 4000000 in
set_option maxRecDepth 100000 in
theorem c_X7_looked_b72 {z : CTX} {J : JS} (O : OK z cX7_looked RX7 3 STop 123 (rm_ 1 21) (some .int)) {k2 : Int32 → IS → Option (Int32)} (hk2 : ∀ (x1 : Int32) (I : IS) (q : Int32), k2 x1 I = some q → G z 2 [(0, .ref (0)), (1, .int (x1))] [] I J (some (.int q), I, J)) : ∀ (x1 : Int32) (I : IS) (q : Int32), f_X7_looked_b72 k2 x1 I = some q → G z 72 [(0, .ref (0)), (1, .int (x1))] [] I J (some (.int q), I, J) := by
  intro x1 I q hF
  rw [f_X7_looked_b72] at hF
  refine g_iinc O (pc := 72) (v := x1 + (1 : Int32)) (L' := [(1, .int (x1 + (1 : Int32))), (0, .ref (0))]) dX7_looked_72 1 rfl rfl (by decide) rfl ?_
  refine g_goto O (pc := 75) 2 dX7_looked_75 (by decide) ?_
  refine g_sub [1, 0] (L' := [(0, .ref (0)), (1, .int (x1 + (1 : Int32)))]) rfl ?_
  exact hk2 _ _ _ hF

def f_X7_looked_b2 : Nat → Int32 → IS → Option (Int32)
  | 0, _, _ => none
  | fu + 1, x1, I =>
    if (I (32) 2) ≤ x1 then
    (some ((-5 : Int32)))
    else
    (if okI (x1) 8 = true then
    ((f_X4_has ((I (33) (x1).toNatClampNeg)) (zI (11) I)).bind fun q3 =>
    (if q3 = 0 then
    (f_X7_looked_b72 (f_X7_looked_b2 fu) (x1) (I))
    else
    (if okI ((I (33) (x1).toNatClampNeg)) 32 = true then
    (if okI (x1) 8 = true then
    (if (I (15) ((I (33) (x1).toNatClampNeg)).toNatClampNeg) = (I (34) (x1).toNatClampNeg) then
    (f_X7_looked_b72 (f_X7_looked_b2 fu) (x1) (I))
    else
    (some (x1)))
    else none)
    else none)))
    else none)
set_option maxHeartbeats 4000000 in
set_option maxRecDepth 100000 in
theorem c_X7_looked_b2 {z : CTX} {J : JS} (O : OK z cX7_looked RX7 3 STop 123 (rm_ 1 21) (some .int)) : ∀ (fu : Nat) (x1 : Int32) (I : IS) (q : Int32), f_X7_looked_b2 fu x1 I = some q → G z 2 [(0, .ref (0)), (1, .int (x1))] [] I J (some (.int q), I, J) := by
  intro fu
  induction fu with
  | zero =>
    intro x1 I q hF
    cases hF
  | succ fu ih =>
    intro x1 I q hF
    rw [f_X7_looked_b2] at hF
    refine g_iload_n O (pc := 2) dX7_looked_2 1 rfl ?_
    refine g_aload_n O (pc := 3) dX7_looked_3 0 rfl ?_
    refine g_getR O (pc := 4) isC_X7 dX7_looked_4 fw_X7_12 (by decide) fd_STop_0_0 ?_
    refine g_getR O (pc := 7) isC_X6 dX7_looked_7 fw_X7_239 (by decide) fd_STop_1_5 ?_
    refine g_getI O (pc := 10) isC_X2 dX7_looked_10 fw_X7_228 (by decide) fd_STop_32_2 ?_
    refine g_icmp_ge O (pc := 13) 78 dX7_looked_13 (by decide) (fun h1 => ?_) (fun h1 => ?_)
    · rw [if_pos h1] at hF
      refine g_bipush O (pc := 78) dX7_looked_78 bp_m5 ?_
      obtain rfl := Option.some.inj hF
      exact g_ireturn O (pc := 80) dX7_looked_80 rfl
    · rw [if_neg h1] at hF
      refine g_aload_n O (pc := 16) dX7_looked_16 0 rfl ?_
      refine g_getR O (pc := 17) isC_X7 dX7_looked_17 fw_X7_12 (by decide) fd_STop_0_0 ?_
      refine g_getR O (pc := 20) isC_X6 dX7_looked_20 fw_X7_239 (by decide) fd_STop_1_5 ?_
      refine g_getR O (pc := 23) isC_X2 dX7_looked_23 fw_X7_229 (by decide) fd_STop_32_0 ?_
      refine g_iload_n O (pc := 26) dX7_looked_26 1 rfl ?_
      obtain ⟨h2, hF⟩ := gd hF
      refine g_il O (pc := 27) dX7_looked_27 ar_STop_33 h2 ?_
      refine g_istore_n O (pc := 28) (L' := [(2, .int ((I (33) (x1).toNatClampNeg))), (0, .ref (0)), (1, .int (x1))]) dX7_looked_28 (by decide) rfl ?_
      refine g_aload_n O (pc := 29) dX7_looked_29 1 rfl ?_
      refine g_getR O (pc := 30) isC_X7 dX7_looked_30 fw_X7_12 (by decide) fd_STop_0_0 ?_
      refine g_getR O (pc := 33) isC_X6 dX7_looked_33 fw_X7_67 (by decide) fd_STop_1_1 ?_
      refine g_iload_n O (pc := 36) dX7_looked_36 0 rfl ?_
      obtain ⟨q3, e4, hF⟩ := bnd hF
      refine g_Vi O (pc := 37) (st := []) dX7_looked_37 (mc_X4_has (zI (11) J) e4) cb_X4_has ml_X7_100 isC_X4 ob_STas (zm1R sub_Top_11 _ _ _) (rmok (Nat.le_of_ble_eq_true rfl) (Nat.le_of_ble_eq_true rfl)) (Nat.le_of_ble_eq_true rfl) rfl ?_
      refine g_if_eq O (pc := 40) 72 dX7_looked_40 (by decide) (fun h5 => ?_) (fun h5 => ?_)
      · rw [if_pos h5] at hF
        refine g_sub [1, 2] (L' := [(0, .ref (0)), (1, .int (x1))]) rfl ?_
        exact c_X7_looked_b72 O ih _ _ _ hF
      · rw [if_neg h5] at hF
        refine g_aload_n O (pc := 43) dX7_looked_43 1 rfl ?_
        refine g_getR O (pc := 44) isC_X7 dX7_looked_44 fw_X7_12 (by decide) fd_STop_0_0 ?_
        refine g_getR O (pc := 47) isC_X6 dX7_looked_47 fw_X7_67 (by decide) fd_STop_1_1 ?_
        refine g_getR O (pc := 50) isC_X4 dX7_looked_50 fw_X7_103 (by decide) fd_STop_11_3 ?_
        refine g_iload_n O (pc := 53) dX7_looked_53 0 rfl ?_
        obtain ⟨h6, hF⟩ := gd hF
        refine g_il O (pc := 54) dX7_looked_54 ar_STop_15 h6 ?_
        refine g_aload_n O (pc := 55) dX7_looked_55 1 rfl ?_
        refine g_getR O (pc := 56) isC_X7 dX7_looked_56 fw_X7_12 (by decide) fd_STop_0_0 ?_
        refine g_getR O (pc := 59) isC_X6 dX7_looked_59 fw_X7_239 (by decide) fd_STop_1_5 ?_
        refine g_getR O (pc := 62) isC_X2 dX7_looked_62 fw_X7_232 (by decide) fd_STop_32_1 ?_
        refine g_iload_n O (pc := 65) dX7_looked_65 2 rfl ?_
        obtain ⟨h7, hF⟩ := gd hF
        refine g_il O (pc := 66) dX7_looked_66 ar_STop_34 h7 ?_
        refine g_icmp_eq O (pc := 67) 72 dX7_looked_67 (by decide) (fun h8 => ?_) (fun h8 => ?_)
        · rw [if_pos h8] at hF
          refine g_sub [1, 2] (L' := [(0, .ref (0)), (1, .int (x1))]) rfl ?_
          exact c_X7_looked_b72 O ih _ _ _ hF
        · rw [if_neg h8] at hF
          refine g_iload_n O (pc := 70) dX7_looked_70 2 rfl ?_
          obtain rfl := Option.some.inj hF
          exact g_ireturn O (pc := 71) dX7_looked_71 rfl

def f_X7_looked (I : IS) : Option (Int32) :=
  f_X7_looked_b2 LF ((0 : Int32)) (I)
set_option maxHeartbeats 4000000 in
set_option maxRecDepth 100000 in
theorem c_X7_looked_e {z : CTX} {J : JS} (O : OK z cX7_looked RX7 3 STop 123 (rm_ 1 21) (some .int)) : ∀ (I : IS) (q : Int32), f_X7_looked I = some q → G z 0 [(0, .ref (0))] [] I J (some (.int q), I, J) := by
  intro I q hF
  rw [f_X7_looked] at hF
  refine g_iconst O (pc := 0) dX7_looked_0 (ic_0) ?_
  refine g_istore_n O (pc := 1) (L' := [(1, .int ((0 : Int32))), (0, .ref (0))]) dX7_looked_1 (by decide) rfl ?_
  refine g_sub [1, 0] (L' := [(0, .ref (0)), (1, .int ((0 : Int32)))]) rfl ?_
  exact c_X7_looked_b2 O _ _ _ _ hF

theorem mc_X7_looked {I : IS} (J : JS) {q : Int32} (hF : f_X7_looked I = some q) : MC yX7_looked cX7_looked 3 (some .int) (rm_ 1 21) STop 123 [.ref (0)] I J (some (.int q), I, J) :=
  mc_of pn_X7 (Nat.le_of_ble_eq_true rfl) (fun z O => c_X7_looked_e O _ _ hF)

def f_X7_lowest_b59 (s0 : Int32) : Option (Int32) :=
  some (s0)
set_option maxHeartbeats 4000000 in
set_option maxRecDepth 100000 in
theorem c_X7_lowest_b59 {z : CTX} {I : IS} {J : JS} (O : OK z cX7_lowest RX7 7 SArm 0 (rm_ 0 0) (some .int)) : ∀ (s0 : Int32) (q : Int32), f_X7_lowest_b59 s0 = some q → G z 59 [] [.int (s0)] I J (some (.int q), I, J) := by
  intro s0 q hF
  rw [f_X7_lowest_b59] at hF
  obtain rfl := Option.some.inj hF
  exact g_ireturn O (pc := 59) dX7_lowest_59 rfl

def f_X7_lowest_b39 (x0 : Int32) (x1 : Int32) (x2 : Int32) (x3 : Int32) : Option (Int32) :=
  if (1 : Int32) ≤ x3 then
  (if x2 = 0 then
  (if okD (x3) = true then
  (f_X7_lowest_b59 ((x0 / x3)))
  else none)
  else
  (if okD (x3) = true then
  (f_X7_lowest_b59 ((x1 / x3)))
  else none))
  else
  (some ((0 : Int32)))
set_option maxHeartbeats 4000000 in
set_option maxRecDepth 100000 in
theorem c_X7_lowest_b39 {z : CTX} {I : IS} {J : JS} (O : OK z cX7_lowest RX7 7 SArm 0 (rm_ 0 0) (some .int)) : ∀ (x0 : Int32) (x1 : Int32) (x2 : Int32) (x3 : Int32) (q : Int32), f_X7_lowest_b39 x0 x1 x2 x3 = some q → G z 39 [(0, .int (x0)), (1, .int (x1)), (2, .int (x2)), (3, .int (x3))] [] I J (some (.int q), I, J) := by
  intro x0 x1 x2 x3 q hF
  rw [f_X7_lowest_b39] at hF
  refine g_iload_n O (pc := 39) dX7_lowest_39 3 rfl ?_
  refine g_iconst O (pc := 40) dX7_lowest_40 (ic_1) ?_
  refine g_icmp_ge O (pc := 41) 46 dX7_lowest_41 (by decide) (fun h1 => ?_) (fun h1 => ?_)
  · rw [if_pos h1] at hF
    refine g_iload_n O (pc := 46) dX7_lowest_46 2 rfl ?_
    refine g_if_ne O (pc := 47) 56 dX7_lowest_47 (by decide) (fun h2 => ?_) (fun h2 => ?_)
    · rw [if_neg h2] at hF
      refine g_iload_n O (pc := 56) dX7_lowest_56 1 rfl ?_
      refine g_iload_n O (pc := 57) dX7_lowest_57 3 rfl ?_
      obtain ⟨h3, hF⟩ := gd hF
      refine g_idiv O (pc := 58) dX7_lowest_58 (okD_n h3) ?_
      refine g_sub [] (L' := []) rfl ?_
      exact c_X7_lowest_b59 O _ _ hF
    · rw [if_pos h2] at hF
      refine g_iload_n O (pc := 50) dX7_lowest_50 0 rfl ?_
      refine g_iload_n O (pc := 51) dX7_lowest_51 3 rfl ?_
      obtain ⟨h4, hF⟩ := gd hF
      refine g_idiv O (pc := 52) dX7_lowest_52 (okD_n h4) ?_
      refine g_goto O (pc := 53) 59 dX7_lowest_53 (by decide) ?_
      refine g_sub [] (L' := []) rfl ?_
      exact c_X7_lowest_b59 O _ _ hF
  · rw [if_neg h1] at hF
    refine g_iconst O (pc := 44) dX7_lowest_44 (ic_0) ?_
    obtain rfl := Option.some.inj hF
    exact g_ireturn O (pc := 45) dX7_lowest_45 rfl

def f_X7_lowest_b8 : Nat → Int32 → Int32 → Int32 → Int32 → Int32 → Int32 → Option (Int32)
  | 0, _, _, _, _, _, _ => none
  | fu + 1, x0, x1, x2, x3, x4, x5 =>
    if (64 : Int32) ≤ x5 then
    (f_X7_lowest_b39 (x0) (x1) (x2) (x3))
    else
    (if x4 = 0 then
    (f_X7_lowest_b39 (x0) (x1) (x2) (x3))
    else
    (if okD (x4) = true then
    (f_X7_lowest_b8 fu (x0) (x1) (x2) (x4) ((x3 - x3 / x4 * x4)) (x5 + (1 : Int32)))
    else none))
set_option maxHeartbeats 4000000 in
set_option maxRecDepth 100000 in
theorem c_X7_lowest_b8 {z : CTX} {I : IS} {J : JS} (O : OK z cX7_lowest RX7 7 SArm 0 (rm_ 0 0) (some .int)) : ∀ (fu : Nat) (x0 : Int32) (x1 : Int32) (x2 : Int32) (x3 : Int32) (x4 : Int32) (x5 : Int32) (q : Int32), f_X7_lowest_b8 fu x0 x1 x2 x3 x4 x5 = some q → G z 8 [(0, .int (x0)), (1, .int (x1)), (2, .int (x2)), (3, .int (x3)), (4, .int (x4)), (5, .int (x5))] [] I J (some (.int q), I, J) := by
  intro fu
  induction fu with
  | zero =>
    intro x0 x1 x2 x3 x4 x5 q hF
    cases hF
  | succ fu ih =>
    intro x0 x1 x2 x3 x4 x5 q hF
    rw [f_X7_lowest_b8] at hF
    refine g_iload O (pc := 8) dX7_lowest_8 5 rfl ?_
    refine g_bipush O (pc := 10) dX7_lowest_10 bp_64 ?_
    refine g_icmp_ge O (pc := 12) 39 dX7_lowest_12 (by decide) (fun h1 => ?_) (fun h1 => ?_)
    · rw [if_pos h1] at hF
      refine g_sub [0, 1, 2, 3] (L' := [(0, .int (x0)), (1, .int (x1)), (2, .int (x2)), (3, .int (x3))]) rfl ?_
      exact c_X7_lowest_b39 O _ _ _ _ _ hF
    · rw [if_neg h1] at hF
      refine g_iload O (pc := 15) dX7_lowest_15 4 rfl ?_
      refine g_if_eq O (pc := 17) 39 dX7_lowest_17 (by decide) (fun h2 => ?_) (fun h2 => ?_)
      · rw [if_pos h2] at hF
        refine g_sub [0, 1, 2, 3] (L' := [(0, .int (x0)), (1, .int (x1)), (2, .int (x2)), (3, .int (x3))]) rfl ?_
        exact c_X7_lowest_b39 O _ _ _ _ _ hF
      · rw [if_neg h2] at hF
        refine g_iload_n O (pc := 20) dX7_lowest_20 3 rfl ?_
        refine g_iload O (pc := 21) dX7_lowest_21 4 rfl ?_
        obtain ⟨h3, hF⟩ := gd hF
        refine g_irem O (pc := 23) dX7_lowest_23 (okD_n h3) ?_
        refine g_istore O (pc := 24) (L' := [(6, .int ((x3 - x3 / x4 * x4))), (0, .int (x0)), (1, .int (x1)), (2, .int (x2)), (3, .int (x3)), (4, .int (x4)), (5, .int (x5))]) dX7_lowest_24 (by decide) rfl ?_
        refine g_iload O (pc := 26) dX7_lowest_26 5 rfl ?_
        refine g_istore_n O (pc := 28) (L' := [(3, .int (x4)), (6, .int ((x3 - x3 / x4 * x4))), (0, .int (x0)), (1, .int (x1)), (2, .int (x2)), (4, .int (x4)), (5, .int (x5))]) dX7_lowest_28 (by decide) rfl ?_
        refine g_iload O (pc := 29) dX7_lowest_29 1 rfl ?_
        refine g_istore O (pc := 31) (L' := [(4, .int ((x3 - x3 / x4 * x4))), (3, .int (x4)), (6, .int ((x3 - x3 / x4 * x4))), (0, .int (x0)), (1, .int (x1)), (2, .int (x2)), (5, .int (x5))]) dX7_lowest_31 (by decide) rfl ?_
        refine g_iinc O (pc := 33) (v := x5 + (1 : Int32)) (L' := [(5, .int (x5 + (1 : Int32))), (4, .int ((x3 - x3 / x4 * x4))), (3, .int (x4)), (6, .int ((x3 - x3 / x4 * x4))), (0, .int (x0)), (1, .int (x1)), (2, .int (x2))]) dX7_lowest_33 6 rfl rfl (by decide) rfl ?_
        refine g_goto O (pc := 36) 8 dX7_lowest_36 (by decide) ?_
        refine g_sub [4, 5, 6, 2, 1, 0] (L' := [(0, .int (x0)), (1, .int (x1)), (2, .int (x2)), (3, .int (x4)), (4, .int ((x3 - x3 / x4 * x4))), (5, .int (x5 + (1 : Int32)))]) rfl ?_
        exact ih _ _ _ _ _ _ _ hF

def f_X7_lowest (x0 : Int32) (x1 : Int32) (x2 : Int32) : Option (Int32) :=
  f_X7_lowest_b8 LF (x0) (x1) (x2) (x1) (x0) ((0 : Int32))
set_option maxHeartbeats 4000000 in
set_option maxRecDepth 100000 in
theorem c_X7_lowest_e {z : CTX} {I : IS} {J : JS} (O : OK z cX7_lowest RX7 7 SArm 0 (rm_ 0 0) (some .int)) : ∀ (x0 : Int32) (x1 : Int32) (x2 : Int32) (q : Int32), f_X7_lowest x0 x1 x2 = some q → G z 0 [(0, .int (x0)), (1, .int (x1)), (2, .int (x2))] [] I J (some (.int q), I, J) := by
  intro x0 x1 x2 q hF
  rw [f_X7_lowest] at hF
  refine g_iload_n O (pc := 0) dX7_lowest_0 1 rfl ?_
  refine g_istore_n O (pc := 1) (L' := [(3, .int (x1)), (0, .int (x0)), (1, .int (x1)), (2, .int (x2))]) dX7_lowest_1 (by decide) rfl ?_
  refine g_iload_n O (pc := 2) dX7_lowest_2 1 rfl ?_
  refine g_istore O (pc := 3) (L' := [(4, .int (x0)), (3, .int (x1)), (0, .int (x0)), (1, .int (x1)), (2, .int (x2))]) dX7_lowest_3 (by decide) rfl ?_
  refine g_iconst O (pc := 5) dX7_lowest_5 (ic_0) ?_
  refine g_istore O (pc := 6) (L' := [(5, .int ((0 : Int32))), (4, .int (x0)), (3, .int (x1)), (0, .int (x0)), (1, .int (x1)), (2, .int (x2))]) dX7_lowest_6 (by decide) rfl ?_
  refine g_sub [3, 4, 5, 2, 1, 0] (L' := [(0, .int (x0)), (1, .int (x1)), (2, .int (x2)), (3, .int (x1)), (4, .int (x0)), (5, .int ((0 : Int32)))]) rfl ?_
  exact c_X7_lowest_b8 O _ _ _ _ _ _ _ _ hF

theorem mc_X7_lowest {x0 : Int32} {x1 : Int32} {x2 : Int32} (I : IS) (J : JS) {q : Int32} (hF : f_X7_lowest x0 x1 x2 = some q) : MC yX7_lowest cX7_lowest 7 (some .int) (rm_ 0 0) SArm 0 [.int (x0), .int (x1), .int (x2)] I J (some (.int q), I, J) :=
  mc_of pn_X7 (Nat.le_of_ble_eq_true rfl) (fun z O => c_X7_lowest_e O _ _ _ _ hF)

def f_X7_mean_b24 (I : IS) : Option (Int64) :=
  some ((-9223372036854775808 : Int64))
set_option maxHeartbeats 4000000 in
set_option maxRecDepth 100000 in
theorem c_X7_mean_b24 {z : CTX} {J : JS} (O : OK z cX7_mean RX7 3 STop 123 (rm_ 1 26) (some .long)) : ∀ (I : IS) (q : Int64), f_X7_mean_b24 I = some q → G z 24 [] [] I J (some (.long q), I, J) := by
  intro I q hF
  rw [f_X7_mean_b24] at hF
  refine g_ldc2 O (pc := 24) kw_X7_213 dX7_mean_24 ?_
  obtain rfl := Option.some.inj hF
  exact g_lreturn O (pc := 27) dX7_mean_27 rfl

def f_X7_mean (x1 : Int32) (I : IS) : Option (Int64) :=
  (f_X4_howManyDone (zI (11) I)).bind fun q1 =>
  (if x1 < 0 then
  (f_X7_mean_b24 (I))
  else
  (if (1 : Int32) < x1 then
  (f_X7_mean_b24 (I))
  else
  (if q1 = 0 then
  (f_X7_mean_b24 (I))
  else
  ((f_X4_worthOfAllDone (zI (11) I)).bind fun q6 =>
  ((f_X7_lowest (q6) (q1) (x1)).bind fun q8 =>
  (some ((q8).toInt64)))))))
set_option maxHeartbeats 4000000 in
set_option maxRecDepth 100000 in
theorem c_X7_mean_e {z : CTX} {J : JS} (O : OK z cX7_mean RX7 3 STop 123 (rm_ 1 26) (some .long)) : ∀ (x1 : Int32) (I : IS) (q : Int64), f_X7_mean x1 I = some q → G z 0 [(0, .ref (0)), (1, .int (x1))] [] I J (some (.long q), I, J) := by
  intro x1 I q hF
  rw [f_X7_mean] at hF
  refine g_aload_n O (pc := 0) dX7_mean_0 0 rfl ?_
  refine g_getR O (pc := 1) isC_X7 dX7_mean_1 fw_X7_12 (by decide) fd_STop_0_0 ?_
  refine g_getR O (pc := 4) isC_X6 dX7_mean_4 fw_X7_67 (by decide) fd_STop_1_1 ?_
  obtain ⟨q1, e2, hF⟩ := bnd hF
  refine g_Vi O (pc := 7) (st := []) dX7_mean_7 (mc_X4_howManyDone (zI (11) J) e2) cb_X4_howManyDone ml_X7_190 isC_X4 ob_STas (zm1R sub_Top_11 _ _ _) (rmok (Nat.le_of_ble_eq_true rfl) (Nat.le_of_ble_eq_true rfl)) (Nat.le_of_ble_eq_true rfl) rfl ?_
  refine g_istore_n O (pc := 10) (L' := [(2, .int (q1)), (0, .ref (0)), (1, .int (x1))]) dX7_mean_10 (by decide) rfl ?_
  refine g_iload_n O (pc := 11) dX7_mean_11 2 rfl ?_
  refine g_if_lt O (pc := 12) 24 dX7_mean_12 (by decide) (fun h3 => ?_) (fun h3 => ?_)
  · rw [if_pos h3] at hF
    refine g_sub [] (L' := []) rfl ?_
    exact c_X7_mean_b24 O _ _ hF
  · rw [if_neg h3] at hF
    refine g_iload_n O (pc := 15) dX7_mean_15 2 rfl ?_
    refine g_iconst O (pc := 16) dX7_mean_16 (ic_1) ?_
    refine g_icmp_gt O (pc := 17) 24 dX7_mean_17 (by decide) (fun h4 => ?_) (fun h4 => ?_)
    · rw [if_pos h4] at hF
      refine g_sub [] (L' := []) rfl ?_
      exact c_X7_mean_b24 O _ _ hF
    · rw [if_neg h4] at hF
      refine g_iload_n O (pc := 20) dX7_mean_20 0 rfl ?_
      refine g_if_ne O (pc := 21) 28 dX7_mean_21 (by decide) (fun h5 => ?_) (fun h5 => ?_)
      · rw [if_neg h5] at hF
        refine g_aload_n O (pc := 28) dX7_mean_28 1 rfl ?_
        refine g_getR O (pc := 29) isC_X7 dX7_mean_29 fw_X7_12 (by decide) fd_STop_0_0 ?_
        refine g_getR O (pc := 32) isC_X6 dX7_mean_32 fw_X7_67 (by decide) fd_STop_1_1 ?_
        obtain ⟨q6, e7, hF⟩ := bnd hF
        refine g_Vi O (pc := 35) (st := []) dX7_mean_35 (mc_X4_worthOfAllDone (zI (11) J) e7) cb_X4_worthOfAllDone ml_X7_222 isC_X4 ob_STas (zm1R sub_Top_11 _ _ _) (rmok (Nat.le_of_ble_eq_true rfl) (Nat.le_of_ble_eq_true rfl)) (Nat.le_of_ble_eq_true rfl) rfl ?_
        refine g_iload_n O (pc := 38) dX7_mean_38 0 rfl ?_
        refine g_iload_n O (pc := 39) dX7_mean_39 2 rfl ?_
        obtain ⟨q8, e9, hF⟩ := bnd hF
        refine g_Si O (pc := 40) (st := []) dX7_mean_40 (mc_X7_lowest I J e9) cs_X7_lowest ml_X7_218 rfl (rmok (Nat.le_of_ble_eq_true rfl) (Nat.le_of_ble_eq_true rfl)) (Nat.le_of_ble_eq_true rfl) (fun _ => rfl) rfl ?_
        refine g_i2l O (pc := 43) dX7_mean_43 ?_
        obtain rfl := Option.some.inj hF
        exact g_lreturn O (pc := 44) dX7_mean_44 rfl
      · rw [if_pos h5] at hF
        refine g_sub [] (L' := []) rfl ?_
        exact c_X7_mean_b24 O _ _ hF

theorem mc_X7_mean {x1 : Int32} {I : IS} (J : JS) {q : Int64} (hF : f_X7_mean x1 I = some q) : MC yX7_mean cX7_mean 3 (some .long) (rm_ 1 26) STop 123 [.ref (0), .int (x1)] I J (some (.long q), I, J) :=
  mc_of pn_X7 (Nat.le_of_ble_eq_true rfl) (fun z O => c_X7_mean_e O _ _ _ hF)

def f_X7_odds_b19 (I : IS) : Option (Int64 × IS) :=
  some ((-9223372036854775808 : Int64), I)
set_option maxHeartbeats 4000000 in
set_option maxRecDepth 100000 in
theorem c_X7_odds_b19 {z : CTX} {J : JS} (O : OK z cX7_odds RX7 5 STop 123 (rm_ 5 118) (some .long)) : ∀ (I : IS) (q : Int64 × IS), f_X7_odds_b19 I = some q → G z 19 [] [] I J (some (.long q.1), q.2, J) := by
  intro I q hF
  rw [f_X7_odds_b19] at hF
  refine g_ldc2 O (pc := 19) kw_X7_213 dX7_odds_19 ?_
  obtain rfl := Option.some.inj hF
  exact g_lreturn O (pc := 22) dX7_odds_22 rfl

def f_X7_odds_b76 (k28 : Int32 → Int32 → Int32 → Int32 → IS → Option (Int64 × IS)) (x1 : Int32) (x2 : Int32) (x3 : Int32) (x4 : Int32) (I : IS) : Option (Int64 × IS) :=
  k28 (x1) (x2) (x3) (x4 + (1 : Int32)) (I)
set_option maxHeartbeats 4000000 in
set_option maxRecDepth 100000 in
theorem c_X7_odds_b76 {z : CTX} {J : JS} (O : OK z cX7_odds RX7 5 STop 123 (rm_ 5 118) (some .long)) {k28 : Int32 → Int32 → Int32 → Int32 → IS → Option (Int64 × IS)} (hk28 : ∀ (x1 : Int32) (x2 : Int32) (x3 : Int32) (x4 : Int32) (I : IS) (q : Int64 × IS), k28 x1 x2 x3 x4 I = some q → G z 28 [(0, .ref (0)), (1, .int (x1)), (2, .int (x2)), (3, .int (x3)), (4, .int (x4))] [] I J (some (.long q.1), q.2, J)) : ∀ (x1 : Int32) (x2 : Int32) (x3 : Int32) (x4 : Int32) (I : IS) (q : Int64 × IS), f_X7_odds_b76 k28 x1 x2 x3 x4 I = some q → G z 76 [(0, .ref (0)), (1, .int (x1)), (2, .int (x2)), (3, .int (x3)), (4, .int (x4))] [] I J (some (.long q.1), q.2, J) := by
  intro x1 x2 x3 x4 I q hF
  rw [f_X7_odds_b76] at hF
  refine g_iinc O (pc := 76) (v := x4 + (1 : Int32)) (L' := [(4, .int (x4 + (1 : Int32))), (0, .ref (0)), (1, .int (x1)), (2, .int (x2)), (3, .int (x3))]) dX7_odds_76 4 rfl rfl (by decide) rfl ?_
  refine g_goto O (pc := 79) 28 dX7_odds_79 (by decide) ?_
  refine g_sub [1, 2, 3, 4, 0] (L' := [(0, .ref (0)), (1, .int (x1)), (2, .int (x2)), (3, .int (x3)), (4, .int (x4 + (1 : Int32)))]) rfl ?_
  exact hk28 _ _ _ _ _ _ hF

def f_X7_odds_b28 : Nat → Int32 → Int32 → Int32 → Int32 → IS → Option (Int64 × IS)
  | 0, _, _, _, _, _ => none
  | fu + 1, x1, x2, x3, x4, I =>
    if (20 : Int32) ≤ x4 then
    ((f_X7_lowest (x3) ((20 : Int32)) (x2)).bind fun q2 =>
    (some ((q2).toInt64, I)))
    else
    ((f_X6_become (zI2 (69) 34 (1) I)).bind fun q4 =>
    ((f_X6_goRoundsTillOver (x1) (zI (69) (u2 (gI2 (69) 34 (1) 34 q4 I) (69) 7 (x4)))).bind fun q6 =>
    ((f_X6_isOver (zI (69) (gI (69) 34 q6 (u2 (gI2 (69) 34 (1) 34 q4 I) (69) 7 (x4))))).bind fun q8 =>
    (if q8 = 0 then
    (f_X7_odds_b76 (f_X7_odds_b28 fu) (x1) (x2) (x3) (x4) ((gI (69) 34 q6 (u2 (gI2 (69) 34 (1) 34 q4 I) (69) 7 (x4)))))
    else
    (f_X7_odds_b76 (f_X7_odds_b28 fu) (x1) (x2) (x3 + (1 : Int32)) (x4) ((gI (69) 34 q6 (u2 (gI2 (69) 34 (1) 34 q4 I) (69) 7 (x4)))))))))
set_option maxHeartbeats 4000000 in
set_option maxRecDepth 100000 in
theorem c_X7_odds_b28 {z : CTX} {J : JS} (O : OK z cX7_odds RX7 5 STop 123 (rm_ 5 118) (some .long)) : ∀ (fu : Nat) (x1 : Int32) (x2 : Int32) (x3 : Int32) (x4 : Int32) (I : IS) (q : Int64 × IS), f_X7_odds_b28 fu x1 x2 x3 x4 I = some q → G z 28 [(0, .ref (0)), (1, .int (x1)), (2, .int (x2)), (3, .int (x3)), (4, .int (x4))] [] I J (some (.long q.1), q.2, J) := by
  intro fu
  induction fu with
  | zero =>
    intro x1 x2 x3 x4 I q hF
    cases hF
  | succ fu ih =>
    intro x1 x2 x3 x4 I q hF
    rw [f_X7_odds_b28] at hF
    refine g_iload O (pc := 28) dX7_odds_28 4 rfl ?_
    refine g_bipush O (pc := 30) dX7_odds_30 bp_20 ?_
    refine g_icmp_ge O (pc := 32) 82 dX7_odds_32 (by decide) (fun h1 => ?_) (fun h1 => ?_)
    · rw [if_pos h1] at hF
      refine g_iload_n O (pc := 82) dX7_odds_82 3 rfl ?_
      refine g_bipush O (pc := 83) dX7_odds_83 bp_20 ?_
      refine g_iload_n O (pc := 85) dX7_odds_85 2 rfl ?_
      obtain ⟨q2, e3, hF⟩ := bnd hF
      refine g_Si O (pc := 86) (st := []) dX7_odds_86 (mc_X7_lowest I J e3) cs_X7_lowest ml_X7_218 rfl (rmok (Nat.le_of_ble_eq_true rfl) (Nat.le_of_ble_eq_true rfl)) (Nat.le_of_ble_eq_true rfl) (fun _ => rfl) rfl ?_
      refine g_i2l O (pc := 89) dX7_odds_89 ?_
      obtain rfl := Option.some.inj hF
      exact g_lreturn O (pc := 90) dX7_odds_90 rfl
    · rw [if_neg h1] at hF
      refine g_aload_n O (pc := 35) dX7_odds_35 0 rfl ?_
      refine g_getR O (pc := 36) isC_X7 dX7_odds_36 fw_X7_21 (by decide) fd_STop_0_2 ?_
      refine g_aload_n O (pc := 39) dX7_odds_39 0 rfl ?_
      refine g_getR O (pc := 40) isC_X7 dX7_odds_40 fw_X7_12 (by decide) fd_STop_0_0 ?_
      obtain ⟨q4, e5, hF⟩ := bnd hF
      refine g_Vv O (pc := 43) (st := []) dX7_odds_43 (mc_X6_become (zI2 (69) 34 (1) J) e5) cb_X6_become ml_X7_183 isC_X6 ob_dbl_34_SWor (zm2I rfl (by decide) (sub_o2 clo_Wor sub_Top_asked sub_Top_now (by decide)) _ _ _ _) (rmok (Nat.le_of_ble_eq_true rfl) (Nat.le_of_ble_eq_true rfl)) (Nat.le_of_ble_eq_true rfl) rfl ?_
      refine g_aload_n O (pc := 46) dX7_odds_46 0 rfl ?_
      refine g_getR O (pc := 47) isC_X7 dX7_odds_47 fw_X7_21 (by decide) fd_STop_0_2 ?_
      refine g_iload O (pc := 50) dX7_odds_50 4 rfl ?_
      refine g_putI O (pc := 52) isC_X6 isT_X6 dX7_odds_52 fw_X7_50 (by decide) rfl rfl fd_STop_69_7 ?_
      refine g_aload_n O (pc := 55) dX7_odds_55 0 rfl ?_
      refine g_getR O (pc := 56) isC_X7 dX7_odds_56 fw_X7_21 (by decide) fd_STop_0_2 ?_
      refine g_iload_n O (pc := 59) dX7_odds_59 1 rfl ?_
      obtain ⟨q6, e7, hF⟩ := bnd hF
      refine g_Vv O (pc := 60) (st := []) dX7_odds_60 (mc_X6_goRoundsTillOver (zI (69) J) e7) cb_X6_goRoundsTillOver ml_X7_215 isC_X6 ob_SWor (zm1I sub_Top_asked _ _ _ _) (rmok (Nat.le_of_ble_eq_true rfl) (Nat.le_of_ble_eq_true rfl)) (Nat.le_of_ble_eq_true rfl) rfl ?_
      refine g_aload_n O (pc := 63) dX7_odds_63 0 rfl ?_
      refine g_getR O (pc := 64) isC_X7 dX7_odds_64 fw_X7_21 (by decide) fd_STop_0_2 ?_
      obtain ⟨q8, e9, hF⟩ := bnd hF
      refine g_Vi O (pc := 67) (st := []) dX7_odds_67 (mc_X6_isOver (zI (69) J) e9) cb_X6_isOver ml_X7_162 isC_X6 ob_SWor (zm1R sub_Top_asked _ _ _) (rmok (Nat.le_of_ble_eq_true rfl) (Nat.le_of_ble_eq_true rfl)) (Nat.le_of_ble_eq_true rfl) rfl ?_
      refine g_if_eq O (pc := 70) 76 dX7_odds_70 (by decide) (fun h10 => ?_) (fun h10 => ?_)
      · rw [if_pos h10] at hF
        refine g_sub [0, 1, 2, 3, 4] (L' := [(0, .ref (0)), (1, .int (x1)), (2, .int (x2)), (3, .int (x3)), (4, .int (x4))]) rfl ?_
        exact c_X7_odds_b76 O ih _ _ _ _ _ _ hF
      · rw [if_neg h10] at hF
        refine g_iinc O (pc := 73) (v := x3 + (1 : Int32)) (L' := [(3, .int (x3 + (1 : Int32))), (0, .ref (0)), (1, .int (x1)), (2, .int (x2)), (4, .int (x4))]) dX7_odds_73 3 rfl rfl (by decide) rfl ?_
        refine g_sub [1, 2, 3, 0, 4] (L' := [(0, .ref (0)), (1, .int (x1)), (2, .int (x2)), (3, .int (x3 + (1 : Int32))), (4, .int (x4))]) rfl ?_
        exact c_X7_odds_b76 O ih _ _ _ _ _ _ hF

def f_X7_odds (x1 : Int32) (x2 : Int32) (I : IS) : Option (Int64 × IS) :=
  if x1 < 0 then
  (f_X7_odds_b19 (I))
  else
  (if (60 : Int32) < x1 then
  (f_X7_odds_b19 (I))
  else
  (if x2 < 0 then
  (f_X7_odds_b19 (I))
  else
  (if x2 ≤ (1 : Int32) then
  (f_X7_odds_b28 LF (x1) (x2) ((0 : Int32)) ((0 : Int32)) (I))
  else
  (f_X7_odds_b19 (I)))))
set_option maxHeartbeats 4000000 in
set_option maxRecDepth 100000 in
theorem c_X7_odds_e {z : CTX} {J : JS} (O : OK z cX7_odds RX7 5 STop 123 (rm_ 5 118) (some .long)) : ∀ (x1 : Int32) (x2 : Int32) (I : IS) (q : Int64 × IS), f_X7_odds x1 x2 I = some q → G z 0 [(0, .ref (0)), (1, .int (x1)), (2, .int (x2))] [] I J (some (.long q.1), q.2, J) := by
  intro x1 x2 I q hF
  rw [f_X7_odds] at hF
  refine g_iload_n O (pc := 0) dX7_odds_0 1 rfl ?_
  refine g_if_lt O (pc := 1) 19 dX7_odds_1 (by decide) (fun h1 => ?_) (fun h1 => ?_)
  · rw [if_pos h1] at hF
    refine g_sub [] (L' := []) rfl ?_
    exact c_X7_odds_b19 O _ _ hF
  · rw [if_neg h1] at hF
    refine g_iload_n O (pc := 4) dX7_odds_4 1 rfl ?_
    refine g_bipush O (pc := 5) dX7_odds_5 bp_60 ?_
    refine g_icmp_gt O (pc := 7) 19 dX7_odds_7 (by decide) (fun h2 => ?_) (fun h2 => ?_)
    · rw [if_pos h2] at hF
      refine g_sub [] (L' := []) rfl ?_
      exact c_X7_odds_b19 O _ _ hF
    · rw [if_neg h2] at hF
      refine g_iload_n O (pc := 10) dX7_odds_10 2 rfl ?_
      refine g_if_lt O (pc := 11) 19 dX7_odds_11 (by decide) (fun h3 => ?_) (fun h3 => ?_)
      · rw [if_pos h3] at hF
        refine g_sub [] (L' := []) rfl ?_
        exact c_X7_odds_b19 O _ _ hF
      · rw [if_neg h3] at hF
        refine g_iload_n O (pc := 14) dX7_odds_14 2 rfl ?_
        refine g_iconst O (pc := 15) dX7_odds_15 (ic_1) ?_
        refine g_icmp_le O (pc := 16) 23 dX7_odds_16 (by decide) (fun h4 => ?_) (fun h4 => ?_)
        · rw [if_pos h4] at hF
          refine g_iconst O (pc := 23) dX7_odds_23 (ic_0) ?_
          refine g_istore_n O (pc := 24) (L' := [(3, .int ((0 : Int32))), (0, .ref (0)), (1, .int (x1)), (2, .int (x2))]) dX7_odds_24 (by decide) rfl ?_
          refine g_iconst O (pc := 25) dX7_odds_25 (ic_0) ?_
          refine g_istore O (pc := 26) (L' := [(4, .int ((0 : Int32))), (3, .int ((0 : Int32))), (0, .ref (0)), (1, .int (x1)), (2, .int (x2))]) dX7_odds_26 (by decide) rfl ?_
          refine g_sub [2, 3, 4, 1, 0] (L' := [(0, .ref (0)), (1, .int (x1)), (2, .int (x2)), (3, .int ((0 : Int32))), (4, .int ((0 : Int32)))]) rfl ?_
          exact c_X7_odds_b28 O _ _ _ _ _ _ _ hF
        · rw [if_neg h4] at hF
          refine g_sub [] (L' := []) rfl ?_
          exact c_X7_odds_b19 O _ _ hF

theorem mc_X7_odds {x1 : Int32} {x2 : Int32} {I : IS} (J : JS) {q : Int64 × IS} (hF : f_X7_odds x1 x2 I = some q) : MC yX7_odds cX7_odds 5 (some .long) (rm_ 5 118) STop 123 [.ref (0), .int (x1), .int (x2)] I J (some (.long q.1), q.2, J) :=
  mc_of pn_X7 (Nat.le_of_ble_eq_true rfl) (fun z O => c_X7_odds_e O _ _ _ _ hF)

def f_X7_of (x1 : Int32) (x2 : Int32) (I : IS) : Option (Int32 × IS) :=
  (f_X4_has (x1) (zI (11) I)).bind fun q1 =>
  (if q1 = 0 then
  (some ((-1 : Int32), I))
  else
  (if x2 = 0 then
  (if okI (x1) 32 = true then
  (some ((I (15) (x1).toNatClampNeg), I))
  else none)
  else if x2 = 1 then
  (if okI (x1) 32 = true then
  (some ((I (12) (x1).toNatClampNeg), I))
  else none)
  else if x2 = 2 then
  (if okI (x1) 32 = true then
  (some ((I (13) (x1).toNatClampNeg), I))
  else none)
  else if x2 = 3 then
  (if okI (x1) 32 = true then
  (some ((I (14) (x1).toNatClampNeg), I))
  else none)
  else if x2 = 4 then
  (if okI (x1) 32 = true then
  (some ((I (16) (x1).toNatClampNeg), I))
  else none)
  else if x2 = 5 then
  ((f_X4_howManyIn (x1) (zI (11) I)).bind fun q15 =>
  (some (q15, I)))
  else if x2 = 6 then
  (if okI (x1) 32 = true then
  (some ((I (17) (x1).toNatClampNeg), I))
  else none)
  else if x2 = 7 then
  ((f_X4_span (x1) (zI (11) I)).bind fun q20 =>
  (some (q20.1, (gI (11) 9 q20.2 I))))
  else if x2 = 8 then
  ((f_X4_workOfAll (x1) (zI (11) I)).bind fun q23 =>
  (some (q23, I)))
  else if x2 = 9 then
  ((f_X4_depth (x1) (zI (11) I)).bind fun q26 =>
  (some (q26, I)))
  else if x2 = 10 then
  ((f_X6_armAtWorkOn (x1) (zI (1) I)).bind fun q29 =>
  (some (q29, I)))
  else if x2 = 11 then
  ((f_X6_armWithRowOf (x1) (zI (1) I)).bind fun q32 =>
  (some (q32, I)))
  else (some ((-1 : Int32), I))))
set_option maxHeartbeats 4000000 in
set_option maxRecDepth 100000 in
theorem c_X7_of_e {z : CTX} {J : JS} (O : OK z cX7_of RX7 4 STop 123 (rm_ 2 47) (some .int)) : ∀ (x1 : Int32) (x2 : Int32) (I : IS) (q : Int32 × IS), f_X7_of x1 x2 I = some q → G z 0 [(0, .ref (0)), (1, .int (x1)), (2, .int (x2))] [] I J (some (.int q.1), q.2, J) := by
  intro x1 x2 I q hF
  rw [f_X7_of] at hF
  refine g_aload_n O (pc := 0) dX7_of_0 0 rfl ?_
  refine g_getR O (pc := 1) isC_X7 dX7_of_1 fw_X7_12 (by decide) fd_STop_0_0 ?_
  refine g_getR O (pc := 4) isC_X6 dX7_of_4 fw_X7_67 (by decide) fd_STop_1_1 ?_
  refine g_astore_n O (pc := 7) (L' := [(3, .ref (11)), (0, .ref (0)), (1, .int (x1)), (2, .int (x2))]) dX7_of_7 (by decide) rfl ?_
  refine g_aload_n O (pc := 8) dX7_of_8 0 rfl ?_
  refine g_iload_n O (pc := 9) dX7_of_9 2 rfl ?_
  obtain ⟨q1, e2, hF⟩ := bnd hF
  refine g_Vi O (pc := 10) (st := []) dX7_of_10 (mc_X4_has (zI (11) J) e2) cb_X4_has ml_X7_100 isC_X4 ob_STas (zm1R sub_Top_11 _ _ _) (rmok (Nat.le_of_ble_eq_true rfl) (Nat.le_of_ble_eq_true rfl)) (Nat.le_of_ble_eq_true rfl) rfl ?_
  refine g_if_ne O (pc := 13) 18 dX7_of_13 (by decide) (fun h3 => ?_) (fun h3 => ?_)
  · rw [if_neg h3] at hF
    refine g_iload_n O (pc := 18) dX7_of_18 3 rfl ?_
    by_cases h4 : x2 = 0
    · rw [if_pos h4] at hF
      refine g_tabIn O (pc := 19) (61) 80 dX7_of_19 h4 (by decide) (by decide) rfl (by decide) ?_
      refine g_aload_n O (pc := 80) dX7_of_80 0 rfl ?_
      refine g_getR O (pc := 81) isC_X4 dX7_of_81 fw_X7_103 (by decide) fd_STop_11_3 ?_
      refine g_iload_n O (pc := 84) dX7_of_84 2 rfl ?_
      obtain ⟨h5, hF⟩ := gd hF
      refine g_il O (pc := 85) dX7_of_85 ar_STop_15 h5 ?_
      obtain rfl := Option.some.inj hF
      exact g_ireturn O (pc := 86) dX7_of_86 rfl
    rw [if_neg h4] at hF
    by_cases h6 : x2 = 1
    · rw [if_pos h6] at hF
      refine g_tabIn O (pc := 19) (68) 87 dX7_of_19 h6 (by decide) (by decide) rfl (by decide) ?_
      refine g_aload_n O (pc := 87) dX7_of_87 0 rfl ?_
      refine g_getR O (pc := 88) isC_X4 dX7_of_88 fw_X7_106 (by decide) fd_STop_11_0 ?_
      refine g_iload_n O (pc := 91) dX7_of_91 2 rfl ?_
      obtain ⟨h7, hF⟩ := gd hF
      refine g_il O (pc := 92) dX7_of_92 ar_STop_12 h7 ?_
      obtain rfl := Option.some.inj hF
      exact g_ireturn O (pc := 93) dX7_of_93 rfl
    rw [if_neg h6] at hF
    by_cases h8 : x2 = 2
    · rw [if_pos h8] at hF
      refine g_tabIn O (pc := 19) (75) 94 dX7_of_19 h8 (by decide) (by decide) rfl (by decide) ?_
      refine g_aload_n O (pc := 94) dX7_of_94 0 rfl ?_
      refine g_getR O (pc := 95) isC_X4 dX7_of_95 fw_X7_107 (by decide) fd_STop_11_1 ?_
      refine g_iload_n O (pc := 98) dX7_of_98 2 rfl ?_
      obtain ⟨h9, hF⟩ := gd hF
      refine g_il O (pc := 99) dX7_of_99 ar_STop_13 h9 ?_
      obtain rfl := Option.some.inj hF
      exact g_ireturn O (pc := 100) dX7_of_100 rfl
    rw [if_neg h8] at hF
    by_cases h10 : x2 = 3
    · rw [if_pos h10] at hF
      refine g_tabIn O (pc := 19) (82) 101 dX7_of_19 h10 (by decide) (by decide) rfl (by decide) ?_
      refine g_aload_n O (pc := 101) dX7_of_101 0 rfl ?_
      refine g_getR O (pc := 102) isC_X4 dX7_of_102 fw_X7_110 (by decide) fd_STop_11_2 ?_
      refine g_iload_n O (pc := 105) dX7_of_105 2 rfl ?_
      obtain ⟨h11, hF⟩ := gd hF
      refine g_il O (pc := 106) dX7_of_106 ar_STop_14 h11 ?_
      obtain rfl := Option.some.inj hF
      exact g_ireturn O (pc := 107) dX7_of_107 rfl
    rw [if_neg h10] at hF
    by_cases h12 : x2 = 4
    · rw [if_pos h12] at hF
      refine g_tabIn O (pc := 19) (89) 108 dX7_of_19 h12 (by decide) (by decide) rfl (by decide) ?_
      refine g_aload_n O (pc := 108) dX7_of_108 0 rfl ?_
      refine g_getR O (pc := 109) isC_X4 dX7_of_109 fw_X7_113 (by decide) fd_STop_11_4 ?_
      refine g_iload_n O (pc := 112) dX7_of_112 2 rfl ?_
      obtain ⟨h13, hF⟩ := gd hF
      refine g_il O (pc := 113) dX7_of_113 ar_STop_16 h13 ?_
      obtain rfl := Option.some.inj hF
      exact g_ireturn O (pc := 114) dX7_of_114 rfl
    rw [if_neg h12] at hF
    by_cases h14 : x2 = 5
    · rw [if_pos h14] at hF
      refine g_tabIn O (pc := 19) (96) 115 dX7_of_19 h14 (by decide) (by decide) rfl (by decide) ?_
      refine g_aload_n O (pc := 115) dX7_of_115 0 rfl ?_
      refine g_iload_n O (pc := 116) dX7_of_116 2 rfl ?_
      obtain ⟨q15, e16, hF⟩ := bnd hF
      refine g_Vi O (pc := 117) (st := []) dX7_of_117 (mc_X4_howManyIn (zI (11) J) e16) cb_X4_howManyIn ml_X7_114 isC_X4 ob_STas (zm1R sub_Top_11 _ _ _) (rmok (Nat.le_of_ble_eq_true rfl) (Nat.le_of_ble_eq_true rfl)) (Nat.le_of_ble_eq_true rfl) rfl ?_
      obtain rfl := Option.some.inj hF
      exact g_ireturn O (pc := 120) dX7_of_120 rfl
    rw [if_neg h14] at hF
    by_cases h17 : x2 = 6
    · rw [if_pos h17] at hF
      refine g_tabIn O (pc := 19) (102) 121 dX7_of_19 h17 (by decide) (by decide) rfl (by decide) ?_
      refine g_aload_n O (pc := 121) dX7_of_121 0 rfl ?_
      refine g_getR O (pc := 122) isC_X4 dX7_of_122 fw_X7_118 (by decide) fd_STop_11_5 ?_
      refine g_iload_n O (pc := 125) dX7_of_125 2 rfl ?_
      obtain ⟨h18, hF⟩ := gd hF
      refine g_il O (pc := 126) dX7_of_126 ar_STop_17 h18 ?_
      obtain rfl := Option.some.inj hF
      exact g_ireturn O (pc := 127) dX7_of_127 rfl
    rw [if_neg h17] at hF
    by_cases h19 : x2 = 7
    · rw [if_pos h19] at hF
      refine g_tabIn O (pc := 19) (109) 128 dX7_of_19 h19 (by decide) (by decide) rfl (by decide) ?_
      refine g_aload_n O (pc := 128) dX7_of_128 0 rfl ?_
      refine g_iload_n O (pc := 129) dX7_of_129 2 rfl ?_
      obtain ⟨q20, e21, hF⟩ := bnd hF
      refine g_Vi O (pc := 130) (st := []) dX7_of_130 (mc_X4_span (zI (11) J) e21) cb_X4_span ml_X7_119 isC_X4 ob_STas (zm1I sub_Top_11 _ _ _ _) (rmok (Nat.le_of_ble_eq_true rfl) (Nat.le_of_ble_eq_true rfl)) (Nat.le_of_ble_eq_true rfl) rfl ?_
      obtain rfl := Option.some.inj hF
      exact g_ireturn O (pc := 133) dX7_of_133 rfl
    rw [if_neg h19] at hF
    by_cases h22 : x2 = 8
    · rw [if_pos h22] at hF
      refine g_tabIn O (pc := 19) (115) 134 dX7_of_19 h22 (by decide) (by decide) rfl (by decide) ?_
      refine g_aload_n O (pc := 134) dX7_of_134 0 rfl ?_
      refine g_iload_n O (pc := 135) dX7_of_135 2 rfl ?_
      obtain ⟨q23, e24, hF⟩ := bnd hF
      refine g_Vi O (pc := 136) (st := []) dX7_of_136 (mc_X4_workOfAll (zI (11) J) e24) cb_X4_workOfAll ml_X7_122 isC_X4 ob_STas (zm1R sub_Top_11 _ _ _) (rmok (Nat.le_of_ble_eq_true rfl) (Nat.le_of_ble_eq_true rfl)) (Nat.le_of_ble_eq_true rfl) rfl ?_
      obtain rfl := Option.some.inj hF
      exact g_ireturn O (pc := 139) dX7_of_139 rfl
    rw [if_neg h22] at hF
    by_cases h25 : x2 = 9
    · rw [if_pos h25] at hF
      refine g_tabIn O (pc := 19) (121) 140 dX7_of_19 h25 (by decide) (by decide) rfl (by decide) ?_
      refine g_aload_n O (pc := 140) dX7_of_140 0 rfl ?_
      refine g_iload_n O (pc := 141) dX7_of_141 2 rfl ?_
      obtain ⟨q26, e27, hF⟩ := bnd hF
      refine g_Vi O (pc := 142) (st := []) dX7_of_142 (mc_X4_depth (zI (11) J) e27) cb_X4_depth ml_X7_125 isC_X4 ob_STas (zm1R sub_Top_11 _ _ _) (rmok (Nat.le_of_ble_eq_true rfl) (Nat.le_of_ble_eq_true rfl)) (Nat.le_of_ble_eq_true rfl) rfl ?_
      obtain rfl := Option.some.inj hF
      exact g_ireturn O (pc := 145) dX7_of_145 rfl
    rw [if_neg h25] at hF
    by_cases h28 : x2 = 10
    · rw [if_pos h28] at hF
      refine g_tabIn O (pc := 19) (127) 146 dX7_of_19 h28 (by decide) (by decide) rfl (by decide) ?_
      refine g_aload_n O (pc := 146) dX7_of_146 1 rfl ?_
      refine g_getR O (pc := 147) isC_X7 dX7_of_147 fw_X7_12 (by decide) fd_STop_0_0 ?_
      refine g_iload_n O (pc := 150) dX7_of_150 2 rfl ?_
      obtain ⟨q29, e30, hF⟩ := bnd hF
      refine g_Vi O (pc := 151) (st := []) dX7_of_151 (mc_X6_armAtWorkOn (zI (1) J) e30) cb_X6_armAtWorkOn ml_X7_128 isC_X6 ob_SWor (zm1R sub_Top_now _ _ _) (rmok (Nat.le_of_ble_eq_true rfl) (Nat.le_of_ble_eq_true rfl)) (Nat.le_of_ble_eq_true rfl) rfl ?_
      obtain rfl := Option.some.inj hF
      exact g_ireturn O (pc := 154) dX7_of_154 rfl
    rw [if_neg h28] at hF
    by_cases h31 : x2 = 11
    · rw [if_pos h31] at hF
      refine g_tabIn O (pc := 19) (136) 155 dX7_of_19 h31 (by decide) (by decide) rfl (by decide) ?_
      refine g_aload_n O (pc := 155) dX7_of_155 1 rfl ?_
      refine g_getR O (pc := 156) isC_X7 dX7_of_156 fw_X7_12 (by decide) fd_STop_0_0 ?_
      refine g_iload_n O (pc := 159) dX7_of_159 2 rfl ?_
      obtain ⟨q32, e33, hF⟩ := bnd hF
      refine g_Vi O (pc := 160) (st := []) dX7_of_160 (mc_X6_armWithRowOf (zI (1) J) e33) cb_X6_armWithRowOf ml_X7_131 isC_X6 ob_SWor (zm1R sub_Top_now _ _ _) (rmok (Nat.le_of_ble_eq_true rfl) (Nat.le_of_ble_eq_true rfl)) (Nat.le_of_ble_eq_true rfl) rfl ?_
      obtain rfl := Option.some.inj hF
      exact g_ireturn O (pc := 163) dX7_of_163 rfl
    rw [if_neg h31] at hF
    have ih4 : ¬ (x2).toInt = 0 := fun q => h4 (Int32.toInt_inj.mp q)
    have ih6 : ¬ (x2).toInt = 1 := fun q => h6 (Int32.toInt_inj.mp q)
    have ih8 : ¬ (x2).toInt = 2 := fun q => h8 (Int32.toInt_inj.mp q)
    have ih10 : ¬ (x2).toInt = 3 := fun q => h10 (Int32.toInt_inj.mp q)
    have ih12 : ¬ (x2).toInt = 4 := fun q => h12 (Int32.toInt_inj.mp q)
    have ih14 : ¬ (x2).toInt = 5 := fun q => h14 (Int32.toInt_inj.mp q)
    have ih17 : ¬ (x2).toInt = 6 := fun q => h17 (Int32.toInt_inj.mp q)
    have ih19 : ¬ (x2).toInt = 7 := fun q => h19 (Int32.toInt_inj.mp q)
    have ih22 : ¬ (x2).toInt = 8 := fun q => h22 (Int32.toInt_inj.mp q)
    have ih25 : ¬ (x2).toInt = 9 := fun q => h25 (Int32.toInt_inj.mp q)
    have ih28 : ¬ (x2).toInt = 10 := fun q => h28 (Int32.toInt_inj.mp q)
    have ih31 : ¬ (x2).toInt = 11 := fun q => h31 (Int32.toInt_inj.mp q)
    refine g_tabOut O (pc := 19) 164 dX7_of_19 (by omega) (by decide) ?_
    refine g_iconst O (pc := 164) dX7_of_164 (ic_m1) ?_
    obtain rfl := Option.some.inj hF
    exact g_ireturn O (pc := 165) dX7_of_165 rfl
  · rw [if_pos h3] at hF
    refine g_iconst O (pc := 16) dX7_of_16 (ic_m1) ?_
    obtain rfl := Option.some.inj hF
    exact g_ireturn O (pc := 17) dX7_of_17 rfl

theorem mc_X7_of {x1 : Int32} {x2 : Int32} {I : IS} (J : JS) {q : Int32 × IS} (hF : f_X7_of x1 x2 I = some q) : MC yX7_of cX7_of 4 (some .int) (rm_ 2 47) STop 123 [.ref (0), .int (x1), .int (x2)] I J (some (.int q.1), q.2, J) :=
  mc_of pn_X7 (Nat.le_of_ble_eq_true rfl) (fun z O => c_X7_of_e O _ _ _ _ hF)

def f_X7_on_b9 (I : IS) : Option (Int32 × IS) :=
  some ((-1 : Int32), I)
set_option maxHeartbeats 4000000 in
set_option maxRecDepth 100000 in
theorem c_X7_on_b9 {z : CTX} {J : JS} (O : OK z cX7_on RX7 3 STop 123 (rm_ 5 118) (some .int)) : ∀ (I : IS) (q : Int32 × IS), f_X7_on_b9 I = some q → G z 9 [] [] I J (some (.int q.1), q.2, J) := by
  intro I q hF
  rw [f_X7_on_b9] at hF
  refine g_iconst O (pc := 9) dX7_on_9 (ic_m1) ?_
  obtain rfl := Option.some.inj hF
  exact g_ireturn O (pc := 10) dX7_on_10 rfl

def f_X7_on_b21 (I : IS) : Option (Int32 × IS) :=
  some ((-2 : Int32), I)
set_option maxHeartbeats 4000000 in
set_option maxRecDepth 100000 in
theorem c_X7_on_b21 {z : CTX} {J : JS} (O : OK z cX7_on RX7 3 STop 123 (rm_ 5 118) (some .int)) : ∀ (I : IS) (q : Int32 × IS), f_X7_on_b21 I = some q → G z 21 [] [] I J (some (.int q.1), q.2, J) := by
  intro I q hF
  rw [f_X7_on_b21] at hF
  refine g_bipush O (pc := 21) dX7_on_21 bp_m2 ?_
  obtain rfl := Option.some.inj hF
  exact g_ireturn O (pc := 23) dX7_on_23 rfl

def f_X7_on (x1 : Int32) (x2 : Int32) (I : IS) : Option (Int32 × IS) :=
  if x2 < 0 then
  (f_X7_on_b9 (I))
  else
  (if x2 ≤ (3 : Int32) then
  (if x1 < 0 then
  (f_X7_on_b21 (I))
  else
  (if x1 ≤ (60 : Int32) then
  ((f_X6_become (zI2 (69) 34 (1) I)).bind fun q5 =>
  ((f_X6_goRounds (x1) (zI (69) (gI2 (69) 34 (1) 34 q5 I))).bind fun q7 =>
  (if x2 = 0 then
  ((f_X4_howManyEnded (zI (79) (gI (69) 34 q7 (gI2 (69) 34 (1) 34 q5 I)))).bind fun q10 =>
  (some (q10, (gI (69) 34 q7 (gI2 (69) 34 (1) 34 q5 I)))))
  else if x2 = 1 then
  ((f_X4_howManyDone (zI (79) (gI (69) 34 q7 (gI2 (69) 34 (1) 34 q5 I)))).bind fun q13 =>
  (some (q13, (gI (69) 34 q7 (gI2 (69) 34 (1) 34 q5 I)))))
  else if x2 = 2 then
  ((f_X6_idleOfAll (zI (69) (gI (69) 34 q7 (gI2 (69) 34 (1) 34 q5 I)))).bind fun q16 =>
  (some (q16, (gI (69) 34 q7 (gI2 (69) 34 (1) 34 q5 I)))))
  else ((f_X6_stoleOfAll (zI (69) (gI (69) 34 q7 (gI2 (69) 34 (1) 34 q5 I)))).bind fun q18 =>
  (some (q18, (gI (69) 34 q7 (gI2 (69) 34 (1) 34 q5 I))))))))
  else
  (f_X7_on_b21 (I))))
  else
  (f_X7_on_b9 (I)))
set_option maxHeartbeats 4000000 in
set_option maxRecDepth 100000 in
theorem c_X7_on_e {z : CTX} {J : JS} (O : OK z cX7_on RX7 3 STop 123 (rm_ 5 118) (some .int)) : ∀ (x1 : Int32) (x2 : Int32) (I : IS) (q : Int32 × IS), f_X7_on x1 x2 I = some q → G z 0 [(0, .ref (0)), (1, .int (x1)), (2, .int (x2))] [] I J (some (.int q.1), q.2, J) := by
  intro x1 x2 I q hF
  rw [f_X7_on] at hF
  refine g_iload_n O (pc := 0) dX7_on_0 2 rfl ?_
  refine g_if_lt O (pc := 1) 9 dX7_on_1 (by decide) (fun h1 => ?_) (fun h1 => ?_)
  · rw [if_pos h1] at hF
    refine g_sub [] (L' := []) rfl ?_
    exact c_X7_on_b9 O _ _ hF
  · rw [if_neg h1] at hF
    refine g_iload_n O (pc := 4) dX7_on_4 2 rfl ?_
    refine g_iconst O (pc := 5) dX7_on_5 (ic_3) ?_
    refine g_icmp_le O (pc := 6) 11 dX7_on_6 (by decide) (fun h2 => ?_) (fun h2 => ?_)
    · rw [if_pos h2] at hF
      refine g_iload_n O (pc := 11) dX7_on_11 1 rfl ?_
      refine g_if_lt O (pc := 12) 21 dX7_on_12 (by decide) (fun h3 => ?_) (fun h3 => ?_)
      · rw [if_pos h3] at hF
        refine g_sub [] (L' := []) rfl ?_
        exact c_X7_on_b21 O _ _ hF
      · rw [if_neg h3] at hF
        refine g_iload_n O (pc := 15) dX7_on_15 1 rfl ?_
        refine g_bipush O (pc := 16) dX7_on_16 bp_60 ?_
        refine g_icmp_le O (pc := 18) 24 dX7_on_18 (by decide) (fun h4 => ?_) (fun h4 => ?_)
        · rw [if_pos h4] at hF
          refine g_aload_n O (pc := 24) dX7_on_24 0 rfl ?_
          refine g_getR O (pc := 25) isC_X7 dX7_on_25 fw_X7_21 (by decide) fd_STop_0_2 ?_
          refine g_aload_n O (pc := 28) dX7_on_28 0 rfl ?_
          refine g_getR O (pc := 29) isC_X7 dX7_on_29 fw_X7_12 (by decide) fd_STop_0_0 ?_
          obtain ⟨q5, e6, hF⟩ := bnd hF
          refine g_Vv O (pc := 32) (st := []) dX7_on_32 (mc_X6_become (zI2 (69) 34 (1) J) e6) cb_X6_become ml_X7_183 isC_X6 ob_dbl_34_SWor (zm2I rfl (by decide) (sub_o2 clo_Wor sub_Top_asked sub_Top_now (by decide)) _ _ _ _) (rmok (Nat.le_of_ble_eq_true rfl) (Nat.le_of_ble_eq_true rfl)) (Nat.le_of_ble_eq_true rfl) rfl ?_
          refine g_aload_n O (pc := 35) dX7_on_35 0 rfl ?_
          refine g_getR O (pc := 36) isC_X7 dX7_on_36 fw_X7_21 (by decide) fd_STop_0_2 ?_
          refine g_iload_n O (pc := 39) dX7_on_39 1 rfl ?_
          obtain ⟨q7, e8, hF⟩ := bnd hF
          refine g_Vv O (pc := 40) (st := []) dX7_on_40 (mc_X6_goRounds (zI (69) J) e8) cb_X6_goRounds ml_X7_153 isC_X6 ob_SWor (zm1I sub_Top_asked _ _ _ _) (rmok (Nat.le_of_ble_eq_true rfl) (Nat.le_of_ble_eq_true rfl)) (Nat.le_of_ble_eq_true rfl) rfl ?_
          refine g_iload_n O (pc := 43) dX7_on_43 2 rfl ?_
          by_cases h9 : x2 = 0
          · rw [if_pos h9] at hF
            refine g_tabIn O (pc := 44) (28) 72 dX7_on_44 h9 (by decide) (by decide) rfl (by decide) ?_
            refine g_aload_n O (pc := 72) dX7_on_72 0 rfl ?_
            refine g_getR O (pc := 73) isC_X7 dX7_on_73 fw_X7_21 (by decide) fd_STop_0_2 ?_
            refine g_getR O (pc := 76) isC_X6 dX7_on_76 fw_X7_67 (by decide) fd_STop_69_1 ?_
            obtain ⟨q10, e11, hF⟩ := bnd hF
            refine g_Vi O (pc := 79) (st := []) dX7_on_79 (mc_X4_howManyEnded (zI (79) J) e11) cb_X4_howManyEnded ml_X7_187 isC_X4 ob_STas (zm1R sub_Top_79 _ _ _) (rmok (Nat.le_of_ble_eq_true rfl) (Nat.le_of_ble_eq_true rfl)) (Nat.le_of_ble_eq_true rfl) rfl ?_
            obtain rfl := Option.some.inj hF
            exact g_ireturn O (pc := 82) dX7_on_82 rfl
          rw [if_neg h9] at hF
          by_cases h12 : x2 = 1
          · rw [if_pos h12] at hF
            refine g_tabIn O (pc := 44) (39) 83 dX7_on_44 h12 (by decide) (by decide) rfl (by decide) ?_
            refine g_aload_n O (pc := 83) dX7_on_83 0 rfl ?_
            refine g_getR O (pc := 84) isC_X7 dX7_on_84 fw_X7_21 (by decide) fd_STop_0_2 ?_
            refine g_getR O (pc := 87) isC_X6 dX7_on_87 fw_X7_67 (by decide) fd_STop_69_1 ?_
            obtain ⟨q13, e14, hF⟩ := bnd hF
            refine g_Vi O (pc := 90) (st := []) dX7_on_90 (mc_X4_howManyDone (zI (79) J) e14) cb_X4_howManyDone ml_X7_190 isC_X4 ob_STas (zm1R sub_Top_79 _ _ _) (rmok (Nat.le_of_ble_eq_true rfl) (Nat.le_of_ble_eq_true rfl)) (Nat.le_of_ble_eq_true rfl) rfl ?_
            obtain rfl := Option.some.inj hF
            exact g_ireturn O (pc := 93) dX7_on_93 rfl
          rw [if_neg h12] at hF
          by_cases h15 : x2 = 2
          · rw [if_pos h15] at hF
            refine g_tabIn O (pc := 44) (50) 94 dX7_on_44 h15 (by decide) (by decide) rfl (by decide) ?_
            refine g_aload_n O (pc := 94) dX7_on_94 0 rfl ?_
            refine g_getR O (pc := 95) isC_X7 dX7_on_95 fw_X7_21 (by decide) fd_STop_0_2 ?_
            obtain ⟨q16, e17, hF⟩ := bnd hF
            refine g_Vi O (pc := 98) (st := []) dX7_on_98 (mc_X6_idleOfAll (zI (69) J) e17) cb_X6_idleOfAll ml_X7_193 isC_X6 ob_SWor (zm1R sub_Top_asked _ _ _) (rmok (Nat.le_of_ble_eq_true rfl) (Nat.le_of_ble_eq_true rfl)) (Nat.le_of_ble_eq_true rfl) rfl ?_
            obtain rfl := Option.some.inj hF
            exact g_ireturn O (pc := 101) dX7_on_101 rfl
          rw [if_neg h15] at hF
          have ih9 : ¬ (x2).toInt = 0 := fun q => h9 (Int32.toInt_inj.mp q)
          have ih12 : ¬ (x2).toInt = 1 := fun q => h12 (Int32.toInt_inj.mp q)
          have ih15 : ¬ (x2).toInt = 2 := fun q => h15 (Int32.toInt_inj.mp q)
          refine g_tabOut O (pc := 44) 102 dX7_on_44 (by omega) (by decide) ?_
          refine g_aload_n O (pc := 102) dX7_on_102 0 rfl ?_
          refine g_getR O (pc := 103) isC_X7 dX7_on_103 fw_X7_21 (by decide) fd_STop_0_2 ?_
          obtain ⟨q18, e19, hF⟩ := bnd hF
          refine g_Vi O (pc := 106) (st := []) dX7_on_106 (mc_X6_stoleOfAll (zI (69) J) e19) cb_X6_stoleOfAll ml_X7_196 isC_X6 ob_SWor (zm1R sub_Top_asked _ _ _) (rmok (Nat.le_of_ble_eq_true rfl) (Nat.le_of_ble_eq_true rfl)) (Nat.le_of_ble_eq_true rfl) rfl ?_
          obtain rfl := Option.some.inj hF
          exact g_ireturn O (pc := 109) dX7_on_109 rfl
        · rw [if_neg h4] at hF
          refine g_sub [] (L' := []) rfl ?_
          exact c_X7_on_b21 O _ _ hF
    · rw [if_neg h2] at hF
      refine g_sub [] (L' := []) rfl ?_
      exact c_X7_on_b9 O _ _ hF

theorem mc_X7_on {x1 : Int32} {x2 : Int32} {I : IS} (J : JS) {q : Int32 × IS} (hF : f_X7_on x1 x2 I = some q) : MC yX7_on cX7_on 3 (some .int) (rm_ 5 118) STop 123 [.ref (0), .int (x1), .int (x2)] I J (some (.int q.1), q.2, J) :=
  mc_of pn_X7 (Nat.le_of_ble_eq_true rfl) (fun z O => c_X7_on_e O _ _ _ _ hF)

def f_X7_pass_b10 (I : IS) : Option (Int32 × IS) :=
  some ((-2 : Int32), I)
set_option maxHeartbeats 4000000 in
set_option maxRecDepth 100000 in
theorem c_X7_pass_b10 {z : CTX} {J : JS} (O : OK z cX7_pass RX7 2 STop 123 (rm_ 5 118) (some .int)) : ∀ (I : IS) (q : Int32 × IS), f_X7_pass_b10 I = some q → G z 10 [] [] I J (some (.int q.1), q.2, J) := by
  intro I q hF
  rw [f_X7_pass_b10] at hF
  refine g_bipush O (pc := 10) dX7_pass_10 bp_m2 ?_
  obtain rfl := Option.some.inj hF
  exact g_ireturn O (pc := 12) dX7_pass_12 rfl

def f_X7_pass (x1 : Int32) (I : IS) : Option (Int32 × IS) :=
  if x1 < 0 then
  (f_X7_pass_b10 (I))
  else
  (if x1 ≤ (60 : Int32) then
  (if ((I (1) 8) + x1) ≤ (9999 : Int32) then
  ((f_X6_goRounds (x1) (zI (1) I)).bind fun q4 =>
  (some (((gI (1) 34 q4 I) (1) 8), (gI (1) 34 q4 I))))
  else
  (some ((-3 : Int32), I)))
  else
  (f_X7_pass_b10 (I)))
set_option maxHeartbeats 4000000 in
set_option maxRecDepth 100000 in
theorem c_X7_pass_e {z : CTX} {J : JS} (O : OK z cX7_pass RX7 2 STop 123 (rm_ 5 118) (some .int)) : ∀ (x1 : Int32) (I : IS) (q : Int32 × IS), f_X7_pass x1 I = some q → G z 0 [(0, .ref (0)), (1, .int (x1))] [] I J (some (.int q.1), q.2, J) := by
  intro x1 I q hF
  rw [f_X7_pass] at hF
  refine g_iload_n O (pc := 0) dX7_pass_0 1 rfl ?_
  refine g_if_lt O (pc := 1) 10 dX7_pass_1 (by decide) (fun h1 => ?_) (fun h1 => ?_)
  · rw [if_pos h1] at hF
    refine g_sub [] (L' := []) rfl ?_
    exact c_X7_pass_b10 O _ _ hF
  · rw [if_neg h1] at hF
    refine g_iload_n O (pc := 4) dX7_pass_4 1 rfl ?_
    refine g_bipush O (pc := 5) dX7_pass_5 bp_60 ?_
    refine g_icmp_le O (pc := 7) 13 dX7_pass_7 (by decide) (fun h2 => ?_) (fun h2 => ?_)
    · rw [if_pos h2] at hF
      refine g_aload_n O (pc := 13) dX7_pass_13 0 rfl ?_
      refine g_getR O (pc := 14) isC_X7 dX7_pass_14 fw_X7_12 (by decide) fd_STop_0_0 ?_
      refine g_getI O (pc := 17) isC_X6 dX7_pass_17 fw_X7_150 (by decide) fd_STop_1_8 ?_
      refine g_iload_n O (pc := 20) dX7_pass_20 1 rfl ?_
      refine g_iadd O (pc := 21) dX7_pass_21 ?_
      refine g_sipush O (pc := 22) dX7_pass_22 sp_9999 ?_
      refine g_icmp_le O (pc := 25) 31 dX7_pass_25 (by decide) (fun h3 => ?_) (fun h3 => ?_)
      · rw [if_pos h3] at hF
        refine g_aload_n O (pc := 31) dX7_pass_31 0 rfl ?_
        refine g_getR O (pc := 32) isC_X7 dX7_pass_32 fw_X7_12 (by decide) fd_STop_0_0 ?_
        refine g_iload_n O (pc := 35) dX7_pass_35 1 rfl ?_
        obtain ⟨q4, e5, hF⟩ := bnd hF
        refine g_Vv O (pc := 36) (st := []) dX7_pass_36 (mc_X6_goRounds (zI (1) J) e5) cb_X6_goRounds ml_X7_153 isC_X6 ob_SWor (zm1I sub_Top_now _ _ _ _) (rmok (Nat.le_of_ble_eq_true rfl) (Nat.le_of_ble_eq_true rfl)) (Nat.le_of_ble_eq_true rfl) rfl ?_
        refine g_aload_n O (pc := 39) dX7_pass_39 0 rfl ?_
        refine g_getR O (pc := 40) isC_X7 dX7_pass_40 fw_X7_12 (by decide) fd_STop_0_0 ?_
        refine g_getI O (pc := 43) isC_X6 dX7_pass_43 fw_X7_150 (by decide) fd_STop_1_8 ?_
        obtain rfl := Option.some.inj hF
        exact g_ireturn O (pc := 46) dX7_pass_46 rfl
      · rw [if_neg h3] at hF
        refine g_bipush O (pc := 28) dX7_pass_28 bp_m3 ?_
        obtain rfl := Option.some.inj hF
        exact g_ireturn O (pc := 30) dX7_pass_30 rfl
    · rw [if_neg h2] at hF
      refine g_sub [] (L' := []) rfl ?_
      exact c_X7_pass_b10 O _ _ hF

theorem mc_X7_pass {x1 : Int32} {I : IS} (J : JS) {q : Int32 × IS} (hF : f_X7_pass x1 I = some q) : MC yX7_pass cX7_pass 2 (some .int) (rm_ 5 118) STop 123 [.ref (0), .int (x1)] I J (some (.int q.1), q.2, J) :=
  mc_of pn_X7 (Nat.le_of_ble_eq_true rfl) (fun z O => c_X7_pass_e O _ _ _ hF)

def f_X7_plan_b25 (I : IS) : Option (Int32 × IS) :=
  some ((-1 : Int32), I)
set_option maxHeartbeats 4000000 in
set_option maxRecDepth 100000 in
theorem c_X7_plan_b25 {z : CTX} {J : JS} (O : OK z cX7_plan RX7 3 STop 123 (rm_ 1 22) (some .int)) : ∀ (I : IS) (q : Int32 × IS), f_X7_plan_b25 I = some q → G z 25 [] [] I J (some (.int q.1), q.2, J) := by
  intro I q hF
  rw [f_X7_plan_b25] at hF
  refine g_iconst O (pc := 25) dX7_plan_25 (ic_m1) ?_
  obtain rfl := Option.some.inj hF
  exact g_ireturn O (pc := 26) dX7_plan_26 rfl

def f_X7_plan_b48 (x1 : Int32) (x2 : Int32) (I : IS) : Option (Int32 × IS) :=
  (f_X2_add 10 (x1) (x2) (zI (29) I)).bind fun q1 =>
  (some (q1.1, (gI (29) 3 q1.2 I)))
set_option maxHeartbeats 4000000 in
set_option maxRecDepth 100000 in
theorem c_X7_plan_b48 {z : CTX} {J : JS} (O : OK z cX7_plan RX7 3 STop 123 (rm_ 1 22) (some .int)) : ∀ (x1 : Int32) (x2 : Int32) (I : IS) (q : Int32 × IS), f_X7_plan_b48 x1 x2 I = some q → G z 48 [(0, .ref (0)), (1, .int (x1)), (2, .int (x2))] [] I J (some (.int q.1), q.2, J) := by
  intro x1 x2 I q hF
  rw [f_X7_plan_b48] at hF
  refine g_aload_n O (pc := 48) dX7_plan_48 0 rfl ?_
  refine g_getR O (pc := 49) isC_X7 dX7_plan_49 fw_X7_12 (by decide) fd_STop_0_0 ?_
  refine g_getR O (pc := 52) isC_X6 dX7_plan_52 fw_X7_225 (by decide) fd_STop_1_4 ?_
  refine g_iload_n O (pc := 55) dX7_plan_55 1 rfl ?_
  refine g_iload_n O (pc := 56) dX7_plan_56 2 rfl ?_
  obtain ⟨q1, e2, hF⟩ := bnd hF
  refine g_Vi O (pc := 57) (st := []) dX7_plan_57 (mc_X2_add 10 (zI (29) J) e2) cb_X2_add ml_X7_208 isC_X2 (ob_SPrs_n _) (zm1I sub_Top_29 _ _ _ _) (rmok (Nat.le_of_ble_eq_true rfl) (Nat.le_of_ble_eq_true rfl)) (Nat.le_of_ble_eq_true rfl) rfl ?_
  obtain rfl := Option.some.inj hF
  exact g_ireturn O (pc := 60) dX7_plan_60 rfl

def f_X7_plan (x1 : Int32) (x2 : Int32) (I : IS) : Option (Int32 × IS) :=
  if x1 = (-1 : Int32) then
  ((f_X2_clear 10 (zI (29) I)).bind fun q8 =>
  (some (q8.1, (gI (29) 3 q8.2 I))))
  else
  (if x1 < 0 then
  (f_X7_plan_b25 (I))
  else
  (if x1 ≤ (2 : Int32) then
  (if x1 = (1 : Int32) then
  ((f_X4_has (x2) (zI (11) I)).bind fun q5 =>
  (if q5 = 0 then
  (some ((-1 : Int32), I))
  else
  (f_X7_plan_b48 (x1) (x2) (I))))
  else
  (f_X7_plan_b48 (x1) (x2) (I)))
  else
  (f_X7_plan_b25 (I))))
set_option maxHeartbeats 4000000 in
set_option maxRecDepth 100000 in
theorem c_X7_plan_e {z : CTX} {J : JS} (O : OK z cX7_plan RX7 3 STop 123 (rm_ 1 22) (some .int)) : ∀ (x1 : Int32) (x2 : Int32) (I : IS) (q : Int32 × IS), f_X7_plan x1 x2 I = some q → G z 0 [(0, .ref (0)), (1, .int (x1)), (2, .int (x2))] [] I J (some (.int q.1), q.2, J) := by
  intro x1 x2 I q hF
  rw [f_X7_plan] at hF
  refine g_iload_n O (pc := 0) dX7_plan_0 1 rfl ?_
  refine g_iconst O (pc := 1) dX7_plan_1 (ic_m1) ?_
  refine g_icmp_ne O (pc := 2) 16 dX7_plan_2 (by decide) (fun h1 => ?_) (fun h1 => ?_)
  · rw [if_neg h1] at hF
    refine g_iload_n O (pc := 16) dX7_plan_16 1 rfl ?_
    refine g_if_lt O (pc := 17) 25 dX7_plan_17 (by decide) (fun h2 => ?_) (fun h2 => ?_)
    · rw [if_pos h2] at hF
      refine g_sub [] (L' := []) rfl ?_
      exact c_X7_plan_b25 O _ _ hF
    · rw [if_neg h2] at hF
      refine g_iload_n O (pc := 20) dX7_plan_20 1 rfl ?_
      refine g_iconst O (pc := 21) dX7_plan_21 (ic_2) ?_
      refine g_icmp_le O (pc := 22) 27 dX7_plan_22 (by decide) (fun h3 => ?_) (fun h3 => ?_)
      · rw [if_pos h3] at hF
        refine g_iload_n O (pc := 27) dX7_plan_27 1 rfl ?_
        refine g_iconst O (pc := 28) dX7_plan_28 (ic_1) ?_
        refine g_icmp_ne O (pc := 29) 48 dX7_plan_29 (by decide) (fun h4 => ?_) (fun h4 => ?_)
        · rw [if_neg h4] at hF
          refine g_sub [0, 1, 2] (L' := [(0, .ref (0)), (1, .int (x1)), (2, .int (x2))]) rfl ?_
          exact c_X7_plan_b48 O _ _ _ _ hF
        · rw [if_pos h4] at hF
          refine g_aload_n O (pc := 32) dX7_plan_32 0 rfl ?_
          refine g_getR O (pc := 33) isC_X7 dX7_plan_33 fw_X7_12 (by decide) fd_STop_0_0 ?_
          refine g_getR O (pc := 36) isC_X6 dX7_plan_36 fw_X7_67 (by decide) fd_STop_1_1 ?_
          refine g_iload_n O (pc := 39) dX7_plan_39 2 rfl ?_
          obtain ⟨q5, e6, hF⟩ := bnd hF
          refine g_Vi O (pc := 40) (st := []) dX7_plan_40 (mc_X4_has (zI (11) J) e6) cb_X4_has ml_X7_100 isC_X4 ob_STas (zm1R sub_Top_11 _ _ _) (rmok (Nat.le_of_ble_eq_true rfl) (Nat.le_of_ble_eq_true rfl)) (Nat.le_of_ble_eq_true rfl) rfl ?_
          refine g_if_ne O (pc := 43) 48 dX7_plan_43 (by decide) (fun h7 => ?_) (fun h7 => ?_)
          · rw [if_neg h7] at hF
            refine g_sub [0, 1, 2] (L' := [(0, .ref (0)), (1, .int (x1)), (2, .int (x2))]) rfl ?_
            exact c_X7_plan_b48 O _ _ _ _ hF
          · rw [if_pos h7] at hF
            refine g_iconst O (pc := 46) dX7_plan_46 (ic_m1) ?_
            obtain rfl := Option.some.inj hF
            exact g_ireturn O (pc := 47) dX7_plan_47 rfl
      · rw [if_neg h3] at hF
        refine g_sub [] (L' := []) rfl ?_
        exact c_X7_plan_b25 O _ _ hF
  · rw [if_pos h1] at hF
    refine g_aload_n O (pc := 5) dX7_plan_5 0 rfl ?_
    refine g_getR O (pc := 6) isC_X7 dX7_plan_6 fw_X7_12 (by decide) fd_STop_0_0 ?_
    refine g_getR O (pc := 9) isC_X6 dX7_plan_9 fw_X7_225 (by decide) fd_STop_1_4 ?_
    obtain ⟨q8, e9, hF⟩ := bnd hF
    refine g_Vi O (pc := 12) (st := []) dX7_plan_12 (mc_X2_clear 10 (zI (29) J) e9) cb_X2_clear ml_X7_203 isC_X2 (ob_SPrs_n _) (zm1I sub_Top_29 _ _ _ _) (rmok (Nat.le_of_ble_eq_true rfl) (Nat.le_of_ble_eq_true rfl)) (Nat.le_of_ble_eq_true rfl) rfl ?_
    obtain rfl := Option.some.inj hF
    exact g_ireturn O (pc := 15) dX7_plan_15 rfl

theorem mc_X7_plan {x1 : Int32} {x2 : Int32} {I : IS} (J : JS) {q : Int32 × IS} (hF : f_X7_plan x1 x2 I = some q) : MC yX7_plan cX7_plan 3 (some .int) (rm_ 1 22) STop 123 [.ref (0), .int (x1), .int (x2)] I J (some (.int q.1), q.2, J) :=
  mc_of pn_X7 (Nat.le_of_ble_eq_true rfl) (fun z O => c_X7_plan_e O _ _ _ _ hF)

def f_X7_read_b43 (t0 : Int64) (I : IS) (J : JS) : Option (Int64) :=
  some (t0)
set_option maxHeartbeats 4000000 in
set_option maxRecDepth 100000 in
theorem c_X7_read_b43 {z : CTX} (O : OK z cX7_read RX7 4 STop 123 (rm_ 1 21) (some .long)) : ∀ (t0 : Int64) (I : IS) (J : JS) (q : Int64), f_X7_read_b43 t0 I J = some q → G z 43 [] [.long (t0)] I J (some (.long q), I, J) := by
  intro t0 I J q hF
  rw [f_X7_read_b43] at hF
  obtain rfl := Option.some.inj hF
  exact g_lreturn O (pc := 43) dX7_read_43 rfl

def f_X7_read_b31 (I : IS) (J : JS) : Option (Int64) :=
  f_X7_read_b43 ((-9223372036854775808 : Int64)) (I) (J)
set_option maxHeartbeats 4000000 in
set_option maxRecDepth 100000 in
theorem c_X7_read_b31 {z : CTX} (O : OK z cX7_read RX7 4 STop 123 (rm_ 1 21) (some .long)) : ∀ (I : IS) (J : JS) (q : Int64), f_X7_read_b31 I J = some q → G z 31 [] [] I J (some (.long q), I, J) := by
  intro I J q hF
  rw [f_X7_read_b31] at hF
  refine g_ldc2 O (pc := 31) kw_X7_213 dX7_read_31 ?_
  refine g_goto O (pc := 34) 43 dX7_read_34 (by decide) ?_
  refine g_sub [] (L' := []) rfl ?_
  exact c_X7_read_b43 O _ _ _ _ hF

def f_X7_read (x1 : Int32) (x2 : Int32) (I : IS) (J : JS) : Option (Int64) :=
  (f_X7_isTape (x1) I).bind fun q1 =>
  (if q1 = 0 then
  (some ((-9223372036854775808 : Int64)))
  else
  (if okI (x1) 6 = true then
  (if x2 < 0 then
  (f_X7_read_b31 (I) (J))
  else
  (if x2 < (I (gTap ((x1).toNatClampNeg)) 2) then
  (if okI (x2) 60 = true then
  (f_X7_read_b43 ((J (gTap ((x1).toNatClampNeg) + 1) (x2).toNatClampNeg)) (I) (J))
  else none)
  else
  (f_X7_read_b31 (I) (J))))
  else none))
set_option maxHeartbeats 4000000 in
set_option maxRecDepth 100000 in
theorem c_X7_read_e {z : CTX} (O : OK z cX7_read RX7 4 STop 123 (rm_ 1 21) (some .long)) : ∀ (x1 : Int32) (x2 : Int32) (I : IS) (J : JS) (q : Int64), f_X7_read x1 x2 I J = some q → G z 0 [(0, .ref (0)), (1, .int (x1)), (2, .int (x2))] [] I J (some (.long q), I, J) := by
  intro x1 x2 I J q hF
  rw [f_X7_read] at hF
  refine g_aload_n O (pc := 0) dX7_read_0 0 rfl ?_
  refine g_iload_n O (pc := 1) dX7_read_1 1 rfl ?_
  obtain ⟨q1, e2, hF⟩ := bnd hF
  refine g_Vi O (pc := 2) (st := []) dX7_read_2 (mc_X7_isTape J e2) cb_X7_isTape ml_X7_242 isC_X7 ob_STop (zm0 _ _ _ _ _ _ _) (rmok (Nat.le_of_ble_eq_true rfl) (Nat.le_of_ble_eq_true rfl)) (Nat.le_of_ble_eq_true rfl) rfl ?_
  refine g_if_ne O (pc := 5) 12 dX7_read_5 (by decide) (fun h3 => ?_) (fun h3 => ?_)
  · rw [if_neg h3] at hF
    refine g_aload_n O (pc := 12) dX7_read_12 0 rfl ?_
    refine g_getR O (pc := 13) isC_X7 dX7_read_13 fw_X7_33 (by decide) fd_STop_0_4 ?_
    refine g_iload_n O (pc := 16) dX7_read_16 1 rfl ?_
    obtain ⟨h4, hF⟩ := gd hF
    refine g_al O (pc := 17) dX7_read_17 rr_STop_110 (Or.inr rfl) h4 ?_
    refine g_astore_n O (pc := 18) (L' := [(3, .ref (gTap ((x1).toNatClampNeg))), (0, .ref (0)), (1, .int (x1)), (2, .int (x2))]) dX7_read_18 (by decide) rfl ?_
    refine g_iload_n O (pc := 19) dX7_read_19 3 rfl ?_
    refine g_if_lt O (pc := 20) 31 dX7_read_20 (by decide) (fun h5 => ?_) (fun h5 => ?_)
    · rw [if_pos h5] at hF
      refine g_sub [] (L' := []) rfl ?_
      exact c_X7_read_b31 O _ _ _ hF
    · rw [if_neg h5] at hF
      refine g_iload_n O (pc := 23) dX7_read_23 3 rfl ?_
      refine g_aload_n O (pc := 24) dX7_read_24 0 rfl ?_
      refine g_getI O (pc := 25) isC_X3 dX7_read_25 fw_X7_248 (by decide) (fd_STop_gTap_2 ((x1).toNatClampNeg)) ?_
      refine g_icmp_lt O (pc := 28) 37 dX7_read_28 (by decide) (fun h6 => ?_) (fun h6 => ?_)
      · rw [if_pos h6] at hF
        refine g_aload_n O (pc := 37) dX7_read_37 0 rfl ?_
        refine g_getR O (pc := 38) isC_X3 dX7_read_38 fw_X7_249 (by decide) (fd_STop_gTap_0 ((x1).toNatClampNeg)) ?_
        refine g_iload_n O (pc := 41) dX7_read_41 3 rfl ?_
        obtain ⟨h7, hF⟩ := gd hF
        refine g_ll O (pc := 42) dX7_read_42 (ar_STop_gTap_1 ((x1).toNatClampNeg)) h7 ?_
        refine g_sub [] (L' := []) rfl ?_
        exact c_X7_read_b43 O _ _ _ _ hF
      · rw [if_neg h6] at hF
        refine g_sub [] (L' := []) rfl ?_
        exact c_X7_read_b31 O _ _ _ hF
  · rw [if_pos h3] at hF
    refine g_ldc2 O (pc := 8) kw_X7_213 dX7_read_8 ?_
    obtain rfl := Option.some.inj hF
    exact g_lreturn O (pc := 11) dX7_read_11 rfl

theorem mc_X7_read {x1 : Int32} {x2 : Int32} {I : IS} {J : JS} {q : Int64} (hF : f_X7_read x1 x2 I J = some q) : MC yX7_read cX7_read 4 (some .long) (rm_ 1 21) STop 123 [.ref (0), .int (x1), .int (x2)] I J (some (.long q), I, J) :=
  mc_of pn_X7 (Nat.le_of_ble_eq_true rfl) (fun z O => c_X7_read_e O _ _ _ _ _ hF)

def f_X7_see_b42 (I : IS) : Option (Int32 × IS) :=
  some ((-2 : Int32), I)
set_option maxHeartbeats 4000000 in
set_option maxRecDepth 100000 in
theorem c_X7_see_b42 {z : CTX} {J : JS} (O : OK z cX7_see RX7 3 STop 123 (rm_ 1 22) (some .int)) : ∀ (I : IS) (q : Int32 × IS), f_X7_see_b42 I = some q → G z 42 [] [] I J (some (.int q.1), q.2, J) := by
  intro I q hF
  rw [f_X7_see_b42] at hF
  refine g_bipush O (pc := 42) dX7_see_42 bp_m2 ?_
  obtain rfl := Option.some.inj hF
  exact g_ireturn O (pc := 44) dX7_see_44 rfl

def f_X7_see (x1 : Int32) (x2 : Int32) (I : IS) : Option (Int32 × IS) :=
  if x1 = (-1 : Int32) then
  ((f_X2_clear 5 (zI (26) I)).bind fun q9 =>
  (some (q9.1, (gI (26) 3 q9.2 I))))
  else
  ((f_X4_has (x1) (zI (11) I)).bind fun q2 =>
  (if q2 = 0 then
  (some ((-1 : Int32), I))
  else
  (if x2 < 0 then
  (f_X7_see_b42 (I))
  else
  (if x2 < (40 : Int32) then
  ((f_X2_add 5 (x1) (x2) (zI (26) I)).bind fun q7 =>
  (some (q7.1, (gI (26) 3 q7.2 I))))
  else
  (f_X7_see_b42 (I))))))
set_option maxHeartbeats 4000000 in
set_option maxRecDepth 100000 in
theorem c_X7_see_e {z : CTX} {J : JS} (O : OK z cX7_see RX7 3 STop 123 (rm_ 1 22) (some .int)) : ∀ (x1 : Int32) (x2 : Int32) (I : IS) (q : Int32 × IS), f_X7_see x1 x2 I = some q → G z 0 [(0, .ref (0)), (1, .int (x1)), (2, .int (x2))] [] I J (some (.int q.1), q.2, J) := by
  intro x1 x2 I q hF
  rw [f_X7_see] at hF
  refine g_iload_n O (pc := 0) dX7_see_0 1 rfl ?_
  refine g_iconst O (pc := 1) dX7_see_1 (ic_m1) ?_
  refine g_icmp_ne O (pc := 2) 16 dX7_see_2 (by decide) (fun h1 => ?_) (fun h1 => ?_)
  · rw [if_neg h1] at hF
    refine g_aload_n O (pc := 16) dX7_see_16 0 rfl ?_
    refine g_getR O (pc := 17) isC_X7 dX7_see_17 fw_X7_12 (by decide) fd_STop_0_0 ?_
    refine g_getR O (pc := 20) isC_X6 dX7_see_20 fw_X7_67 (by decide) fd_STop_1_1 ?_
    refine g_iload_n O (pc := 23) dX7_see_23 1 rfl ?_
    obtain ⟨q2, e3, hF⟩ := bnd hF
    refine g_Vi O (pc := 24) (st := []) dX7_see_24 (mc_X4_has (zI (11) J) e3) cb_X4_has ml_X7_100 isC_X4 ob_STas (zm1R sub_Top_11 _ _ _) (rmok (Nat.le_of_ble_eq_true rfl) (Nat.le_of_ble_eq_true rfl)) (Nat.le_of_ble_eq_true rfl) rfl ?_
    refine g_if_ne O (pc := 27) 32 dX7_see_27 (by decide) (fun h4 => ?_) (fun h4 => ?_)
    · rw [if_neg h4] at hF
      refine g_iload_n O (pc := 32) dX7_see_32 2 rfl ?_
      refine g_if_lt O (pc := 33) 42 dX7_see_33 (by decide) (fun h5 => ?_) (fun h5 => ?_)
      · rw [if_pos h5] at hF
        refine g_sub [] (L' := []) rfl ?_
        exact c_X7_see_b42 O _ _ hF
      · rw [if_neg h5] at hF
        refine g_iload_n O (pc := 36) dX7_see_36 2 rfl ?_
        refine g_bipush O (pc := 37) dX7_see_37 bp_40 ?_
        refine g_icmp_lt O (pc := 39) 45 dX7_see_39 (by decide) (fun h6 => ?_) (fun h6 => ?_)
        · rw [if_pos h6] at hF
          refine g_aload_n O (pc := 45) dX7_see_45 0 rfl ?_
          refine g_getR O (pc := 46) isC_X7 dX7_see_46 fw_X7_12 (by decide) fd_STop_0_0 ?_
          refine g_getR O (pc := 49) isC_X6 dX7_see_49 fw_X7_199 (by decide) fd_STop_1_3 ?_
          refine g_iload_n O (pc := 52) dX7_see_52 1 rfl ?_
          refine g_iload_n O (pc := 53) dX7_see_53 2 rfl ?_
          obtain ⟨q7, e8, hF⟩ := bnd hF
          refine g_Vi O (pc := 54) (st := []) dX7_see_54 (mc_X2_add 5 (zI (26) J) e8) cb_X2_add ml_X7_208 isC_X2 (ob_SPrs_n _) (zm1I sub_Top_26 _ _ _ _) (rmok (Nat.le_of_ble_eq_true rfl) (Nat.le_of_ble_eq_true rfl)) (Nat.le_of_ble_eq_true rfl) rfl ?_
          obtain rfl := Option.some.inj hF
          exact g_ireturn O (pc := 57) dX7_see_57 rfl
        · rw [if_neg h6] at hF
          refine g_sub [] (L' := []) rfl ?_
          exact c_X7_see_b42 O _ _ hF
    · rw [if_pos h4] at hF
      refine g_iconst O (pc := 30) dX7_see_30 (ic_m1) ?_
      obtain rfl := Option.some.inj hF
      exact g_ireturn O (pc := 31) dX7_see_31 rfl
  · rw [if_pos h1] at hF
    refine g_aload_n O (pc := 5) dX7_see_5 0 rfl ?_
    refine g_getR O (pc := 6) isC_X7 dX7_see_6 fw_X7_12 (by decide) fd_STop_0_0 ?_
    refine g_getR O (pc := 9) isC_X6 dX7_see_9 fw_X7_199 (by decide) fd_STop_1_3 ?_
    obtain ⟨q9, e10, hF⟩ := bnd hF
    refine g_Vi O (pc := 12) (st := []) dX7_see_12 (mc_X2_clear 5 (zI (26) J) e10) cb_X2_clear ml_X7_203 isC_X2 (ob_SPrs_n _) (zm1I sub_Top_26 _ _ _ _) (rmok (Nat.le_of_ble_eq_true rfl) (Nat.le_of_ble_eq_true rfl)) (Nat.le_of_ble_eq_true rfl) rfl ?_
    obtain rfl := Option.some.inj hF
    exact g_ireturn O (pc := 15) dX7_see_15 rfl

theorem mc_X7_see {x1 : Int32} {x2 : Int32} {I : IS} (J : JS) {q : Int32 × IS} (hF : f_X7_see x1 x2 I = some q) : MC yX7_see cX7_see 3 (some .int) (rm_ 1 22) STop 123 [.ref (0), .int (x1), .int (x2)] I J (some (.int q.1), q.2, J) :=
  mc_of pn_X7 (Nat.le_of_ble_eq_true rfl) (fun z O => c_X7_see_e O _ _ _ _ hF)

def f_X7_seed (x1 : Int32) (I : IS) : Option (Int32 × IS) :=
  some ((I (1) 7), (u2 I (1) 7 (x1)))
set_option maxHeartbeats 4000000 in
set_option maxRecDepth 100000 in
theorem c_X7_seed_e {z : CTX} {J : JS} (O : OK z cX7_seed RX7 3 STop 123 (rm_ 0 0) (some .int)) : ∀ (x1 : Int32) (I : IS) (q : Int32 × IS), f_X7_seed x1 I = some q → G z 0 [(0, .ref (0)), (1, .int (x1))] [] I J (some (.int q.1), q.2, J) := by
  intro x1 I q hF
  rw [f_X7_seed] at hF
  refine g_aload_n O (pc := 0) dX7_seed_0 0 rfl ?_
  refine g_getR O (pc := 1) isC_X7 dX7_seed_1 fw_X7_12 (by decide) fd_STop_0_0 ?_
  refine g_getI O (pc := 4) isC_X6 dX7_seed_4 fw_X7_50 (by decide) fd_STop_1_7 ?_
  refine g_istore_n O (pc := 7) (L' := [(2, .int ((I (1) 7))), (0, .ref (0)), (1, .int (x1))]) dX7_seed_7 (by decide) rfl ?_
  refine g_aload_n O (pc := 8) dX7_seed_8 1 rfl ?_
  refine g_getR O (pc := 9) isC_X7 dX7_seed_9 fw_X7_12 (by decide) fd_STop_0_0 ?_
  refine g_iload_n O (pc := 12) dX7_seed_12 2 rfl ?_
  refine g_putI O (pc := 13) isC_X6 isT_X6 dX7_seed_13 fw_X7_50 (by decide) rfl rfl fd_STop_1_7 ?_
  refine g_iload_n O (pc := 16) dX7_seed_16 0 rfl ?_
  obtain rfl := Option.some.inj hF
  exact g_ireturn O (pc := 17) dX7_seed_17 rfl

theorem mc_X7_seed {x1 : Int32} {I : IS} (J : JS) {q : Int32 × IS} (hF : f_X7_seed x1 I = some q) : MC yX7_seed cX7_seed 3 (some .int) (rm_ 0 0) STop 123 [.ref (0), .int (x1)] I J (some (.int q.1), q.2, J) :=
  mc_of pn_X7 (Nat.le_of_ble_eq_true rfl) (fun z O => c_X7_seed_e O _ _ _ hF)

def f_X7_seeds_b24 (k4 : Int32 → Int32 → IS → Option (Int32 × IS)) (x1 : Int32) (x2 : Int32) (I : IS) : Option (Int32 × IS) :=
  k4 (x1) (x2 + (1 : Int32)) (I)
set_option maxHeartbeats 4000000 in
set_option maxRecDepth 100000 in
theorem c_X7_seeds_b24 {z : CTX} {J : JS} (O : OK z cX7_seeds RX7 3 STop 123 (rm_ 6 140) (some .int)) {k4 : Int32 → Int32 → IS → Option (Int32 × IS)} (hk4 : ∀ (x1 : Int32) (x2 : Int32) (I : IS) (q : Int32 × IS), k4 x1 x2 I = some q → G z 4 [(0, .ref (0)), (1, .int (x1)), (2, .int (x2))] [] I J (some (.int q.1), q.2, J)) : ∀ (x1 : Int32) (x2 : Int32) (I : IS) (q : Int32 × IS), f_X7_seeds_b24 k4 x1 x2 I = some q → G z 24 [(0, .ref (0)), (1, .int (x1)), (2, .int (x2))] [] I J (some (.int q.1), q.2, J) := by
  intro x1 x2 I q hF
  rw [f_X7_seeds_b24] at hF
  refine g_iinc O (pc := 24) (v := x2 + (1 : Int32)) (L' := [(2, .int (x2 + (1 : Int32))), (0, .ref (0)), (1, .int (x1))]) dX7_seeds_24 2 rfl rfl (by decide) rfl ?_
  refine g_goto O (pc := 27) 4 dX7_seeds_27 (by decide) ?_
  refine g_sub [1, 2, 0] (L' := [(0, .ref (0)), (1, .int (x1)), (2, .int (x2 + (1 : Int32)))]) rfl ?_
  exact hk4 _ _ _ _ hF

def f_X7_seeds_b4 : Nat → Int32 → Int32 → IS → Option (Int32 × IS)
  | 0, _, _, _ => none
  | fu + 1, x1, x2, I =>
    if (31 : Int32) ≤ x2 then
    (some (x1, I))
    else
    ((f_X7_isAsSeen (x2) I).bind fun q2 =>
    (if q2.1 = 0 then
    (f_X7_seeds_b24 (f_X7_seeds_b4 fu) (x1) (x2) (q2.2))
    else
    (f_X7_seeds_b24 (f_X7_seeds_b4 fu) ((x1 ||| ((1 : Int32) <<< (x2 &&& 31)))) (x2) (q2.2))))
set_option maxHeartbeats 4000000 in
set_option maxRecDepth 100000 in
theorem c_X7_seeds_b4 {z : CTX} {J : JS} (O : OK z cX7_seeds RX7 3 STop 123 (rm_ 6 140) (some .int)) : ∀ (fu : Nat) (x1 : Int32) (x2 : Int32) (I : IS) (q : Int32 × IS), f_X7_seeds_b4 fu x1 x2 I = some q → G z 4 [(0, .ref (0)), (1, .int (x1)), (2, .int (x2))] [] I J (some (.int q.1), q.2, J) := by
  intro fu
  induction fu with
  | zero =>
    intro x1 x2 I q hF
    cases hF
  | succ fu ih =>
    intro x1 x2 I q hF
    rw [f_X7_seeds_b4] at hF
    refine g_iload_n O (pc := 4) dX7_seeds_4 2 rfl ?_
    refine g_bipush O (pc := 5) dX7_seeds_5 bp_31 ?_
    refine g_icmp_ge O (pc := 7) 30 dX7_seeds_7 (by decide) (fun h1 => ?_) (fun h1 => ?_)
    · rw [if_pos h1] at hF
      refine g_iload_n O (pc := 30) dX7_seeds_30 1 rfl ?_
      obtain rfl := Option.some.inj hF
      exact g_ireturn O (pc := 31) dX7_seeds_31 rfl
    · rw [if_neg h1] at hF
      refine g_aload_n O (pc := 10) dX7_seeds_10 0 rfl ?_
      refine g_iload_n O (pc := 11) dX7_seeds_11 2 rfl ?_
      obtain ⟨q2, e3, hF⟩ := bnd hF
      refine g_Vi O (pc := 12) (st := []) dX7_seeds_12 (mc_X7_isAsSeen J e3) cb_X7_isAsSeen ml_X7_210 isC_X7 ob_STop (zm0 _ _ _ _ _ _ _) (rmok (Nat.le_of_ble_eq_true rfl) (Nat.le_of_ble_eq_true rfl)) (Nat.le_of_ble_eq_true rfl) rfl ?_
      refine g_if_eq O (pc := 15) 24 dX7_seeds_15 (by decide) (fun h4 => ?_) (fun h4 => ?_)
      · rw [if_pos h4] at hF
        refine g_sub [0, 1, 2] (L' := [(0, .ref (0)), (1, .int (x1)), (2, .int (x2))]) rfl ?_
        exact c_X7_seeds_b24 O ih _ _ _ _ hF
      · rw [if_neg h4] at hF
        refine g_iload_n O (pc := 18) dX7_seeds_18 1 rfl ?_
        refine g_iconst O (pc := 19) dX7_seeds_19 (ic_1) ?_
        refine g_iload_n O (pc := 20) dX7_seeds_20 2 rfl ?_
        refine g_ishl O (pc := 21) dX7_seeds_21 ?_
        refine g_ior O (pc := 22) dX7_seeds_22 ?_
        refine g_istore_n O (pc := 23) (L' := [(1, .int ((x1 ||| ((1 : Int32) <<< (x2 &&& 31))))), (0, .ref (0)), (2, .int (x2))]) dX7_seeds_23 (by decide) rfl ?_
        refine g_sub [1, 0, 2] (L' := [(0, .ref (0)), (1, .int ((x1 ||| ((1 : Int32) <<< (x2 &&& 31))))), (2, .int (x2))]) rfl ?_
        exact c_X7_seeds_b24 O ih _ _ _ _ hF

def f_X7_seeds (I : IS) : Option (Int32 × IS) :=
  f_X7_seeds_b4 LF ((0 : Int32)) ((0 : Int32)) (I)
set_option maxHeartbeats 4000000 in
set_option maxRecDepth 100000 in
theorem c_X7_seeds_e {z : CTX} {J : JS} (O : OK z cX7_seeds RX7 3 STop 123 (rm_ 6 140) (some .int)) : ∀ (I : IS) (q : Int32 × IS), f_X7_seeds I = some q → G z 0 [(0, .ref (0))] [] I J (some (.int q.1), q.2, J) := by
  intro I q hF
  rw [f_X7_seeds] at hF
  refine g_iconst O (pc := 0) dX7_seeds_0 (ic_0) ?_
  refine g_istore_n O (pc := 1) (L' := [(1, .int ((0 : Int32))), (0, .ref (0))]) dX7_seeds_1 (by decide) rfl ?_
  refine g_iconst O (pc := 2) dX7_seeds_2 (ic_0) ?_
  refine g_istore_n O (pc := 3) (L' := [(2, .int ((0 : Int32))), (1, .int ((0 : Int32))), (0, .ref (0))]) dX7_seeds_3 (by decide) rfl ?_
  refine g_sub [2, 1, 0] (L' := [(0, .ref (0)), (1, .int ((0 : Int32))), (2, .int ((0 : Int32)))]) rfl ?_
  exact c_X7_seeds_b4 O _ _ _ _ _ hF

theorem mc_X7_seeds {I : IS} (J : JS) {q : Int32 × IS} (hF : f_X7_seeds I = some q) : MC yX7_seeds cX7_seeds 3 (some .int) (rm_ 6 140) STop 123 [.ref (0)] I J (some (.int q.1), q.2, J) :=
  mc_of pn_X7 (Nat.le_of_ble_eq_true rfl) (fun z O => c_X7_seeds_e O _ _ hF)

def f_X7_shift_b16 (I : IS) (J : JS) : Option (Int32 × JS) :=
  some ((-1 : Int32), J)
set_option maxHeartbeats 4000000 in
set_option maxRecDepth 100000 in
theorem c_X7_shift_b16 {z : CTX} (O : OK z cX7_shift RX7 8 STop 123 (rm_ 1 21) (some .int)) : ∀ (I : IS) (J : JS) (q : Int32 × JS), f_X7_shift_b16 I J = some q → G z 16 [] [] I J (some (.int q.1), I, q.2) := by
  intro I J q hF
  rw [f_X7_shift_b16] at hF
  refine g_iconst O (pc := 16) dX7_shift_16 (ic_m1) ?_
  obtain rfl := Option.some.inj hF
  exact g_ireturn O (pc := 17) dX7_shift_17 rfl

def f_X7_shift_b52 (I : IS) (J : JS) : Option (Int32 × JS) :=
  some ((-11 : Int32), J)
set_option maxHeartbeats 4000000 in
set_option maxRecDepth 100000 in
theorem c_X7_shift_b52 {z : CTX} (O : OK z cX7_shift RX7 8 STop 123 (rm_ 1 21) (some .int)) : ∀ (I : IS) (J : JS) (q : Int32 × JS), f_X7_shift_b52 I J = some q → G z 52 [] [] I J (some (.int q.1), I, q.2) := by
  intro I J q hF
  rw [f_X7_shift_b52] at hF
  refine g_bipush O (pc := 52) dX7_shift_52 bp_m11 ?_
  obtain rfl := Option.some.inj hF
  exact g_ireturn O (pc := 54) dX7_shift_54 rfl

def f_X7_shift_b110 (I : IS) (J : JS) : Option (Int32 × JS) :=
  some ((-13 : Int32), J)
set_option maxHeartbeats 4000000 in
set_option maxRecDepth 100000 in
theorem c_X7_shift_b110 {z : CTX} (O : OK z cX7_shift RX7 8 STop 123 (rm_ 1 21) (some .int)) : ∀ (I : IS) (J : JS) (q : Int32 × JS), f_X7_shift_b110 I J = some q → G z 110 [] [] I J (some (.int q.1), I, q.2) := by
  intro I J q hF
  rw [f_X7_shift_b110] at hF
  refine g_bipush O (pc := 110) dX7_shift_110 bp_m13 ?_
  obtain rfl := Option.some.inj hF
  exact g_ireturn O (pc := 112) dX7_shift_112 rfl

def f_X7_shift (x1 : Int32) (x2 : Int32) (x3 : Int32) (x4 : Int32) (x5 : Int32) (I : IS) (J : JS) : Option (Int32 × JS) :=
  (f_X7_isTape (x1) I).bind fun q1 =>
  (if q1 = 0 then
  (f_X7_shift_b16 (I) (J))
  else
  ((f_X7_isTape (x3) I).bind fun q4 =>
  (if q4 = 0 then
  (f_X7_shift_b16 (I) (J))
  else
  (if okI (x1) 6 = true then
  (if okI (x3) 6 = true then
  (if (I (gTap ((x1).toNatClampNeg)) 1) = (-1 : Int32) then
  (f_X7_shift_b52 (I) (J))
  else
  (if (I (gTap ((x3).toNatClampNeg)) 1) = (-1 : Int32) then
  (f_X7_shift_b52 (I) (J))
  else
  (if (I (gTap ((x1).toNatClampNeg)) 1) = (I (gTap ((x3).toNatClampNeg)) 1) then
  (if x5 < 0 then
  (f_X7_shift_b110 (I) (J))
  else
  (if x2 < 0 then
  (f_X7_shift_b110 (I) (J))
  else
  (if x4 < 0 then
  (f_X7_shift_b110 (I) (J))
  else
  (if ((I (gTap ((x1).toNatClampNeg)) 2) - x2) < x5 then
  (f_X7_shift_b110 (I) (J))
  else
  (if x5 ≤ ((I (gTap ((x3).toNatClampNeg)) 2) - x4) then
  (if okC (x2) (x4) (x5) 60 60 = true then
  ((some (u1 J (gTap ((x3).toNatClampNeg) + 1) (va_cpy (J (gTap ((x1).toNatClampNeg) + 1)) (J (gTap ((x3).toNatClampNeg) + 1)) (x2).toNatClampNeg (x4).toNatClampNeg (x5).toNatClampNeg))).bind fun J18 =>
  (some (x5, J18)))
  else none)
  else
  (f_X7_shift_b110 (I) (J)))))))
  else
  (some ((-12 : Int32), J)))))
  else none)
  else none))))
set_option maxHeartbeats 4000000 in
set_option maxRecDepth 100000 in
theorem c_X7_shift_e {z : CTX} (O : OK z cX7_shift RX7 8 STop 123 (rm_ 1 21) (some .int)) : ∀ (x1 : Int32) (x2 : Int32) (x3 : Int32) (x4 : Int32) (x5 : Int32) (I : IS) (J : JS) (q : Int32 × JS), f_X7_shift x1 x2 x3 x4 x5 I J = some q → G z 0 [(0, .ref (0)), (1, .int (x1)), (2, .int (x2)), (3, .int (x3)), (4, .int (x4)), (5, .int (x5))] [] I J (some (.int q.1), I, q.2) := by
  intro x1 x2 x3 x4 x5 I J q hF
  rw [f_X7_shift] at hF
  refine g_aload_n O (pc := 0) dX7_shift_0 0 rfl ?_
  refine g_iload_n O (pc := 1) dX7_shift_1 1 rfl ?_
  obtain ⟨q1, e2, hF⟩ := bnd hF
  refine g_Vi O (pc := 2) (st := []) dX7_shift_2 (mc_X7_isTape J e2) cb_X7_isTape ml_X7_242 isC_X7 ob_STop (zm0 _ _ _ _ _ _ _) (rmok (Nat.le_of_ble_eq_true rfl) (Nat.le_of_ble_eq_true rfl)) (Nat.le_of_ble_eq_true rfl) rfl ?_
  refine g_if_eq O (pc := 5) 16 dX7_shift_5 (by decide) (fun h3 => ?_) (fun h3 => ?_)
  · rw [if_pos h3] at hF
    refine g_sub [] (L' := []) rfl ?_
    exact c_X7_shift_b16 O _ _ _ hF
  · rw [if_neg h3] at hF
    refine g_aload_n O (pc := 8) dX7_shift_8 0 rfl ?_
    refine g_iload_n O (pc := 9) dX7_shift_9 3 rfl ?_
    obtain ⟨q4, e5, hF⟩ := bnd hF
    refine g_Vi O (pc := 10) (st := []) dX7_shift_10 (mc_X7_isTape J e5) cb_X7_isTape ml_X7_242 isC_X7 ob_STop (zm0 _ _ _ _ _ _ _) (rmok (Nat.le_of_ble_eq_true rfl) (Nat.le_of_ble_eq_true rfl)) (Nat.le_of_ble_eq_true rfl) rfl ?_
    refine g_if_ne O (pc := 13) 18 dX7_shift_13 (by decide) (fun h6 => ?_) (fun h6 => ?_)
    · rw [if_neg h6] at hF
      refine g_aload_n O (pc := 18) dX7_shift_18 0 rfl ?_
      refine g_getR O (pc := 19) isC_X7 dX7_shift_19 fw_X7_33 (by decide) fd_STop_0_4 ?_
      refine g_iload_n O (pc := 22) dX7_shift_22 1 rfl ?_
      obtain ⟨h7, hF⟩ := gd hF
      refine g_al O (pc := 23) dX7_shift_23 rr_STop_110 (Or.inr rfl) h7 ?_
      refine g_astore O (pc := 24) (L' := [(6, .ref (gTap ((x1).toNatClampNeg))), (0, .ref (0)), (1, .int (x1)), (2, .int (x2)), (3, .int (x3)), (4, .int (x4)), (5, .int (x5))]) dX7_shift_24 (by decide) rfl ?_
      refine g_aload_n O (pc := 26) dX7_shift_26 1 rfl ?_
      refine g_getR O (pc := 27) isC_X7 dX7_shift_27 fw_X7_33 (by decide) fd_STop_0_4 ?_
      refine g_iload_n O (pc := 30) dX7_shift_30 4 rfl ?_
      obtain ⟨h8, hF⟩ := gd hF
      refine g_al O (pc := 31) dX7_shift_31 rr_STop_110 (Or.inr rfl) h8 ?_
      refine g_astore O (pc := 32) (L' := [(7, .ref (gTap ((x3).toNatClampNeg))), (6, .ref (gTap ((x1).toNatClampNeg))), (0, .ref (0)), (1, .int (x1)), (2, .int (x2)), (3, .int (x3)), (4, .int (x4)), (5, .int (x5))]) dX7_shift_32 (by decide) rfl ?_
      refine g_aload O (pc := 34) dX7_shift_34 1 rfl ?_
      refine g_getI O (pc := 36) isC_X3 dX7_shift_36 fw_X7_245 (by decide) (fd_STop_gTap_1 ((x1).toNatClampNeg)) ?_
      refine g_iconst O (pc := 39) dX7_shift_39 (ic_m1) ?_
      refine g_icmp_eq O (pc := 40) 52 dX7_shift_40 (by decide) (fun h9 => ?_) (fun h9 => ?_)
      · rw [if_pos h9] at hF
        refine g_sub [] (L' := []) rfl ?_
        exact c_X7_shift_b52 O _ _ _ hF
      · rw [if_neg h9] at hF
        refine g_aload O (pc := 43) dX7_shift_43 0 rfl ?_
        refine g_getI O (pc := 45) isC_X3 dX7_shift_45 fw_X7_245 (by decide) (fd_STop_gTap_1 ((x3).toNatClampNeg)) ?_
        refine g_iconst O (pc := 48) dX7_shift_48 (ic_m1) ?_
        refine g_icmp_ne O (pc := 49) 55 dX7_shift_49 (by decide) (fun h10 => ?_) (fun h10 => ?_)
        · rw [if_neg h10] at hF
          refine g_aload O (pc := 55) dX7_shift_55 1 rfl ?_
          refine g_getI O (pc := 57) isC_X3 dX7_shift_57 fw_X7_245 (by decide) (fd_STop_gTap_1 ((x1).toNatClampNeg)) ?_
          refine g_aload O (pc := 60) dX7_shift_60 0 rfl ?_
          refine g_getI O (pc := 62) isC_X3 dX7_shift_62 fw_X7_245 (by decide) (fd_STop_gTap_1 ((x3).toNatClampNeg)) ?_
          refine g_icmp_eq O (pc := 65) 71 dX7_shift_65 (by decide) (fun h11 => ?_) (fun h11 => ?_)
          · rw [if_pos h11] at hF
            refine g_iload O (pc := 71) dX7_shift_71 7 rfl ?_
            refine g_if_lt O (pc := 73) 110 dX7_shift_73 (by decide) (fun h12 => ?_) (fun h12 => ?_)
            · rw [if_pos h12] at hF
              refine g_sub [] (L' := []) rfl ?_
              exact c_X7_shift_b110 O _ _ _ hF
            · rw [if_neg h12] at hF
              refine g_iload_n O (pc := 76) dX7_shift_76 4 rfl ?_
              refine g_if_lt O (pc := 77) 110 dX7_shift_77 (by decide) (fun h13 => ?_) (fun h13 => ?_)
              · rw [if_pos h13] at hF
                refine g_sub [] (L' := []) rfl ?_
                exact c_X7_shift_b110 O _ _ _ hF
              · rw [if_neg h13] at hF
                refine g_iload O (pc := 80) dX7_shift_80 6 rfl ?_
                refine g_if_lt O (pc := 82) 110 dX7_shift_82 (by decide) (fun h14 => ?_) (fun h14 => ?_)
                · rw [if_pos h14] at hF
                  refine g_sub [] (L' := []) rfl ?_
                  exact c_X7_shift_b110 O _ _ _ hF
                · rw [if_neg h14] at hF
                  refine g_iload O (pc := 85) dX7_shift_85 7 rfl ?_
                  refine g_aload O (pc := 87) dX7_shift_87 1 rfl ?_
                  refine g_getI O (pc := 89) isC_X3 dX7_shift_89 fw_X7_248 (by decide) (fd_STop_gTap_2 ((x1).toNatClampNeg)) ?_
                  refine g_iload_n O (pc := 92) dX7_shift_92 4 rfl ?_
                  refine g_isub O (pc := 93) dX7_shift_93 ?_
                  refine g_icmp_gt O (pc := 94) 110 dX7_shift_94 (by decide) (fun h15 => ?_) (fun h15 => ?_)
                  · rw [if_pos h15] at hF
                    refine g_sub [] (L' := []) rfl ?_
                    exact c_X7_shift_b110 O _ _ _ hF
                  · rw [if_neg h15] at hF
                    refine g_iload O (pc := 97) dX7_shift_97 7 rfl ?_
                    refine g_aload O (pc := 99) dX7_shift_99 0 rfl ?_
                    refine g_getI O (pc := 101) isC_X3 dX7_shift_101 fw_X7_248 (by decide) (fd_STop_gTap_2 ((x3).toNatClampNeg)) ?_
                    refine g_iload O (pc := 104) dX7_shift_104 6 rfl ?_
                    refine g_isub O (pc := 106) dX7_shift_106 ?_
                    refine g_icmp_le O (pc := 107) 113 dX7_shift_107 (by decide) (fun h16 => ?_) (fun h16 => ?_)
                    · rw [if_pos h16] at hF
                      refine g_aload O (pc := 113) dX7_shift_113 1 rfl ?_
                      refine g_getR O (pc := 115) isC_X3 dX7_shift_115 fw_X7_249 (by decide) (fd_STop_gTap_0 ((x1).toNatClampNeg)) ?_
                      refine g_iload_n O (pc := 118) dX7_shift_118 4 rfl ?_
                      refine g_aload O (pc := 119) dX7_shift_119 0 rfl ?_
                      refine g_getR O (pc := 121) isC_X3 dX7_shift_121 fw_X7_249 (by decide) (fd_STop_gTap_0 ((x3).toNatClampNeg)) ?_
                      refine g_iload O (pc := 124) dX7_shift_124 6 rfl ?_
                      refine g_iload O (pc := 126) dX7_shift_126 7 rfl ?_
                      obtain ⟨h17, hF⟩ := gd hF
                      refine g_copyJ O (pc := 128) (st := []) dX7_shift_128 ml_X7_260 acn acs aci (ar_STop_gTap_1 ((x1).toNatClampNeg)) (ar_STop_gTap_1 ((x3).toNatClampNeg)) h17 (by decide) (Nat.le_of_ble_eq_true rfl) ?_
                      obtain ⟨J18, g19, hF⟩ := bnd hF
                      refine g_nmJ (Option.some.inj g19) ?_
                      refine g_iload O (pc := 131) dX7_shift_131 7 rfl ?_
                      obtain rfl := Option.some.inj hF
                      exact g_ireturn O (pc := 133) dX7_shift_133 rfl
                    · rw [if_neg h16] at hF
                      refine g_sub [] (L' := []) rfl ?_
                      exact c_X7_shift_b110 O _ _ _ hF
          · rw [if_neg h11] at hF
            refine g_bipush O (pc := 68) dX7_shift_68 bp_m12 ?_
            obtain rfl := Option.some.inj hF
            exact g_ireturn O (pc := 70) dX7_shift_70 rfl
        · rw [if_pos h10] at hF
          refine g_sub [] (L' := []) rfl ?_
          exact c_X7_shift_b52 O _ _ _ hF
    · rw [if_pos h6] at hF
      refine g_sub [] (L' := []) rfl ?_
      exact c_X7_shift_b16 O _ _ _ hF

theorem mc_X7_shift {x1 : Int32} {x2 : Int32} {x3 : Int32} {x4 : Int32} {x5 : Int32} {I : IS} {J : JS} {q : Int32 × JS} (hF : f_X7_shift x1 x2 x3 x4 x5 I J = some q) : MC yX7_shift cX7_shift 8 (some .int) (rm_ 1 21) STop 123 [.ref (0), .int (x1), .int (x2), .int (x3), .int (x4), .int (x5)] I J (some (.int q.1), I, q.2) :=
  mc_of pn_X7 (Nat.le_of_ble_eq_true rfl) (fun z O => c_X7_shift_e O _ _ _ _ _ _ _ _ hF)

def f_X7_tape_b43 (I : IS) (J : JS) : Option (Int32 × IS × JS) :=
  some ((-2 : Int32), I, J)
set_option maxHeartbeats 4000000 in
set_option maxRecDepth 100000 in
theorem c_X7_tape_b43 {z : CTX} (O : OK z cX7_tape RX7 4 STop 123 (rm_ 1 23) (some .int)) : ∀ (I : IS) (J : JS) (q : Int32 × IS × JS), f_X7_tape_b43 I J = some q → G z 43 [] [] I J (some (.int q.1), q.2.1, q.2.2) := by
  intro I J q hF
  rw [f_X7_tape_b43] at hF
  refine g_bipush O (pc := 43) dX7_tape_43 bp_m2 ?_
  obtain rfl := Option.some.inj hF
  exact g_ireturn O (pc := 45) dX7_tape_45 rfl

def f_X7_tape (x1 : Int32) (x2 : Int32) (x3 : Int32) (I : IS) (J : JS) : Option (Int32 × IS × JS) :=
  (f_X7_isTape (x1) I).bind fun q1 =>
  (if q1 = 0 then
  (some ((-1 : Int32), I, J))
  else
  (if x2 = (-1 : Int32) then
  (if okI (x1) 6 = true then
  ((f_X3_becomeRow ((-1 : Int32)) ((0 : Int32)) (zI (gTap ((x1).toNatClampNeg)) I) (zI (gTap ((x1).toNatClampNeg)) J)).bind fun q13 =>
  (some ((1 : Int32), (gI (gTap ((x1).toNatClampNeg)) 2 q13.1 I), (gI (gTap ((x1).toNatClampNeg)) 2 q13.2 J))))
  else none)
  else
  (if x2 < 0 then
  (f_X7_tape_b43 (I) (J))
  else
  (if (4 : Int32) < x2 then
  (f_X7_tape_b43 (I) (J))
  else
  (if x3 ≤ (60 : Int32) then
  (if 0 ≤ x3 then
  (if okI (x1) 6 = true then
  ((f_X3_becomeRow (x2) (x3) (zI (gTap ((x1).toNatClampNeg)) I) (zI (gTap ((x1).toNatClampNeg)) J)).bind fun q10 =>
  (some ((1 : Int32), (gI (gTap ((x1).toNatClampNeg)) 2 q10.1 I), (gI (gTap ((x1).toNatClampNeg)) 2 q10.2 J))))
  else none)
  else
  (some ((-14 : Int32), I, J)))
  else
  (f_X7_tape_b43 (I) (J)))))))
set_option maxHeartbeats 4000000 in
set_option maxRecDepth 100000 in
theorem c_X7_tape_e {z : CTX} (O : OK z cX7_tape RX7 4 STop 123 (rm_ 1 23) (some .int)) : ∀ (x1 : Int32) (x2 : Int32) (x3 : Int32) (I : IS) (J : JS) (q : Int32 × IS × JS), f_X7_tape x1 x2 x3 I J = some q → G z 0 [(0, .ref (0)), (1, .int (x1)), (2, .int (x2)), (3, .int (x3))] [] I J (some (.int q.1), q.2.1, q.2.2) := by
  intro x1 x2 x3 I J q hF
  rw [f_X7_tape] at hF
  refine g_aload_n O (pc := 0) dX7_tape_0 0 rfl ?_
  refine g_iload_n O (pc := 1) dX7_tape_1 1 rfl ?_
  obtain ⟨q1, e2, hF⟩ := bnd hF
  refine g_Vi O (pc := 2) (st := []) dX7_tape_2 (mc_X7_isTape J e2) cb_X7_isTape ml_X7_242 isC_X7 ob_STop (zm0 _ _ _ _ _ _ _) (rmok (Nat.le_of_ble_eq_true rfl) (Nat.le_of_ble_eq_true rfl)) (Nat.le_of_ble_eq_true rfl) rfl ?_
  refine g_if_ne O (pc := 5) 10 dX7_tape_5 (by decide) (fun h3 => ?_) (fun h3 => ?_)
  · rw [if_neg h3] at hF
    refine g_iload_n O (pc := 10) dX7_tape_10 2 rfl ?_
    refine g_iconst O (pc := 11) dX7_tape_11 (ic_m1) ?_
    refine g_icmp_ne O (pc := 12) 28 dX7_tape_12 (by decide) (fun h4 => ?_) (fun h4 => ?_)
    · rw [if_neg h4] at hF
      refine g_iload_n O (pc := 28) dX7_tape_28 2 rfl ?_
      refine g_if_lt O (pc := 29) 43 dX7_tape_29 (by decide) (fun h5 => ?_) (fun h5 => ?_)
      · rw [if_pos h5] at hF
        refine g_sub [] (L' := []) rfl ?_
        exact c_X7_tape_b43 O _ _ _ hF
      · rw [if_neg h5] at hF
        refine g_iload_n O (pc := 32) dX7_tape_32 2 rfl ?_
        refine g_iconst O (pc := 33) dX7_tape_33 (ic_4) ?_
        refine g_icmp_gt O (pc := 34) 43 dX7_tape_34 (by decide) (fun h6 => ?_) (fun h6 => ?_)
        · rw [if_pos h6] at hF
          refine g_sub [] (L' := []) rfl ?_
          exact c_X7_tape_b43 O _ _ _ hF
        · rw [if_neg h6] at hF
          refine g_iload_n O (pc := 37) dX7_tape_37 3 rfl ?_
          refine g_bipush O (pc := 38) dX7_tape_38 bp_60 ?_
          refine g_icmp_le O (pc := 40) 46 dX7_tape_40 (by decide) (fun h7 => ?_) (fun h7 => ?_)
          · rw [if_pos h7] at hF
            refine g_iload_n O (pc := 46) dX7_tape_46 3 rfl ?_
            refine g_if_ge O (pc := 47) 53 dX7_tape_47 (by decide) (fun h8 => ?_) (fun h8 => ?_)
            · rw [if_pos h8] at hF
              refine g_aload_n O (pc := 53) dX7_tape_53 0 rfl ?_
              refine g_getR O (pc := 54) isC_X7 dX7_tape_54 fw_X7_33 (by decide) fd_STop_0_4 ?_
              refine g_iload_n O (pc := 57) dX7_tape_57 1 rfl ?_
              obtain ⟨h9, hF⟩ := gd hF
              refine g_al O (pc := 58) dX7_tape_58 rr_STop_110 (Or.inr rfl) h9 ?_
              refine g_iload_n O (pc := 59) dX7_tape_59 2 rfl ?_
              refine g_iload_n O (pc := 60) dX7_tape_60 3 rfl ?_
              obtain ⟨q10, e11, hF⟩ := bnd hF
              refine g_Vv O (pc := 61) (st := []) dX7_tape_61 (mc_X3_becomeRow e11) cb_X3_becomeRow ml_X7_253 isC_X3 ob_STap (zm1J (sub_Top_tape ((x1).toNatClampNeg)) _ _ _ _ _) (rmok (Nat.le_of_ble_eq_true rfl) (Nat.le_of_ble_eq_true rfl)) (Nat.le_of_ble_eq_true rfl) rfl ?_
              refine g_iconst O (pc := 64) dX7_tape_64 (ic_1) ?_
              obtain rfl := Option.some.inj hF
              exact g_ireturn O (pc := 65) dX7_tape_65 rfl
            · rw [if_neg h8] at hF
              refine g_bipush O (pc := 50) dX7_tape_50 bp_m14 ?_
              obtain rfl := Option.some.inj hF
              exact g_ireturn O (pc := 52) dX7_tape_52 rfl
          · rw [if_neg h7] at hF
            refine g_sub [] (L' := []) rfl ?_
            exact c_X7_tape_b43 O _ _ _ hF
    · rw [if_pos h4] at hF
      refine g_aload_n O (pc := 15) dX7_tape_15 0 rfl ?_
      refine g_getR O (pc := 16) isC_X7 dX7_tape_16 fw_X7_33 (by decide) fd_STop_0_4 ?_
      refine g_iload_n O (pc := 19) dX7_tape_19 1 rfl ?_
      obtain ⟨h12, hF⟩ := gd hF
      refine g_al O (pc := 20) dX7_tape_20 rr_STop_110 (Or.inr rfl) h12 ?_
      refine g_iconst O (pc := 21) dX7_tape_21 (ic_m1) ?_
      refine g_iconst O (pc := 22) dX7_tape_22 (ic_0) ?_
      obtain ⟨q13, e14, hF⟩ := bnd hF
      refine g_Vv O (pc := 23) (st := []) dX7_tape_23 (mc_X3_becomeRow e14) cb_X3_becomeRow ml_X7_253 isC_X3 ob_STap (zm1J (sub_Top_tape ((x1).toNatClampNeg)) _ _ _ _ _) (rmok (Nat.le_of_ble_eq_true rfl) (Nat.le_of_ble_eq_true rfl)) (Nat.le_of_ble_eq_true rfl) rfl ?_
      refine g_iconst O (pc := 26) dX7_tape_26 (ic_1) ?_
      obtain rfl := Option.some.inj hF
      exact g_ireturn O (pc := 27) dX7_tape_27 rfl
  · rw [if_pos h3] at hF
    refine g_iconst O (pc := 8) dX7_tape_8 (ic_m1) ?_
    obtain rfl := Option.some.inj hF
    exact g_ireturn O (pc := 9) dX7_tape_9 rfl

theorem mc_X7_tape {x1 : Int32} {x2 : Int32} {x3 : Int32} {I : IS} {J : JS} {q : Int32 × IS × JS} (hF : f_X7_tape x1 x2 x3 I J = some q) : MC yX7_tape cX7_tape 4 (some .int) (rm_ 1 23) STop 123 [.ref (0), .int (x1), .int (x2), .int (x3)] I J (some (.int q.1), q.2.1, q.2.2) :=
  mc_of pn_X7 (Nat.le_of_ble_eq_true rfl) (fun z O => c_X7_tape_e O _ _ _ _ _ _ hF)

def f_X7_till_b20 (s0 : Int32) (I : IS) : Option (Int32 × IS) :=
  some (s0, I)
set_option maxHeartbeats 4000000 in
set_option maxRecDepth 100000 in
theorem c_X7_till_b20 {z : CTX} {J : JS} (O : OK z cX7_till RX7 2 STop 123 (rm_ 5 118) (some .int)) : ∀ (s0 : Int32) (I : IS) (q : Int32 × IS), f_X7_till_b20 s0 I = some q → G z 20 [] [.int (s0)] I J (some (.int q.1), q.2, J) := by
  intro s0 I q hF
  rw [f_X7_till_b20] at hF
  obtain rfl := Option.some.inj hF
  exact g_ireturn O (pc := 20) dX7_till_20 rfl

def f_X7_till_b10 (I : IS) : Option (Int32 × IS) :=
  f_X7_till_b20 ((-2 : Int32)) (I)
set_option maxHeartbeats 4000000 in
set_option maxRecDepth 100000 in
theorem c_X7_till_b10 {z : CTX} {J : JS} (O : OK z cX7_till RX7 2 STop 123 (rm_ 5 118) (some .int)) : ∀ (I : IS) (q : Int32 × IS), f_X7_till_b10 I = some q → G z 10 [] [] I J (some (.int q.1), q.2, J) := by
  intro I q hF
  rw [f_X7_till_b10] at hF
  refine g_bipush O (pc := 10) dX7_till_10 bp_m2 ?_
  refine g_goto O (pc := 12) 20 dX7_till_12 (by decide) ?_
  refine g_sub [] (L' := []) rfl ?_
  exact c_X7_till_b20 O _ _ _ hF

def f_X7_till (x1 : Int32) (I : IS) : Option (Int32 × IS) :=
  if x1 < (1 : Int32) then
  (f_X7_till_b10 (I))
  else
  (if x1 ≤ (4 : Int32) then
  ((f_X7_roundsTillOver (x1) I).bind fun q3 =>
  (f_X7_till_b20 (q3.1) (q3.2)))
  else
  (f_X7_till_b10 (I)))
set_option maxHeartbeats 4000000 in
set_option maxRecDepth 100000 in
theorem c_X7_till_e {z : CTX} {J : JS} (O : OK z cX7_till RX7 2 STop 123 (rm_ 5 118) (some .int)) : ∀ (x1 : Int32) (I : IS) (q : Int32 × IS), f_X7_till x1 I = some q → G z 0 [(0, .ref (0)), (1, .int (x1))] [] I J (some (.int q.1), q.2, J) := by
  intro x1 I q hF
  rw [f_X7_till] at hF
  refine g_iload_n O (pc := 0) dX7_till_0 1 rfl ?_
  refine g_iconst O (pc := 1) dX7_till_1 (ic_1) ?_
  refine g_icmp_lt O (pc := 2) 10 dX7_till_2 (by decide) (fun h1 => ?_) (fun h1 => ?_)
  · rw [if_pos h1] at hF
    refine g_sub [] (L' := []) rfl ?_
    exact c_X7_till_b10 O _ _ hF
  · rw [if_neg h1] at hF
    refine g_iload_n O (pc := 5) dX7_till_5 1 rfl ?_
    refine g_iconst O (pc := 6) dX7_till_6 (ic_4) ?_
    refine g_icmp_le O (pc := 7) 15 dX7_till_7 (by decide) (fun h2 => ?_) (fun h2 => ?_)
    · rw [if_pos h2] at hF
      refine g_aload_n O (pc := 15) dX7_till_15 0 rfl ?_
      refine g_iload_n O (pc := 16) dX7_till_16 1 rfl ?_
      obtain ⟨q3, e4, hF⟩ := bnd hF
      refine g_Vi O (pc := 17) (st := []) dX7_till_17 (mc_X7_roundsTillOver J e4) cb_X7_roundsTillOver ml_X7_166 isC_X7 ob_STop (zm0 _ _ _ _ _ _ _) (rmok (Nat.le_of_ble_eq_true rfl) (Nat.le_of_ble_eq_true rfl)) (Nat.le_of_ble_eq_true rfl) rfl ?_
      refine g_sub [] (L' := []) rfl ?_
      exact c_X7_till_b20 O _ _ _ hF
    · rw [if_neg h2] at hF
      refine g_sub [] (L' := []) rfl ?_
      exact c_X7_till_b10 O _ _ hF

theorem mc_X7_till {x1 : Int32} {I : IS} (J : JS) {q : Int32 × IS} (hF : f_X7_till x1 I = some q) : MC yX7_till cX7_till 2 (some .int) (rm_ 5 118) STop 123 [.ref (0), .int (x1)] I J (some (.int q.1), q.2, J) :=
  mc_of pn_X7 (Nat.le_of_ble_eq_true rfl) (fun z O => c_X7_till_e O _ _ _ hF)

def f_X7_told_b83 (s0 : Int32) (I : IS) : Option (Int32 × IS) :=
  some (s0, I)
set_option maxHeartbeats 4000000 in
set_option maxRecDepth 100000 in
theorem c_X7_told_b83 {z : CTX} {J : JS} (O : OK z cX7_told RX7 2 STop 123 (rm_ 6 142) (some .int)) : ∀ (s0 : Int32) (I : IS) (q : Int32 × IS), f_X7_told_b83 s0 I = some q → G z 83 [] [.int (s0)] I J (some (.int q.1), q.2, J) := by
  intro s0 I q hF
  rw [f_X7_told_b83] at hF
  obtain rfl := Option.some.inj hF
  exact g_ireturn O (pc := 83) dX7_told_83 rfl

def f_X7_told (x1 : Int32) (I : IS) : Option (Int32 × IS) :=
  if x1 = 0 then
  (some ((I (1) 8), I))
  else if x1 = 1 then
  (some ((I (1) 7), I))
  else if x1 = 2 then
  (some ((I (1) 6), I))
  else if x1 = 3 then
  ((f_X6_isOver (zI (1) I)).bind fun q5 =>
  (if q5 = 0 then
  (f_X7_told_b83 ((0 : Int32)) (I))
  else
  (f_X7_told_b83 ((1 : Int32)) (I))))
  else if x1 = 4 then
  ((f_X7_roundsTillOver ((I (1) 6)) I).bind fun q9 =>
  (some (q9.1, q9.2)))
  else if x1 = 5 then
  ((f_X7_bestArms I).bind fun q12 =>
  (some (q12.1, q12.2)))
  else if x1 = 6 then
  (some ((I (20) 7), I))
  else (some ((-10001 : Int32), I))
set_option maxHeartbeats 4000000 in
set_option maxRecDepth 100000 in
theorem c_X7_told_e {z : CTX} {J : JS} (O : OK z cX7_told RX7 2 STop 123 (rm_ 6 142) (some .int)) : ∀ (x1 : Int32) (I : IS) (q : Int32 × IS), f_X7_told x1 I = some q → G z 0 [(0, .ref (0)), (1, .int (x1))] [] I J (some (.int q.1), q.2, J) := by
  intro x1 I q hF
  rw [f_X7_told] at hF
  refine g_iload_n O (pc := 0) dX7_told_0 1 rfl ?_
  by_cases h1 : x1 = 0
  · rw [if_pos h1] at hF
    refine g_tabIn O (pc := 1) (43) 44 dX7_told_1 h1 (by decide) (by decide) rfl (by decide) ?_
    refine g_aload_n O (pc := 44) dX7_told_44 0 rfl ?_
    refine g_getR O (pc := 45) isC_X7 dX7_told_45 fw_X7_12 (by decide) fd_STop_0_0 ?_
    refine g_getI O (pc := 48) isC_X6 dX7_told_48 fw_X7_150 (by decide) fd_STop_1_8 ?_
    obtain rfl := Option.some.inj hF
    exact g_ireturn O (pc := 51) dX7_told_51 rfl
  rw [if_neg h1] at hF
  by_cases h2 : x1 = 1
  · rw [if_pos h2] at hF
    refine g_tabIn O (pc := 1) (51) 52 dX7_told_1 h2 (by decide) (by decide) rfl (by decide) ?_
    refine g_aload_n O (pc := 52) dX7_told_52 0 rfl ?_
    refine g_getR O (pc := 53) isC_X7 dX7_told_53 fw_X7_12 (by decide) fd_STop_0_0 ?_
    refine g_getI O (pc := 56) isC_X6 dX7_told_56 fw_X7_50 (by decide) fd_STop_1_7 ?_
    obtain rfl := Option.some.inj hF
    exact g_ireturn O (pc := 59) dX7_told_59 rfl
  rw [if_neg h2] at hF
  by_cases h3 : x1 = 2
  · rw [if_pos h3] at hF
    refine g_tabIn O (pc := 1) (59) 60 dX7_told_1 h3 (by decide) (by decide) rfl (by decide) ?_
    refine g_aload_n O (pc := 60) dX7_told_60 0 rfl ?_
    refine g_getR O (pc := 61) isC_X7 dX7_told_61 fw_X7_12 (by decide) fd_STop_0_0 ?_
    refine g_getI O (pc := 64) isC_X6 dX7_told_64 fw_X7_42 (by decide) fd_STop_1_6 ?_
    obtain rfl := Option.some.inj hF
    exact g_ireturn O (pc := 67) dX7_told_67 rfl
  rw [if_neg h3] at hF
  by_cases h4 : x1 = 3
  · rw [if_pos h4] at hF
    refine g_tabIn O (pc := 1) (67) 68 dX7_told_1 h4 (by decide) (by decide) rfl (by decide) ?_
    refine g_aload_n O (pc := 68) dX7_told_68 0 rfl ?_
    refine g_getR O (pc := 69) isC_X7 dX7_told_69 fw_X7_12 (by decide) fd_STop_0_0 ?_
    obtain ⟨q5, e6, hF⟩ := bnd hF
    refine g_Vi O (pc := 72) (st := []) dX7_told_72 (mc_X6_isOver (zI (1) J) e6) cb_X6_isOver ml_X7_162 isC_X6 ob_SWor (zm1R sub_Top_now _ _ _) (rmok (Nat.le_of_ble_eq_true rfl) (Nat.le_of_ble_eq_true rfl)) (Nat.le_of_ble_eq_true rfl) rfl ?_
    refine g_if_eq O (pc := 75) 82 dX7_told_75 (by decide) (fun h7 => ?_) (fun h7 => ?_)
    · rw [if_pos h7] at hF
      refine g_iconst O (pc := 82) dX7_told_82 (ic_0) ?_
      refine g_sub [] (L' := []) rfl ?_
      exact c_X7_told_b83 O _ _ _ hF
    · rw [if_neg h7] at hF
      refine g_iconst O (pc := 78) dX7_told_78 (ic_1) ?_
      refine g_goto O (pc := 79) 83 dX7_told_79 (by decide) ?_
      refine g_sub [] (L' := []) rfl ?_
      exact c_X7_told_b83 O _ _ _ hF
  rw [if_neg h4] at hF
  by_cases h8 : x1 = 4
  · rw [if_pos h8] at hF
    refine g_tabIn O (pc := 1) (83) 84 dX7_told_1 h8 (by decide) (by decide) rfl (by decide) ?_
    refine g_aload_n O (pc := 84) dX7_told_84 0 rfl ?_
    refine g_aload_n O (pc := 85) dX7_told_85 0 rfl ?_
    refine g_getR O (pc := 86) isC_X7 dX7_told_86 fw_X7_12 (by decide) fd_STop_0_0 ?_
    refine g_getI O (pc := 89) isC_X6 dX7_told_89 fw_X7_42 (by decide) fd_STop_1_6 ?_
    obtain ⟨q9, e10, hF⟩ := bnd hF
    refine g_Vi O (pc := 92) (st := []) dX7_told_92 (mc_X7_roundsTillOver J e10) cb_X7_roundsTillOver ml_X7_166 isC_X7 ob_STop (zm0 _ _ _ _ _ _ _) (rmok (Nat.le_of_ble_eq_true rfl) (Nat.le_of_ble_eq_true rfl)) (Nat.le_of_ble_eq_true rfl) rfl ?_
    obtain rfl := Option.some.inj hF
    exact g_ireturn O (pc := 95) dX7_told_95 rfl
  rw [if_neg h8] at hF
  by_cases h11 : x1 = 5
  · rw [if_pos h11] at hF
    refine g_tabIn O (pc := 1) (95) 96 dX7_told_1 h11 (by decide) (by decide) rfl (by decide) ?_
    refine g_aload_n O (pc := 96) dX7_told_96 0 rfl ?_
    obtain ⟨q12, e13, hF⟩ := bnd hF
    refine g_Vi O (pc := 97) (st := []) dX7_told_97 (mc_X7_bestArms J e13) cb_X7_bestArms ml_X7_169 isC_X7 ob_STop (zm0 _ _ _ _ _ _ _) (rmok (Nat.le_of_ble_eq_true rfl) (Nat.le_of_ble_eq_true rfl)) (Nat.le_of_ble_eq_true rfl) rfl ?_
    obtain rfl := Option.some.inj hF
    exact g_ireturn O (pc := 100) dX7_told_100 rfl
  rw [if_neg h11] at hF
  by_cases h14 : x1 = 6
  · rw [if_pos h14] at hF
    refine g_tabIn O (pc := 1) (100) 101 dX7_told_1 h14 (by decide) (by decide) rfl (by decide) ?_
    refine g_aload_n O (pc := 101) dX7_told_101 0 rfl ?_
    refine g_getR O (pc := 102) isC_X7 dX7_told_102 fw_X7_12 (by decide) fd_STop_0_0 ?_
    refine g_getR O (pc := 105) isC_X6 dX7_told_105 fw_X7_172 (by decide) fd_STop_1_2 ?_
    refine g_getI O (pc := 108) isC_X1 dX7_told_108 fw_X7_176 (by decide) fd_STop_20_7 ?_
    obtain rfl := Option.some.inj hF
    exact g_ireturn O (pc := 111) dX7_told_111 rfl
  rw [if_neg h14] at hF
  have ih1 : ¬ (x1).toInt = 0 := fun q => h1 (Int32.toInt_inj.mp q)
  have ih2 : ¬ (x1).toInt = 1 := fun q => h2 (Int32.toInt_inj.mp q)
  have ih3 : ¬ (x1).toInt = 2 := fun q => h3 (Int32.toInt_inj.mp q)
  have ih4 : ¬ (x1).toInt = 3 := fun q => h4 (Int32.toInt_inj.mp q)
  have ih8 : ¬ (x1).toInt = 4 := fun q => h8 (Int32.toInt_inj.mp q)
  have ih11 : ¬ (x1).toInt = 5 := fun q => h11 (Int32.toInt_inj.mp q)
  have ih14 : ¬ (x1).toInt = 6 := fun q => h14 (Int32.toInt_inj.mp q)
  refine g_tabOut O (pc := 1) 112 dX7_told_1 (by omega) (by decide) ?_
  refine g_sipush O (pc := 112) dX7_told_112 sp_m10001 ?_
  obtain rfl := Option.some.inj hF
  exact g_ireturn O (pc := 115) dX7_told_115 rfl

theorem mc_X7_told {x1 : Int32} {I : IS} (J : JS) {q : Int32 × IS} (hF : f_X7_told x1 I = some q) : MC yX7_told cX7_told 2 (some .int) (rm_ 6 142) STop 123 [.ref (0), .int (x1)] I J (some (.int q.1), q.2, J) :=
  mc_of pn_X7 (Nat.le_of_ble_eq_true rfl) (fun z O => c_X7_told_e O _ _ _ hF)

def f_X7_trace (x1 : Int32) (x2 : Int32) (I : IS) : Option (Int32) :=
  (f_X1_entry (x1) (x2) (zI (20) I)).bind fun q1 =>
  (some (q1))
set_option maxHeartbeats 4000000 in
set_option maxRecDepth 100000 in
theorem c_X7_trace_e {z : CTX} {J : JS} (O : OK z cX7_trace RX7 3 STop 123 (rm_ 1 23) (some .int)) : ∀ (x1 : Int32) (x2 : Int32) (I : IS) (q : Int32), f_X7_trace x1 x2 I = some q → G z 0 [(0, .ref (0)), (1, .int (x1)), (2, .int (x2))] [] I J (some (.int q), I, J) := by
  intro x1 x2 I q hF
  rw [f_X7_trace] at hF
  refine g_aload_n O (pc := 0) dX7_trace_0 0 rfl ?_
  refine g_getR O (pc := 1) isC_X7 dX7_trace_1 fw_X7_12 (by decide) fd_STop_0_0 ?_
  refine g_getR O (pc := 4) isC_X6 dX7_trace_4 fw_X7_172 (by decide) fd_STop_1_2 ?_
  refine g_iload_n O (pc := 7) dX7_trace_7 1 rfl ?_
  refine g_iload_n O (pc := 8) dX7_trace_8 2 rfl ?_
  obtain ⟨q1, e2, hF⟩ := bnd hF
  refine g_Vi O (pc := 9) (st := []) dX7_trace_9 (mc_X1_entry (zI (20) J) e2) cb_X1_entry ml_X7_179 isC_X1 ob_SEnt (zm1R sub_Top_20 _ _ _) (rmok (Nat.le_of_ble_eq_true rfl) (Nat.le_of_ble_eq_true rfl)) (Nat.le_of_ble_eq_true rfl) rfl ?_
  obtain rfl := Option.some.inj hF
  exact g_ireturn O (pc := 12) dX7_trace_12 rfl

theorem mc_X7_trace {x1 : Int32} {x2 : Int32} {I : IS} (J : JS) {q : Int32} (hF : f_X7_trace x1 x2 I = some q) : MC yX7_trace cX7_trace 3 (some .int) (rm_ 1 23) STop 123 [.ref (0), .int (x1), .int (x2)] I J (some (.int q), I, J) :=
  mc_of pn_X7 (Nat.le_of_ble_eq_true rfl) (fun z O => c_X7_trace_e O _ _ _ _ hF)

def f_X7_tree_b112 (k68 : Int32 → Int32 → Int32 → IS → Option (Int32 × IS)) (x1 : Int32) (x3 : Int32) (x4 : Int32) (s0 : Int32) (I : IS) : Option (Int32 × IS) :=
  if okI (x4) 100 = true then
  (if okI (x4) 100 = true then
  ((f_X4_add ((I (105) (x4).toNatClampNeg)) ((I (106) (x4).toNatClampNeg)) (s0) (zI (11) I)).bind fun q3 =>
  (k68 (x1) (x3) (x4 + (1 : Int32)) ((gI (11) 9 q3 I))))
  else none)
  else none
set_option maxHeartbeats 4000000 in
set_option maxRecDepth 100000 in
theorem c_X7_tree_b112 {z : CTX} {J : JS} (O : OK z cX7_tree RX7 6 STop 123 (rm_ 3 63) (some .int)) {k68 : Int32 → Int32 → Int32 → IS → Option (Int32 × IS)} (hk68 : ∀ (x1 : Int32) (x3 : Int32) (x4 : Int32) (I : IS) (q : Int32 × IS), k68 x1 x3 x4 I = some q → G z 68 [(0, .ref (0)), (1, .int (x1)), (3, .int (x3)), (4, .int (x4))] [] I J (some (.int q.1), q.2, J)) : ∀ (x1 : Int32) (x3 : Int32) (x4 : Int32) (s0 : Int32) (I : IS) (q : Int32 × IS), f_X7_tree_b112 k68 x1 x3 x4 s0 I = some q → G z 112 [(0, .ref (0)), (1, .int (x1)), (3, .int (x3)), (4, .int (x4))] [.int (s0)] I J (some (.int q.1), q.2, J) := by
  intro x1 x3 x4 s0 I q hF
  rw [f_X7_tree_b112] at hF
  refine g_istore O (pc := 112) (L' := [(5, .int (s0)), (0, .ref (0)), (1, .int (x1)), (3, .int (x3)), (4, .int (x4))]) dX7_tree_112 (by decide) rfl ?_
  refine g_aload_n O (pc := 114) dX7_tree_114 1 rfl ?_
  refine g_getR O (pc := 115) isC_X7 dX7_tree_115 fw_X7_12 (by decide) fd_STop_0_0 ?_
  refine g_getR O (pc := 118) isC_X6 dX7_tree_118 fw_X7_67 (by decide) fd_STop_1_1 ?_
  refine g_aload_n O (pc := 121) dX7_tree_121 1 rfl ?_
  refine g_getR O (pc := 122) isC_X7 dX7_tree_122 fw_X7_27 (by decide) fd_STop_0_3 ?_
  refine g_getR O (pc := 125) isC_X5 dX7_tree_125 fw_X7_81 (by decide) fd_STop_103_2 ?_
  refine g_iload O (pc := 128) dX7_tree_128 4 rfl ?_
  obtain ⟨h1, hF⟩ := gd hF
  refine g_il O (pc := 130) dX7_tree_130 ar_STop_105 h1 ?_
  refine g_aload_n O (pc := 131) dX7_tree_131 1 rfl ?_
  refine g_getR O (pc := 132) isC_X7 dX7_tree_132 fw_X7_27 (by decide) fd_STop_0_3 ?_
  refine g_getR O (pc := 135) isC_X5 dX7_tree_135 fw_X7_84 (by decide) fd_STop_103_3 ?_
  refine g_iload O (pc := 138) dX7_tree_138 4 rfl ?_
  obtain ⟨h2, hF⟩ := gd hF
  refine g_il O (pc := 140) dX7_tree_140 ar_STop_106 h2 ?_
  refine g_iload O (pc := 141) dX7_tree_141 0 rfl ?_
  obtain ⟨q3, e4, hF⟩ := bnd hF
  refine g_Vv O (pc := 143) (st := []) dX7_tree_143 (mc_X4_add (zI (11) J) e4) cb_X4_add ml_X7_87 isC_X4 ob_STas (zm1I sub_Top_11 _ _ _ _) (rmok (Nat.le_of_ble_eq_true rfl) (Nat.le_of_ble_eq_true rfl)) (Nat.le_of_ble_eq_true rfl) rfl ?_
  refine g_iinc O (pc := 146) (v := x4 + (1 : Int32)) (L' := [(4, .int (x4 + (1 : Int32))), (5, .int (s0)), (0, .ref (0)), (1, .int (x1)), (3, .int (x3))]) dX7_tree_146 4 rfl rfl (by decide) rfl ?_
  refine g_goto O (pc := 149) 68 dX7_tree_149 (by decide) ?_
  refine g_sub [2, 3, 4, 0] (L' := [(0, .ref (0)), (1, .int (x1)), (3, .int (x3)), (4, .int (x4 + (1 : Int32)))]) rfl ?_
  exact hk68 _ _ _ _ _ hF

def f_X7_tree_b68 : Nat → Int32 → Int32 → Int32 → IS → Option (Int32 × IS)
  | 0, _, _, _, _ => none
  | fu + 1, x1, x3, x4, I =>
    if (I (103) 5) ≤ x4 then
    (if okI (x1) 4 = true then
    ((f_X0_put (x3) (zI (1 + gArm ((x1).toNatClampNeg)) I)).bind fun q3 =>
    (some (x3, (gI (1 + gArm ((x1).toNatClampNeg)) 2 q3 I))))
    else none)
    else
    (if okI (x4) 100 = true then
    (if (I (107) (x4).toNatClampNeg) = (-5 : Int32) then
    (f_X7_tree_b112 (f_X7_tree_b68 fu) (x1) (x3) (x4) ((-5 : Int32)) (I))
    else
    (if okI (x4) 100 = true then
    (f_X7_tree_b112 (f_X7_tree_b68 fu) (x1) (x3) (x4) ((x3 + (I (107) (x4).toNatClampNeg))) (I))
    else none))
    else none)
set_option maxHeartbeats 4000000 in
set_option maxRecDepth 100000 in
theorem c_X7_tree_b68 {z : CTX} {J : JS} (O : OK z cX7_tree RX7 6 STop 123 (rm_ 3 63) (some .int)) : ∀ (fu : Nat) (x1 : Int32) (x3 : Int32) (x4 : Int32) (I : IS) (q : Int32 × IS), f_X7_tree_b68 fu x1 x3 x4 I = some q → G z 68 [(0, .ref (0)), (1, .int (x1)), (3, .int (x3)), (4, .int (x4))] [] I J (some (.int q.1), q.2, J) := by
  intro fu
  induction fu with
  | zero =>
    intro x1 x3 x4 I q hF
    cases hF
  | succ fu ih =>
    intro x1 x3 x4 I q hF
    rw [f_X7_tree_b68] at hF
    refine g_iload O (pc := 68) dX7_tree_68 3 rfl ?_
    refine g_aload_n O (pc := 70) dX7_tree_70 0 rfl ?_
    refine g_getR O (pc := 71) isC_X7 dX7_tree_71 fw_X7_27 (by decide) fd_STop_0_3 ?_
    refine g_getI O (pc := 74) isC_X5 dX7_tree_74 fw_X7_76 (by decide) fd_STop_103_5 ?_
    refine g_icmp_ge O (pc := 77) 152 dX7_tree_77 (by decide) (fun h1 => ?_) (fun h1 => ?_)
    · rw [if_pos h1] at hF
      refine g_aload_n O (pc := 152) dX7_tree_152 0 rfl ?_
      refine g_getR O (pc := 153) isC_X7 dX7_tree_153 fw_X7_12 (by decide) fd_STop_0_0 ?_
      refine g_getR O (pc := 156) isC_X6 dX7_tree_156 fw_X7_91 (by decide) fd_STop_1_0 ?_
      refine g_iload_n O (pc := 159) dX7_tree_159 1 rfl ?_
      obtain ⟨h2, hF⟩ := gd hF
      refine g_al O (pc := 160) dX7_tree_160 rr_STop_2 (Or.inl rfl) h2 ?_
      refine g_iload_n O (pc := 161) dX7_tree_161 2 rfl ?_
      obtain ⟨q3, e4, hF⟩ := bnd hF
      refine g_Vv O (pc := 162) (st := []) dX7_tree_162 (mc_X0_put (zI (1 + gArm ((x1).toNatClampNeg)) J) e4) cb_X0_put ml_X7_95 isC_X0 ob_SArm (zm1I (sub_tr sub_Top_now (sub_Wor_arm ((x1).toNatClampNeg))) _ _ _ _) (rmok (Nat.le_of_ble_eq_true rfl) (Nat.le_of_ble_eq_true rfl)) (Nat.le_of_ble_eq_true rfl) rfl ?_
      refine g_iload_n O (pc := 165) dX7_tree_165 2 rfl ?_
      obtain rfl := Option.some.inj hF
      exact g_ireturn O (pc := 166) dX7_tree_166 rfl
    · rw [if_neg h1] at hF
      refine g_aload_n O (pc := 80) dX7_tree_80 0 rfl ?_
      refine g_getR O (pc := 81) isC_X7 dX7_tree_81 fw_X7_27 (by decide) fd_STop_0_3 ?_
      refine g_getR O (pc := 84) isC_X5 dX7_tree_84 fw_X7_77 (by decide) fd_STop_103_4 ?_
      refine g_iload O (pc := 87) dX7_tree_87 3 rfl ?_
      obtain ⟨h5, hF⟩ := gd hF
      refine g_il O (pc := 89) dX7_tree_89 ar_STop_107 h5 ?_
      refine g_bipush O (pc := 90) dX7_tree_90 bp_m5 ?_
      refine g_icmp_ne O (pc := 92) 100 dX7_tree_92 (by decide) (fun h6 => ?_) (fun h6 => ?_)
      · rw [if_neg h6] at hF
        refine g_iload_n O (pc := 100) dX7_tree_100 2 rfl ?_
        refine g_aload_n O (pc := 101) dX7_tree_101 0 rfl ?_
        refine g_getR O (pc := 102) isC_X7 dX7_tree_102 fw_X7_27 (by decide) fd_STop_0_3 ?_
        refine g_getR O (pc := 105) isC_X5 dX7_tree_105 fw_X7_77 (by decide) fd_STop_103_4 ?_
        refine g_iload O (pc := 108) dX7_tree_108 3 rfl ?_
        obtain ⟨h7, hF⟩ := gd hF
        refine g_il O (pc := 110) dX7_tree_110 ar_STop_107 h7 ?_
        refine g_iadd O (pc := 111) dX7_tree_111 ?_
        refine g_sub [0, 1, 2, 3] (L' := [(0, .ref (0)), (1, .int (x1)), (3, .int (x3)), (4, .int (x4))]) rfl ?_
        exact c_X7_tree_b112 O ih _ _ _ _ _ _ hF
      · rw [if_pos h6] at hF
        refine g_bipush O (pc := 95) dX7_tree_95 bp_m5 ?_
        refine g_goto O (pc := 97) 112 dX7_tree_97 (by decide) ?_
        refine g_sub [0, 1, 2, 3] (L' := [(0, .ref (0)), (1, .int (x1)), (3, .int (x3)), (4, .int (x4))]) rfl ?_
        exact c_X7_tree_b112 O ih _ _ _ _ _ _ hF

def f_X7_tree (x1 : Int32) (I : IS) : Option (Int32 × IS) :=
  (f_X7_isArm (x1) I).bind fun q1 =>
  (if q1 = 0 then
  (some ((-1 : Int32), I))
  else
  ((f_X5_parse (zI (103) I)).bind fun q4 =>
  (if q4.1 = (-5 : Int32) then
  (if (((u2 (gI (103) 7 q4.2 I) (103) 1 ((0 : Int32))) (11) 8) + ((u2 (gI (103) 7 q4.2 I) (103) 1 ((0 : Int32))) (103) 5)) ≤ (32 : Int32) then
  (f_X7_tree_b68 LF (x1) (((u2 (gI (103) 7 q4.2 I) (103) 1 ((0 : Int32))) (11) 8)) ((0 : Int32)) ((u2 (gI (103) 7 q4.2 I) (103) 1 ((0 : Int32)))))
  else
  (some ((-4 : Int32), (u2 (gI (103) 7 q4.2 I) (103) 1 ((0 : Int32))))))
  else
  (some (((-10 : Int32) - q4.1), (u2 (gI (103) 7 q4.2 I) (103) 1 ((0 : Int32))))))))
set_option maxHeartbeats 4000000 in
set_option maxRecDepth 100000 in
theorem c_X7_tree_e {z : CTX} {J : JS} (O : OK z cX7_tree RX7 6 STop 123 (rm_ 3 63) (some .int)) : ∀ (x1 : Int32) (I : IS) (q : Int32 × IS), f_X7_tree x1 I = some q → G z 0 [(0, .ref (0)), (1, .int (x1))] [] I J (some (.int q.1), q.2, J) := by
  intro x1 I q hF
  rw [f_X7_tree] at hF
  refine g_aload_n O (pc := 0) dX7_tree_0 0 rfl ?_
  refine g_iload_n O (pc := 1) dX7_tree_1 1 rfl ?_
  obtain ⟨q1, e2, hF⟩ := bnd hF
  refine g_Vi O (pc := 2) (st := []) dX7_tree_2 (mc_X7_isArm J e2) cb_X7_isArm ml_X7_60 isC_X7 ob_STop (zm0 _ _ _ _ _ _ _) (rmok (Nat.le_of_ble_eq_true rfl) (Nat.le_of_ble_eq_true rfl)) (Nat.le_of_ble_eq_true rfl) rfl ?_
  refine g_if_ne O (pc := 5) 10 dX7_tree_5 (by decide) (fun h3 => ?_) (fun h3 => ?_)
  · rw [if_neg h3] at hF
    refine g_aload_n O (pc := 10) dX7_tree_10 0 rfl ?_
    refine g_getR O (pc := 11) isC_X7 dX7_tree_11 fw_X7_27 (by decide) fd_STop_0_3 ?_
    obtain ⟨q4, e5, hF⟩ := bnd hF
    refine g_Vi O (pc := 14) (st := []) dX7_tree_14 (mc_X5_parse (zI (103) J) e5) cb_X5_parse ml_X7_63 isC_X5 ob_STxt (zm1I sub_Top_text _ _ _ _) (rmok (Nat.le_of_ble_eq_true rfl) (Nat.le_of_ble_eq_true rfl)) (Nat.le_of_ble_eq_true rfl) rfl ?_
    refine g_istore_n O (pc := 17) (L' := [(2, .int (q4.1)), (0, .ref (0)), (1, .int (x1))]) dX7_tree_17 (by decide) rfl ?_
    refine g_aload_n O (pc := 18) dX7_tree_18 1 rfl ?_
    refine g_getR O (pc := 19) isC_X7 dX7_tree_19 fw_X7_27 (by decide) fd_STop_0_3 ?_
    refine g_iconst O (pc := 22) dX7_tree_22 (ic_0) ?_
    refine g_putI O (pc := 23) isC_X5 isT_X5 dX7_tree_23 fw_X7_57 (by decide) rfl rfl fd_STop_103_1 ?_
    refine g_iload_n O (pc := 26) dX7_tree_26 0 rfl ?_
    refine g_bipush O (pc := 27) dX7_tree_27 bp_m5 ?_
    refine g_icmp_eq O (pc := 29) 37 dX7_tree_29 (by decide) (fun h6 => ?_) (fun h6 => ?_)
    · rw [if_pos h6] at hF
      refine g_aload_n O (pc := 37) dX7_tree_37 1 rfl ?_
      refine g_getR O (pc := 38) isC_X7 dX7_tree_38 fw_X7_12 (by decide) fd_STop_0_0 ?_
      refine g_getR O (pc := 41) isC_X6 dX7_tree_41 fw_X7_67 (by decide) fd_STop_1_1 ?_
      refine g_getI O (pc := 44) isC_X4 dX7_tree_44 fw_X7_71 (by decide) fd_STop_11_8 ?_
      refine g_istore_n O (pc := 47) (L' := [(3, .int (((u2 (gI (103) 7 q4.2 I) (103) 1 ((0 : Int32))) (11) 8))), (2, .int (q4.1)), (0, .ref (0)), (1, .int (x1))]) dX7_tree_47 (by decide) rfl ?_
      refine g_iload_n O (pc := 48) dX7_tree_48 0 rfl ?_
      refine g_aload_n O (pc := 49) dX7_tree_49 2 rfl ?_
      refine g_getR O (pc := 50) isC_X7 dX7_tree_50 fw_X7_27 (by decide) fd_STop_0_3 ?_
      refine g_getI O (pc := 53) isC_X5 dX7_tree_53 fw_X7_76 (by decide) fd_STop_103_5 ?_
      refine g_iadd O (pc := 56) dX7_tree_56 ?_
      refine g_bipush O (pc := 57) dX7_tree_57 bp_32 ?_
      refine g_icmp_le O (pc := 59) 65 dX7_tree_59 (by decide) (fun h7 => ?_) (fun h7 => ?_)
      · rw [if_pos h7] at hF
        refine g_iconst O (pc := 65) dX7_tree_65 (ic_0) ?_
        refine g_istore O (pc := 66) (L' := [(4, .int ((0 : Int32))), (3, .int (((u2 (gI (103) 7 q4.2 I) (103) 1 ((0 : Int32))) (11) 8))), (2, .int (q4.1)), (0, .ref (0)), (1, .int (x1))]) dX7_tree_66 (by decide) rfl ?_
        refine g_sub [3, 4, 1, 0] (L' := [(0, .ref (0)), (1, .int (x1)), (3, .int (((u2 (gI (103) 7 q4.2 I) (103) 1 ((0 : Int32))) (11) 8))), (4, .int ((0 : Int32)))]) rfl ?_
        exact c_X7_tree_b68 O _ _ _ _ _ _ hF
      · rw [if_neg h7] at hF
        refine g_bipush O (pc := 62) dX7_tree_62 bp_m4 ?_
        obtain rfl := Option.some.inj hF
        exact g_ireturn O (pc := 64) dX7_tree_64 rfl
    · rw [if_neg h6] at hF
      refine g_bipush O (pc := 32) dX7_tree_32 bp_m10 ?_
      refine g_iload_n O (pc := 34) dX7_tree_34 0 rfl ?_
      refine g_isub O (pc := 35) dX7_tree_35 ?_
      obtain rfl := Option.some.inj hF
      exact g_ireturn O (pc := 36) dX7_tree_36 rfl
  · rw [if_pos h3] at hF
    refine g_iconst O (pc := 8) dX7_tree_8 (ic_m1) ?_
    obtain rfl := Option.some.inj hF
    exact g_ireturn O (pc := 9) dX7_tree_9 rfl

theorem mc_X7_tree {x1 : Int32} {I : IS} (J : JS) {q : Int32 × IS} (hF : f_X7_tree x1 I = some q) : MC yX7_tree cX7_tree 6 (some .int) (rm_ 3 63) STop 123 [.ref (0), .int (x1)] I J (some (.int q.1), q.2, J) :=
  mc_of pn_X7 (Nat.le_of_ble_eq_true rfl) (fun z O => c_X7_tree_e O _ _ _ hF)

def f_X7_undo (I : IS) : Option (Int32 × IS) :=
  if (I (0) 5) = 0 then
  (some ((-3 : Int32), I))
  else
  ((f_X6_become (zI2 (1) 34 (35) I)).bind fun q2 =>
  (some (((gI2 (1) 34 (35) 34 q2 I) (11) 8), (gI2 (1) 34 (35) 34 q2 I))))
set_option maxHeartbeats 4000000 in
set_option maxRecDepth 100000 in
theorem c_X7_undo_e {z : CTX} {J : JS} (O : OK z cX7_undo RX7 1 STop 123 (rm_ 3 61) (some .int)) : ∀ (I : IS) (q : Int32 × IS), f_X7_undo I = some q → G z 0 [(0, .ref (0))] [] I J (some (.int q.1), q.2, J) := by
  intro I q hF
  rw [f_X7_undo] at hF
  refine g_aload_n O (pc := 0) dX7_undo_0 0 rfl ?_
  refine g_getI O (pc := 1) isC_X7 dX7_undo_1 fw_X7_38 (by decide) fd_STop_0_5 ?_
  refine g_if_ne O (pc := 4) 10 dX7_undo_4 (by decide) (fun h1 => ?_) (fun h1 => ?_)
  · rw [if_neg h1] at hF
    refine g_aload_n O (pc := 10) dX7_undo_10 0 rfl ?_
    refine g_getR O (pc := 11) isC_X7 dX7_undo_11 fw_X7_12 (by decide) fd_STop_0_0 ?_
    refine g_aload_n O (pc := 14) dX7_undo_14 0 rfl ?_
    refine g_getR O (pc := 15) isC_X7 dX7_undo_15 fw_X7_18 (by decide) fd_STop_0_1 ?_
    obtain ⟨q2, e3, hF⟩ := bnd hF
    refine g_Vv O (pc := 18) (st := []) dX7_undo_18 (mc_X6_become (zI2 (1) 34 (35) J) e3) cb_X6_become ml_X7_183 isC_X6 ob_dbl_34_SWor (zm2I rfl (by decide) (sub_o2 clo_Wor sub_Top_now sub_Top_kept (by decide)) _ _ _ _) (rmok (Nat.le_of_ble_eq_true rfl) (Nat.le_of_ble_eq_true rfl)) (Nat.le_of_ble_eq_true rfl) rfl ?_
    refine g_aload_n O (pc := 21) dX7_undo_21 0 rfl ?_
    refine g_getR O (pc := 22) isC_X7 dX7_undo_22 fw_X7_12 (by decide) fd_STop_0_0 ?_
    refine g_getR O (pc := 25) isC_X6 dX7_undo_25 fw_X7_67 (by decide) fd_STop_1_1 ?_
    refine g_getI O (pc := 28) isC_X4 dX7_undo_28 fw_X7_71 (by decide) fd_STop_11_8 ?_
    obtain rfl := Option.some.inj hF
    exact g_ireturn O (pc := 31) dX7_undo_31 rfl
  · rw [if_pos h1] at hF
    refine g_bipush O (pc := 7) dX7_undo_7 bp_m3 ?_
    obtain rfl := Option.some.inj hF
    exact g_ireturn O (pc := 9) dX7_undo_9 rfl

theorem mc_X7_undo {I : IS} (J : JS) {q : Int32 × IS} (hF : f_X7_undo I = some q) : MC yX7_undo cX7_undo 1 (some .int) (rm_ 3 61) STop 123 [.ref (0)] I J (some (.int q.1), q.2, J) :=
  mc_of pn_X7 (Nat.le_of_ble_eq_true rfl) (fun z O => c_X7_undo_e O _ _ hF)

