def f_X8_carry_b17 (I : IS) : Option (Int32 × IS) :=
  if (u2 I (0) 33 (((I (0) 33) + (1 : Int32)))) (0) 35 = 1 then
  (if okI ((((u2 I (0) 33 (((I (0) 33) + (1 : Int32)))) (0) 33) - (1 : Int32))) 600 = true then
  (some (((u2 I (0) 33 (((I (0) 33) + (1 : Int32)))) (20) ((((u2 I (0) 33 (((I (0) 33) + (1 : Int32)))) (0) 33) - (1 : Int32))).toNatClampNeg), (u2 I (0) 33 (((I (0) 33) + (1 : Int32))))))
  else none)
  else if (u2 I (0) 33 (((I (0) 33) + (1 : Int32)))) (0) 35 = 2 then
  (if okI ((((u2 I (0) 33 (((I (0) 33) + (1 : Int32)))) (0) 33) - (1 : Int32))) 600 = true then
  (some (((u2 I (0) 33 (((I (0) 33) + (1 : Int32)))) (21) ((((u2 I (0) 33 (((I (0) 33) + (1 : Int32)))) (0) 33) - (1 : Int32))).toNatClampNeg), (u2 I (0) 33 (((I (0) 33) + (1 : Int32))))))
  else none)
  else none
set_option maxHeartbeats 4000000 in
set_option maxRecDepth 100000 in
theorem c_X8_carry_b17 {z : CTX} {J : JS} (O : OK z cX8_carry RX8 2 SMod 36 (rm_ 0 0) (some .int)) : ∀ (I : IS) (q : Int32 × IS), f_X8_carry_b17 I = some q → G z 17 [(0, .ref (0))] [] I J (some (.int q.1), q.2, J) := by
  intro I q hF
  rw [f_X8_carry_b17] at hF
  refine g_aload_n O (pc := 17) dX8_carry_17 0 rfl ?_
  refine g_dup O (pc := 18) dX8_carry_18 rfl ?_
  refine g_getI O (pc := 19) isC_X8 dX8_carry_19 fw_X8_141 (by decide) fd_SMod_0_33 ?_
  refine g_iconst O (pc := 22) dX8_carry_22 (ic_1) ?_
  refine g_iadd O (pc := 23) dX8_carry_23 ?_
  refine g_putI O (pc := 24) isC_X8 isT_X8 dX8_carry_24 fw_X8_141 (by decide) rfl rfl fd_SMod_0_33 ?_
  refine g_aload_n O (pc := 27) dX8_carry_27 0 rfl ?_
  by_cases h3 : (u2 I (0) 33 (((I (0) 33) + (1 : Int32)))) (0) 35 = 1
  · rw [if_pos h3] at hF
    refine g_getC1 O (pc := 28) isC_X8 dX8_carry_28 fw_X8_138 (by decide) fd_SMod_0_35 h3 ?_
    refine g_aload_n O (pc := 31) dX8_carry_31 0 rfl ?_
    refine g_getI O (pc := 32) isC_X8 dX8_carry_32 fw_X8_141 (by decide) fd_SMod_0_33 ?_
    refine g_iconst O (pc := 35) dX8_carry_35 (ic_1) ?_
    refine g_isub O (pc := 36) dX8_carry_36 ?_
    obtain ⟨h1, hF⟩ := gd hF
    refine g_il O (pc := 37) dX8_carry_37 ar_SMod_20 h1 ?_
    obtain rfl := Option.some.inj hF
    exact g_ireturn O (pc := 38) dX8_carry_38 rfl
  rw [if_neg h3] at hF
  by_cases h4 : (u2 I (0) 33 (((I (0) 33) + (1 : Int32)))) (0) 35 = 2
  · rw [if_pos h4] at hF
    refine g_getC2 O (pc := 28) isC_X8 dX8_carry_28 fw_X8_138 (by decide) fd_SMod_0_35 h4 ?_
    refine g_aload_n O (pc := 31) dX8_carry_31 0 rfl ?_
    refine g_getI O (pc := 32) isC_X8 dX8_carry_32 fw_X8_141 (by decide) fd_SMod_0_33 ?_
    refine g_iconst O (pc := 35) dX8_carry_35 (ic_1) ?_
    refine g_isub O (pc := 36) dX8_carry_36 ?_
    obtain ⟨h2, hF⟩ := gd hF
    refine g_il O (pc := 37) dX8_carry_37 ar_SMod_21 h2 ?_
    obtain rfl := Option.some.inj hF
    exact g_ireturn O (pc := 38) dX8_carry_38 rfl
  · rw [if_neg h4] at hF
    cases hF

def f_X8_carry (x1 : Int32) (I : IS) : Option (Int32 × IS) :=
  if (I (0) 34) = 0 then
  (f_X8_carry_b17 (I))
  else
  (if I (0) 35 = 1 then
  (if okI ((I (0) 33)) 600 = true then
  (f_X8_carry_b17 ((u2 I (20) ((I (0) 33)).toNatClampNeg (x1))))
  else none)
  else if I (0) 35 = 2 then
  (if okI ((I (0) 33)) 600 = true then
  (f_X8_carry_b17 ((u2 I (21) ((I (0) 33)).toNatClampNeg (x1))))
  else none)
  else none)
set_option maxHeartbeats 4000000 in
set_option maxRecDepth 100000 in
theorem c_X8_carry_e {z : CTX} {J : JS} (O : OK z cX8_carry RX8 2 SMod 36 (rm_ 0 0) (some .int)) : ∀ (x1 : Int32) (I : IS) (q : Int32 × IS), f_X8_carry x1 I = some q → G z 0 [(0, .ref (0)), (1, .int (x1))] [] I J (some (.int q.1), q.2, J) := by
  intro x1 I q hF
  rw [f_X8_carry] at hF
  refine g_aload_n O (pc := 0) dX8_carry_0 0 rfl ?_
  refine g_getI O (pc := 1) isC_X8 dX8_carry_1 fw_X8_134 (by decide) fd_SMod_0_34 ?_
  refine g_if_eq O (pc := 4) 17 dX8_carry_4 (by decide) (fun h1 => ?_) (fun h1 => ?_)
  · rw [if_pos h1] at hF
    refine g_sub [0] (L' := [(0, .ref (0))]) rfl ?_
    exact c_X8_carry_b17 O _ _ hF
  · rw [if_neg h1] at hF
    refine g_aload_n O (pc := 7) dX8_carry_7 0 rfl ?_
    by_cases h4 : I (0) 35 = 1
    · rw [if_pos h4] at hF
      refine g_getC1 O (pc := 8) isC_X8 dX8_carry_8 fw_X8_138 (by decide) fd_SMod_0_35 h4 ?_
      refine g_aload_n O (pc := 11) dX8_carry_11 0 rfl ?_
      refine g_getI O (pc := 12) isC_X8 dX8_carry_12 fw_X8_141 (by decide) fd_SMod_0_33 ?_
      refine g_iload_n O (pc := 15) dX8_carry_15 1 rfl ?_
      obtain ⟨h2, hF⟩ := gd hF
      refine g_is O (pc := 16) dX8_carry_16 ar_SMod_20 h2 ?_
      refine g_sub [0] (L' := [(0, .ref (0))]) rfl ?_
      exact c_X8_carry_b17 O _ _ hF
    rw [if_neg h4] at hF
    by_cases h5 : I (0) 35 = 2
    · rw [if_pos h5] at hF
      refine g_getC2 O (pc := 8) isC_X8 dX8_carry_8 fw_X8_138 (by decide) fd_SMod_0_35 h5 ?_
      refine g_aload_n O (pc := 11) dX8_carry_11 0 rfl ?_
      refine g_getI O (pc := 12) isC_X8 dX8_carry_12 fw_X8_141 (by decide) fd_SMod_0_33 ?_
      refine g_iload_n O (pc := 15) dX8_carry_15 1 rfl ?_
      obtain ⟨h3, hF⟩ := gd hF
      refine g_is O (pc := 16) dX8_carry_16 ar_SMod_21 h3 ?_
      refine g_sub [0] (L' := [(0, .ref (0))]) rfl ?_
      exact c_X8_carry_b17 O _ _ hF
    · rw [if_neg h5] at hF
      cases hF

theorem mc_X8_carry {x1 : Int32} {I : IS} (J : JS) {q : Int32 × IS} (hF : f_X8_carry x1 I = some q) : MC yX8_carry cX8_carry 2 (some .int) (rm_ 0 0) SMod 36 [.ref (0), .int (x1)] I J (some (.int q.1), q.2, J) :=
  mc_of pn_X8 (Nat.le_of_ble_eq_true rfl) (fun z O => c_X8_carry_e O _ _ _ hF)

def f_X8_carryTold_b129 : Nat → Int32 → IS → Option (IS)
  | 0, _, _ => none
  | fu + 1, x1, I =>
    if (8 : Int32) ≤ x1 then
    (some (I))
    else
    (if okI (x1) 8 = true then
    ((f_X8_carry ((I (18) (x1).toNatClampNeg)) I).bind fun q3 =>
    (if okI (x1) 8 = true then
    (if okI (x1) 8 = true then
    ((f_X8_carry (((u2 q3.2 (18) (x1).toNatClampNeg (q3.1)) (19) (x1).toNatClampNeg)) (u2 q3.2 (18) (x1).toNatClampNeg (q3.1))).bind fun q7 =>
    (if okI (x1) 8 = true then
    (f_X8_carryTold_b129 fu (x1 + (1 : Int32)) ((u2 q7.2 (19) (x1).toNatClampNeg (q7.1))))
    else none))
    else none)
    else none))
    else none)
set_option maxHeartbeats 4000000 in
set_option maxRecDepth 100000 in
theorem c_X8_carryTold_b129 {z : CTX} {J : JS} (O : OK z cX8_carryTold RX8 2 SMod 36 (rm_ 1 21) none) : ∀ (fu : Nat) (x1 : Int32) (I : IS) (q : IS), f_X8_carryTold_b129 fu x1 I = some q → G z 129 [(0, .ref (0)), (1, .int (x1))] [] I J (none, q, J) := by
  intro fu
  induction fu with
  | zero =>
    intro x1 I q hF
    cases hF
  | succ fu ih =>
    intro x1 I q hF
    rw [f_X8_carryTold_b129] at hF
    refine g_iload_n O (pc := 129) dX8_carryTold_129 1 rfl ?_
    refine g_bipush O (pc := 130) dX8_carryTold_130 bp_8 ?_
    refine g_icmp_ge O (pc := 132) 173 dX8_carryTold_132 (by decide) (fun h1 => ?_) (fun h1 => ?_)
    · rw [if_pos h1] at hF
      obtain rfl := Option.some.inj hF
      exact g_return O (pc := 173) dX8_carryTold_173 rfl
    · rw [if_neg h1] at hF
      refine g_aload_n O (pc := 135) dX8_carryTold_135 0 rfl ?_
      refine g_getR O (pc := 136) isC_X8 dX8_carryTold_136 fw_X8_68 (by decide) fd_SMod_0_25 ?_
      refine g_iload_n O (pc := 139) dX8_carryTold_139 1 rfl ?_
      refine g_aload_n O (pc := 140) dX8_carryTold_140 0 rfl ?_
      refine g_aload_n O (pc := 141) dX8_carryTold_141 0 rfl ?_
      refine g_getR O (pc := 142) isC_X8 dX8_carryTold_142 fw_X8_68 (by decide) fd_SMod_0_25 ?_
      refine g_iload_n O (pc := 145) dX8_carryTold_145 1 rfl ?_
      obtain ⟨h2, hF⟩ := gd hF
      refine g_il O (pc := 146) dX8_carryTold_146 ar_SMod_18 h2 ?_
      obtain ⟨q3, e4, hF⟩ := bnd hF
      refine g_Vi O (pc := 147) (st := [.int (x1), .ref (18)]) dX8_carryTold_147 (mc_X8_carry J e4) cb_X8_carry ml_X8_147 isC_X8 ob_SMod (zm0 _ _ _ _ _ _ _) (rmok (Nat.le_of_ble_eq_true rfl) (Nat.le_of_ble_eq_true rfl)) (Nat.le_of_ble_eq_true rfl) rfl ?_
      obtain ⟨h5, hF⟩ := gd hF
      refine g_is O (pc := 150) dX8_carryTold_150 ar_SMod_18 h5 ?_
      refine g_aload_n O (pc := 151) dX8_carryTold_151 0 rfl ?_
      refine g_getR O (pc := 152) isC_X8 dX8_carryTold_152 fw_X8_71 (by decide) fd_SMod_0_26 ?_
      refine g_iload_n O (pc := 155) dX8_carryTold_155 1 rfl ?_
      refine g_aload_n O (pc := 156) dX8_carryTold_156 0 rfl ?_
      refine g_aload_n O (pc := 157) dX8_carryTold_157 0 rfl ?_
      refine g_getR O (pc := 158) isC_X8 dX8_carryTold_158 fw_X8_71 (by decide) fd_SMod_0_26 ?_
      refine g_iload_n O (pc := 161) dX8_carryTold_161 1 rfl ?_
      obtain ⟨h6, hF⟩ := gd hF
      refine g_il O (pc := 162) dX8_carryTold_162 ar_SMod_19 h6 ?_
      obtain ⟨q7, e8, hF⟩ := bnd hF
      refine g_Vi O (pc := 163) (st := [.int (x1), .ref (19)]) dX8_carryTold_163 (mc_X8_carry J e8) cb_X8_carry ml_X8_147 isC_X8 ob_SMod (zm0 _ _ _ _ _ _ _) (rmok (Nat.le_of_ble_eq_true rfl) (Nat.le_of_ble_eq_true rfl)) (Nat.le_of_ble_eq_true rfl) rfl ?_
      obtain ⟨h9, hF⟩ := gd hF
      refine g_is O (pc := 166) dX8_carryTold_166 ar_SMod_19 h9 ?_
      refine g_iinc O (pc := 167) (v := x1 + (1 : Int32)) (L' := [(1, .int (x1 + (1 : Int32))), (0, .ref (0))]) dX8_carryTold_167 1 rfl rfl (by decide) rfl ?_
      refine g_goto O (pc := 170) 129 dX8_carryTold_170 (by decide) ?_
      refine g_sub [1, 0] (L' := [(0, .ref (0)), (1, .int (x1 + (1 : Int32)))]) rfl ?_
      exact ih _ _ _ hF

def f_X8_carryTold_b83 : Nat → Int32 → IS → Option (IS)
  | 0, _, _ => none
  | fu + 1, x1, I =>
    if (10 : Int32) ≤ x1 then
    (f_X8_carryTold_b129 LF ((0 : Int32)) (I))
    else
    (if okI (x1) 10 = true then
    ((f_X8_carry ((I (16) (x1).toNatClampNeg)) I).bind fun q3 =>
    (if okI (x1) 10 = true then
    (if okI (x1) 10 = true then
    ((f_X8_carry (((u2 q3.2 (16) (x1).toNatClampNeg (q3.1)) (17) (x1).toNatClampNeg)) (u2 q3.2 (16) (x1).toNatClampNeg (q3.1))).bind fun q7 =>
    (if okI (x1) 10 = true then
    (f_X8_carryTold_b83 fu (x1 + (1 : Int32)) ((u2 q7.2 (17) (x1).toNatClampNeg (q7.1))))
    else none))
    else none)
    else none))
    else none)
set_option maxHeartbeats 4000000 in
set_option maxRecDepth 100000 in
theorem c_X8_carryTold_b83 {z : CTX} {J : JS} (O : OK z cX8_carryTold RX8 2 SMod 36 (rm_ 1 21) none) : ∀ (fu : Nat) (x1 : Int32) (I : IS) (q : IS), f_X8_carryTold_b83 fu x1 I = some q → G z 83 [(0, .ref (0)), (1, .int (x1))] [] I J (none, q, J) := by
  intro fu
  induction fu with
  | zero =>
    intro x1 I q hF
    cases hF
  | succ fu ih =>
    intro x1 I q hF
    rw [f_X8_carryTold_b83] at hF
    refine g_iload_n O (pc := 83) dX8_carryTold_83 1 rfl ?_
    refine g_bipush O (pc := 84) dX8_carryTold_84 bp_10 ?_
    refine g_icmp_ge O (pc := 86) 127 dX8_carryTold_86 (by decide) (fun h1 => ?_) (fun h1 => ?_)
    · rw [if_pos h1] at hF
      refine g_iconst O (pc := 127) dX8_carryTold_127 (ic_0) ?_
      refine g_istore_n O (pc := 128) (L' := [(1, .int ((0 : Int32))), (0, .ref (0))]) dX8_carryTold_128 (by decide) rfl ?_
      refine g_sub [1, 0] (L' := [(0, .ref (0)), (1, .int ((0 : Int32)))]) rfl ?_
      exact c_X8_carryTold_b129 O _ _ _ _ hF
    · rw [if_neg h1] at hF
      refine g_aload_n O (pc := 89) dX8_carryTold_89 0 rfl ?_
      refine g_getR O (pc := 90) isC_X8 dX8_carryTold_90 fw_X8_62 (by decide) fd_SMod_0_22 ?_
      refine g_iload_n O (pc := 93) dX8_carryTold_93 1 rfl ?_
      refine g_aload_n O (pc := 94) dX8_carryTold_94 0 rfl ?_
      refine g_aload_n O (pc := 95) dX8_carryTold_95 0 rfl ?_
      refine g_getR O (pc := 96) isC_X8 dX8_carryTold_96 fw_X8_62 (by decide) fd_SMod_0_22 ?_
      refine g_iload_n O (pc := 99) dX8_carryTold_99 1 rfl ?_
      obtain ⟨h2, hF⟩ := gd hF
      refine g_il O (pc := 100) dX8_carryTold_100 ar_SMod_16 h2 ?_
      obtain ⟨q3, e4, hF⟩ := bnd hF
      refine g_Vi O (pc := 101) (st := [.int (x1), .ref (16)]) dX8_carryTold_101 (mc_X8_carry J e4) cb_X8_carry ml_X8_147 isC_X8 ob_SMod (zm0 _ _ _ _ _ _ _) (rmok (Nat.le_of_ble_eq_true rfl) (Nat.le_of_ble_eq_true rfl)) (Nat.le_of_ble_eq_true rfl) rfl ?_
      obtain ⟨h5, hF⟩ := gd hF
      refine g_is O (pc := 104) dX8_carryTold_104 ar_SMod_16 h5 ?_
      refine g_aload_n O (pc := 105) dX8_carryTold_105 0 rfl ?_
      refine g_getR O (pc := 106) isC_X8 dX8_carryTold_106 fw_X8_65 (by decide) fd_SMod_0_23 ?_
      refine g_iload_n O (pc := 109) dX8_carryTold_109 1 rfl ?_
      refine g_aload_n O (pc := 110) dX8_carryTold_110 0 rfl ?_
      refine g_aload_n O (pc := 111) dX8_carryTold_111 0 rfl ?_
      refine g_getR O (pc := 112) isC_X8 dX8_carryTold_112 fw_X8_65 (by decide) fd_SMod_0_23 ?_
      refine g_iload_n O (pc := 115) dX8_carryTold_115 1 rfl ?_
      obtain ⟨h6, hF⟩ := gd hF
      refine g_il O (pc := 116) dX8_carryTold_116 ar_SMod_17 h6 ?_
      obtain ⟨q7, e8, hF⟩ := bnd hF
      refine g_Vi O (pc := 117) (st := [.int (x1), .ref (17)]) dX8_carryTold_117 (mc_X8_carry J e8) cb_X8_carry ml_X8_147 isC_X8 ob_SMod (zm0 _ _ _ _ _ _ _) (rmok (Nat.le_of_ble_eq_true rfl) (Nat.le_of_ble_eq_true rfl)) (Nat.le_of_ble_eq_true rfl) rfl ?_
      obtain ⟨h9, hF⟩ := gd hF
      refine g_is O (pc := 120) dX8_carryTold_120 ar_SMod_17 h9 ?_
      refine g_iinc O (pc := 121) (v := x1 + (1 : Int32)) (L' := [(1, .int (x1 + (1 : Int32))), (0, .ref (0))]) dX8_carryTold_121 1 rfl rfl (by decide) rfl ?_
      refine g_goto O (pc := 124) 83 dX8_carryTold_124 (by decide) ?_
      refine g_sub [1, 0] (L' := [(0, .ref (0)), (1, .int (x1 + (1 : Int32)))]) rfl ?_
      exact ih _ _ _ hF

def f_X8_carryTold_b38 : Nat → Int32 → IS → Option (IS)
  | 0, _, _ => none
  | fu + 1, x1, I =>
    if (5 : Int32) ≤ x1 then
    (f_X8_carryTold_b83 LF ((0 : Int32)) (I))
    else
    (if okI (x1) 5 = true then
    ((f_X8_carry ((I (14) (x1).toNatClampNeg)) I).bind fun q3 =>
    (if okI (x1) 5 = true then
    (if okI (x1) 5 = true then
    ((f_X8_carry (((u2 q3.2 (14) (x1).toNatClampNeg (q3.1)) (15) (x1).toNatClampNeg)) (u2 q3.2 (14) (x1).toNatClampNeg (q3.1))).bind fun q7 =>
    (if okI (x1) 5 = true then
    (f_X8_carryTold_b38 fu (x1 + (1 : Int32)) ((u2 q7.2 (15) (x1).toNatClampNeg (q7.1))))
    else none))
    else none)
    else none))
    else none)
set_option maxHeartbeats 4000000 in
set_option maxRecDepth 100000 in
theorem c_X8_carryTold_b38 {z : CTX} {J : JS} (O : OK z cX8_carryTold RX8 2 SMod 36 (rm_ 1 21) none) : ∀ (fu : Nat) (x1 : Int32) (I : IS) (q : IS), f_X8_carryTold_b38 fu x1 I = some q → G z 38 [(0, .ref (0)), (1, .int (x1))] [] I J (none, q, J) := by
  intro fu
  induction fu with
  | zero =>
    intro x1 I q hF
    cases hF
  | succ fu ih =>
    intro x1 I q hF
    rw [f_X8_carryTold_b38] at hF
    refine g_iload_n O (pc := 38) dX8_carryTold_38 1 rfl ?_
    refine g_iconst O (pc := 39) dX8_carryTold_39 (ic_5) ?_
    refine g_icmp_ge O (pc := 40) 81 dX8_carryTold_40 (by decide) (fun h1 => ?_) (fun h1 => ?_)
    · rw [if_pos h1] at hF
      refine g_iconst O (pc := 81) dX8_carryTold_81 (ic_0) ?_
      refine g_istore_n O (pc := 82) (L' := [(1, .int ((0 : Int32))), (0, .ref (0))]) dX8_carryTold_82 (by decide) rfl ?_
      refine g_sub [1, 0] (L' := [(0, .ref (0)), (1, .int ((0 : Int32)))]) rfl ?_
      exact c_X8_carryTold_b83 O _ _ _ _ hF
    · rw [if_neg h1] at hF
      refine g_aload_n O (pc := 43) dX8_carryTold_43 0 rfl ?_
      refine g_getR O (pc := 44) isC_X8 dX8_carryTold_44 fw_X8_56 (by decide) fd_SMod_0_19 ?_
      refine g_iload_n O (pc := 47) dX8_carryTold_47 1 rfl ?_
      refine g_aload_n O (pc := 48) dX8_carryTold_48 0 rfl ?_
      refine g_aload_n O (pc := 49) dX8_carryTold_49 0 rfl ?_
      refine g_getR O (pc := 50) isC_X8 dX8_carryTold_50 fw_X8_56 (by decide) fd_SMod_0_19 ?_
      refine g_iload_n O (pc := 53) dX8_carryTold_53 1 rfl ?_
      obtain ⟨h2, hF⟩ := gd hF
      refine g_il O (pc := 54) dX8_carryTold_54 ar_SMod_14 h2 ?_
      obtain ⟨q3, e4, hF⟩ := bnd hF
      refine g_Vi O (pc := 55) (st := [.int (x1), .ref (14)]) dX8_carryTold_55 (mc_X8_carry J e4) cb_X8_carry ml_X8_147 isC_X8 ob_SMod (zm0 _ _ _ _ _ _ _) (rmok (Nat.le_of_ble_eq_true rfl) (Nat.le_of_ble_eq_true rfl)) (Nat.le_of_ble_eq_true rfl) rfl ?_
      obtain ⟨h5, hF⟩ := gd hF
      refine g_is O (pc := 58) dX8_carryTold_58 ar_SMod_14 h5 ?_
      refine g_aload_n O (pc := 59) dX8_carryTold_59 0 rfl ?_
      refine g_getR O (pc := 60) isC_X8 dX8_carryTold_60 fw_X8_59 (by decide) fd_SMod_0_20 ?_
      refine g_iload_n O (pc := 63) dX8_carryTold_63 1 rfl ?_
      refine g_aload_n O (pc := 64) dX8_carryTold_64 0 rfl ?_
      refine g_aload_n O (pc := 65) dX8_carryTold_65 0 rfl ?_
      refine g_getR O (pc := 66) isC_X8 dX8_carryTold_66 fw_X8_59 (by decide) fd_SMod_0_20 ?_
      refine g_iload_n O (pc := 69) dX8_carryTold_69 1 rfl ?_
      obtain ⟨h6, hF⟩ := gd hF
      refine g_il O (pc := 70) dX8_carryTold_70 ar_SMod_15 h6 ?_
      obtain ⟨q7, e8, hF⟩ := bnd hF
      refine g_Vi O (pc := 71) (st := [.int (x1), .ref (15)]) dX8_carryTold_71 (mc_X8_carry J e8) cb_X8_carry ml_X8_147 isC_X8 ob_SMod (zm0 _ _ _ _ _ _ _) (rmok (Nat.le_of_ble_eq_true rfl) (Nat.le_of_ble_eq_true rfl)) (Nat.le_of_ble_eq_true rfl) rfl ?_
      obtain ⟨h9, hF⟩ := gd hF
      refine g_is O (pc := 74) dX8_carryTold_74 ar_SMod_15 h9 ?_
      refine g_iinc O (pc := 75) (v := x1 + (1 : Int32)) (L' := [(1, .int (x1 + (1 : Int32))), (0, .ref (0))]) dX8_carryTold_75 1 rfl rfl (by decide) rfl ?_
      refine g_goto O (pc := 78) 38 dX8_carryTold_78 (by decide) ?_
      refine g_sub [1, 0] (L' := [(0, .ref (0)), (1, .int (x1 + (1 : Int32)))]) rfl ?_
      exact ih _ _ _ hF

def f_X8_carryTold (I : IS) : Option (IS) :=
  (f_X8_carry ((I (0) 18)) I).bind fun q1 =>
  ((f_X8_carry (((u2 q1.2 (0) 18 (q1.1)) (0) 21)) (u2 q1.2 (0) 18 (q1.1))).bind fun q3 =>
  ((f_X8_carry (((u2 q3.2 (0) 21 (q3.1)) (0) 24)) (u2 q3.2 (0) 21 (q3.1))).bind fun q5 =>
  (f_X8_carryTold_b38 LF ((0 : Int32)) ((u2 q5.2 (0) 24 (q5.1))))))
set_option maxHeartbeats 4000000 in
set_option maxRecDepth 100000 in
theorem c_X8_carryTold_e {z : CTX} {J : JS} (O : OK z cX8_carryTold RX8 2 SMod 36 (rm_ 1 21) none) : ∀ (I : IS) (q : IS), f_X8_carryTold I = some q → G z 0 [(0, .ref (0))] [] I J (none, q, J) := by
  intro I q hF
  rw [f_X8_carryTold] at hF
  refine g_aload_n O (pc := 0) dX8_carryTold_0 0 rfl ?_
  refine g_aload_n O (pc := 1) dX8_carryTold_1 0 rfl ?_
  refine g_aload_n O (pc := 2) dX8_carryTold_2 0 rfl ?_
  refine g_getI O (pc := 3) isC_X8 dX8_carryTold_3 fw_X8_144 (by decide) fd_SMod_0_18 ?_
  obtain ⟨q1, e2, hF⟩ := bnd hF
  refine g_Vi O (pc := 6) (st := [.ref (0)]) dX8_carryTold_6 (mc_X8_carry J e2) cb_X8_carry ml_X8_147 isC_X8 ob_SMod (zm0 _ _ _ _ _ _ _) (rmok (Nat.le_of_ble_eq_true rfl) (Nat.le_of_ble_eq_true rfl)) (Nat.le_of_ble_eq_true rfl) rfl ?_
  refine g_putI O (pc := 9) isC_X8 isT_X8 dX8_carryTold_9 fw_X8_144 (by decide) rfl rfl fd_SMod_0_18 ?_
  refine g_aload_n O (pc := 12) dX8_carryTold_12 0 rfl ?_
  refine g_aload_n O (pc := 13) dX8_carryTold_13 0 rfl ?_
  refine g_aload_n O (pc := 14) dX8_carryTold_14 0 rfl ?_
  refine g_getI O (pc := 15) isC_X8 dX8_carryTold_15 fw_X8_151 (by decide) fd_SMod_0_21 ?_
  obtain ⟨q3, e4, hF⟩ := bnd hF
  refine g_Vi O (pc := 18) (st := [.ref (0)]) dX8_carryTold_18 (mc_X8_carry J e4) cb_X8_carry ml_X8_147 isC_X8 ob_SMod (zm0 _ _ _ _ _ _ _) (rmok (Nat.le_of_ble_eq_true rfl) (Nat.le_of_ble_eq_true rfl)) (Nat.le_of_ble_eq_true rfl) rfl ?_
  refine g_putI O (pc := 21) isC_X8 isT_X8 dX8_carryTold_21 fw_X8_151 (by decide) rfl rfl fd_SMod_0_21 ?_
  refine g_aload_n O (pc := 24) dX8_carryTold_24 0 rfl ?_
  refine g_aload_n O (pc := 25) dX8_carryTold_25 0 rfl ?_
  refine g_aload_n O (pc := 26) dX8_carryTold_26 0 rfl ?_
  refine g_getI O (pc := 27) isC_X8 dX8_carryTold_27 fw_X8_154 (by decide) fd_SMod_0_24 ?_
  obtain ⟨q5, e6, hF⟩ := bnd hF
  refine g_Vi O (pc := 30) (st := [.ref (0)]) dX8_carryTold_30 (mc_X8_carry J e6) cb_X8_carry ml_X8_147 isC_X8 ob_SMod (zm0 _ _ _ _ _ _ _) (rmok (Nat.le_of_ble_eq_true rfl) (Nat.le_of_ble_eq_true rfl)) (Nat.le_of_ble_eq_true rfl) rfl ?_
  refine g_putI O (pc := 33) isC_X8 isT_X8 dX8_carryTold_33 fw_X8_154 (by decide) rfl rfl fd_SMod_0_24 ?_
  refine g_iconst O (pc := 36) dX8_carryTold_36 (ic_0) ?_
  refine g_istore_n O (pc := 37) (L' := [(1, .int ((0 : Int32))), (0, .ref (0))]) dX8_carryTold_37 (by decide) rfl ?_
  refine g_sub [1, 0] (L' := [(0, .ref (0)), (1, .int ((0 : Int32)))]) rfl ?_
  exact c_X8_carryTold_b38 O _ _ _ _ hF

theorem mc_X8_carryTold {I : IS} (J : JS) {q : IS} (hF : f_X8_carryTold I = some q) : MC yX8_carryTold cX8_carryTold 2 none (rm_ 1 21) SMod 36 [.ref (0)] I J (none, q, J) :=
  mc_of pn_X8 (Nat.le_of_ble_eq_true rfl) (fun z O => c_X8_carryTold_e O _ _ hF)

def f_X8_carryAll_b311 : Nat → Int32 → IS → Option (IS)
  | 0, _, _ => none
  | fu + 1, x3, I =>
    if (160 : Int32) ≤ x3 then
    ((f_X8_carryTold I).bind fun q2 =>
    (some (q2)))
    else
    (if okI (x3) 160 = true then
    ((f_X8_carry ((I (13) (x3).toNatClampNeg)) I).bind fun q5 =>
    (if okI (x3) 160 = true then
    (f_X8_carryAll_b311 fu (x3 + (1 : Int32)) ((u2 q5.2 (13) (x3).toNatClampNeg (q5.1))))
    else none))
    else none)
set_option maxHeartbeats 4000000 in
set_option maxRecDepth 100000 in
theorem c_X8_carryAll_b311 {z : CTX} {J : JS} (O : OK z cX8_carryAll RX8 4 SMod 36 (rm_ 2 42) none) : ∀ (fu : Nat) (x3 : Int32) (I : IS) (q : IS), f_X8_carryAll_b311 fu x3 I = some q → G z 311 [(0, .ref (0)), (3, .int (x3))] [] I J (none, q, J) := by
  intro fu
  induction fu with
  | zero =>
    intro x3 I q hF
    cases hF
  | succ fu ih =>
    intro x3 I q hF
    rw [f_X8_carryAll_b311] at hF
    refine g_iload_n O (pc := 311) dX8_carryAll_311 1 rfl ?_
    refine g_sipush O (pc := 312) dX8_carryAll_312 sp_160 ?_
    refine g_icmp_ge O (pc := 315) 340 dX8_carryAll_315 (by decide) (fun h1 => ?_) (fun h1 => ?_)
    · rw [if_pos h1] at hF
      refine g_aload_n O (pc := 340) dX8_carryAll_340 0 rfl ?_
      obtain ⟨q2, e3, hF⟩ := bnd hF
      refine g_Vv O (pc := 341) (st := []) dX8_carryAll_341 (mc_X8_carryTold J e3) cb_X8_carryTold ml_X8_163 isC_X8 ob_SMod (zm0 _ _ _ _ _ _ _) (rmok (Nat.le_of_ble_eq_true rfl) (Nat.le_of_ble_eq_true rfl)) (Nat.le_of_ble_eq_true rfl) rfl ?_
      obtain rfl := Option.some.inj hF
      exact g_return O (pc := 344) dX8_carryAll_344 rfl
    · rw [if_neg h1] at hF
      refine g_aload_n O (pc := 318) dX8_carryAll_318 0 rfl ?_
      refine g_getR O (pc := 319) isC_X8 dX8_carryAll_319 fw_X8_53 (by decide) fd_SMod_0_17 ?_
      refine g_iload_n O (pc := 322) dX8_carryAll_322 1 rfl ?_
      refine g_aload_n O (pc := 323) dX8_carryAll_323 0 rfl ?_
      refine g_aload_n O (pc := 324) dX8_carryAll_324 0 rfl ?_
      refine g_getR O (pc := 325) isC_X8 dX8_carryAll_325 fw_X8_53 (by decide) fd_SMod_0_17 ?_
      refine g_iload_n O (pc := 328) dX8_carryAll_328 1 rfl ?_
      obtain ⟨h4, hF⟩ := gd hF
      refine g_il O (pc := 329) dX8_carryAll_329 ar_SMod_13 h4 ?_
      obtain ⟨q5, e6, hF⟩ := bnd hF
      refine g_Vi O (pc := 330) (st := [.int (x3), .ref (13)]) dX8_carryAll_330 (mc_X8_carry J e6) cb_X8_carry ml_X8_147 isC_X8 ob_SMod (zm0 _ _ _ _ _ _ _) (rmok (Nat.le_of_ble_eq_true rfl) (Nat.le_of_ble_eq_true rfl)) (Nat.le_of_ble_eq_true rfl) rfl ?_
      obtain ⟨h7, hF⟩ := gd hF
      refine g_is O (pc := 333) dX8_carryAll_333 ar_SMod_13 h7 ?_
      refine g_iinc O (pc := 334) (v := x3 + (1 : Int32)) (L' := [(3, .int (x3 + (1 : Int32))), (0, .ref (0))]) dX8_carryAll_334 1 rfl rfl (by decide) rfl ?_
      refine g_goto O (pc := 337) 311 dX8_carryAll_337 (by decide) ?_
      refine g_sub [1, 0] (L' := [(0, .ref (0)), (3, .int (x3 + (1 : Int32)))]) rfl ?_
      exact ih _ _ _ hF

def f_X8_carryAll_b185 : Nat → Int32 → IS → Option (IS)
  | 0, _, _ => none
  | fu + 1, x3, I =>
    if (32 : Int32) ≤ x3 then
    (f_X8_carryAll_b311 LF ((0 : Int32)) (I))
    else
    (if okI (x3) 32 = true then
    ((f_X8_carry ((I (6) (x3).toNatClampNeg)) I).bind fun q3 =>
    (if okI (x3) 32 = true then
    (if okI (x3) 32 = true then
    ((f_X8_carry (((u2 q3.2 (6) (x3).toNatClampNeg (q3.1)) (7) (x3).toNatClampNeg)) (u2 q3.2 (6) (x3).toNatClampNeg (q3.1))).bind fun q7 =>
    (if okI (x3) 32 = true then
    (if okI (x3) 32 = true then
    ((f_X8_carry (((u2 q7.2 (7) (x3).toNatClampNeg (q7.1)) (8) (x3).toNatClampNeg)) (u2 q7.2 (7) (x3).toNatClampNeg (q7.1))).bind fun q11 =>
    (if okI (x3) 32 = true then
    (if okI (x3) 32 = true then
    ((f_X8_carry (((u2 q11.2 (8) (x3).toNatClampNeg (q11.1)) (9) (x3).toNatClampNeg)) (u2 q11.2 (8) (x3).toNatClampNeg (q11.1))).bind fun q15 =>
    (if okI (x3) 32 = true then
    (if okI (x3) 32 = true then
    ((f_X8_carry (((u2 q15.2 (9) (x3).toNatClampNeg (q15.1)) (10) (x3).toNatClampNeg)) (u2 q15.2 (9) (x3).toNatClampNeg (q15.1))).bind fun q19 =>
    (if okI (x3) 32 = true then
    (if okI (x3) 32 = true then
    ((f_X8_carry (((u2 q19.2 (10) (x3).toNatClampNeg (q19.1)) (11) (x3).toNatClampNeg)) (u2 q19.2 (10) (x3).toNatClampNeg (q19.1))).bind fun q23 =>
    (if okI (x3) 32 = true then
    (if okI (x3) 32 = true then
    ((f_X8_carry (((u2 q23.2 (11) (x3).toNatClampNeg (q23.1)) (12) (x3).toNatClampNeg)) (u2 q23.2 (11) (x3).toNatClampNeg (q23.1))).bind fun q27 =>
    (if okI (x3) 32 = true then
    (f_X8_carryAll_b185 fu (x3 + (1 : Int32)) ((u2 q27.2 (12) (x3).toNatClampNeg (q27.1))))
    else none))
    else none)
    else none))
    else none)
    else none))
    else none)
    else none))
    else none)
    else none))
    else none)
    else none))
    else none)
    else none))
    else none)
set_option maxHeartbeats 4000000 in
set_option maxRecDepth 100000 in
theorem c_X8_carryAll_b185 {z : CTX} {J : JS} (O : OK z cX8_carryAll RX8 4 SMod 36 (rm_ 2 42) none) : ∀ (fu : Nat) (x3 : Int32) (I : IS) (q : IS), f_X8_carryAll_b185 fu x3 I = some q → G z 185 [(0, .ref (0)), (3, .int (x3))] [] I J (none, q, J) := by
  intro fu
  induction fu with
  | zero =>
    intro x3 I q hF
    cases hF
  | succ fu ih =>
    intro x3 I q hF
    rw [f_X8_carryAll_b185] at hF
    refine g_iload_n O (pc := 185) dX8_carryAll_185 1 rfl ?_
    refine g_bipush O (pc := 186) dX8_carryAll_186 bp_32 ?_
    refine g_icmp_ge O (pc := 188) 309 dX8_carryAll_188 (by decide) (fun h1 => ?_) (fun h1 => ?_)
    · rw [if_pos h1] at hF
      refine g_iconst O (pc := 309) dX8_carryAll_309 (ic_0) ?_
      refine g_istore_n O (pc := 310) (L' := [(3, .int ((0 : Int32))), (0, .ref (0))]) dX8_carryAll_310 (by decide) rfl ?_
      refine g_sub [1, 0] (L' := [(0, .ref (0)), (3, .int ((0 : Int32)))]) rfl ?_
      exact c_X8_carryAll_b311 O _ _ _ _ hF
    · rw [if_neg h1] at hF
      refine g_aload_n O (pc := 191) dX8_carryAll_191 0 rfl ?_
      refine g_getR O (pc := 192) isC_X8 dX8_carryAll_192 fw_X8_29 (by decide) fd_SMod_0_7 ?_
      refine g_iload_n O (pc := 195) dX8_carryAll_195 1 rfl ?_
      refine g_aload_n O (pc := 196) dX8_carryAll_196 0 rfl ?_
      refine g_aload_n O (pc := 197) dX8_carryAll_197 0 rfl ?_
      refine g_getR O (pc := 198) isC_X8 dX8_carryAll_198 fw_X8_29 (by decide) fd_SMod_0_7 ?_
      refine g_iload_n O (pc := 201) dX8_carryAll_201 1 rfl ?_
      obtain ⟨h2, hF⟩ := gd hF
      refine g_il O (pc := 202) dX8_carryAll_202 ar_SMod_6 h2 ?_
      obtain ⟨q3, e4, hF⟩ := bnd hF
      refine g_Vi O (pc := 203) (st := [.int (x3), .ref (6)]) dX8_carryAll_203 (mc_X8_carry J e4) cb_X8_carry ml_X8_147 isC_X8 ob_SMod (zm0 _ _ _ _ _ _ _) (rmok (Nat.le_of_ble_eq_true rfl) (Nat.le_of_ble_eq_true rfl)) (Nat.le_of_ble_eq_true rfl) rfl ?_
      obtain ⟨h5, hF⟩ := gd hF
      refine g_is O (pc := 206) dX8_carryAll_206 ar_SMod_6 h5 ?_
      refine g_aload_n O (pc := 207) dX8_carryAll_207 0 rfl ?_
      refine g_getR O (pc := 208) isC_X8 dX8_carryAll_208 fw_X8_32 (by decide) fd_SMod_0_8 ?_
      refine g_iload_n O (pc := 211) dX8_carryAll_211 1 rfl ?_
      refine g_aload_n O (pc := 212) dX8_carryAll_212 0 rfl ?_
      refine g_aload_n O (pc := 213) dX8_carryAll_213 0 rfl ?_
      refine g_getR O (pc := 214) isC_X8 dX8_carryAll_214 fw_X8_32 (by decide) fd_SMod_0_8 ?_
      refine g_iload_n O (pc := 217) dX8_carryAll_217 1 rfl ?_
      obtain ⟨h6, hF⟩ := gd hF
      refine g_il O (pc := 218) dX8_carryAll_218 ar_SMod_7 h6 ?_
      obtain ⟨q7, e8, hF⟩ := bnd hF
      refine g_Vi O (pc := 219) (st := [.int (x3), .ref (7)]) dX8_carryAll_219 (mc_X8_carry J e8) cb_X8_carry ml_X8_147 isC_X8 ob_SMod (zm0 _ _ _ _ _ _ _) (rmok (Nat.le_of_ble_eq_true rfl) (Nat.le_of_ble_eq_true rfl)) (Nat.le_of_ble_eq_true rfl) rfl ?_
      obtain ⟨h9, hF⟩ := gd hF
      refine g_is O (pc := 222) dX8_carryAll_222 ar_SMod_7 h9 ?_
      refine g_aload_n O (pc := 223) dX8_carryAll_223 0 rfl ?_
      refine g_getR O (pc := 224) isC_X8 dX8_carryAll_224 fw_X8_35 (by decide) fd_SMod_0_9 ?_
      refine g_iload_n O (pc := 227) dX8_carryAll_227 1 rfl ?_
      refine g_aload_n O (pc := 228) dX8_carryAll_228 0 rfl ?_
      refine g_aload_n O (pc := 229) dX8_carryAll_229 0 rfl ?_
      refine g_getR O (pc := 230) isC_X8 dX8_carryAll_230 fw_X8_35 (by decide) fd_SMod_0_9 ?_
      refine g_iload_n O (pc := 233) dX8_carryAll_233 1 rfl ?_
      obtain ⟨h10, hF⟩ := gd hF
      refine g_il O (pc := 234) dX8_carryAll_234 ar_SMod_8 h10 ?_
      obtain ⟨q11, e12, hF⟩ := bnd hF
      refine g_Vi O (pc := 235) (st := [.int (x3), .ref (8)]) dX8_carryAll_235 (mc_X8_carry J e12) cb_X8_carry ml_X8_147 isC_X8 ob_SMod (zm0 _ _ _ _ _ _ _) (rmok (Nat.le_of_ble_eq_true rfl) (Nat.le_of_ble_eq_true rfl)) (Nat.le_of_ble_eq_true rfl) rfl ?_
      obtain ⟨h13, hF⟩ := gd hF
      refine g_is O (pc := 238) dX8_carryAll_238 ar_SMod_8 h13 ?_
      refine g_aload_n O (pc := 239) dX8_carryAll_239 0 rfl ?_
      refine g_getR O (pc := 240) isC_X8 dX8_carryAll_240 fw_X8_38 (by decide) fd_SMod_0_10 ?_
      refine g_iload_n O (pc := 243) dX8_carryAll_243 1 rfl ?_
      refine g_aload_n O (pc := 244) dX8_carryAll_244 0 rfl ?_
      refine g_aload_n O (pc := 245) dX8_carryAll_245 0 rfl ?_
      refine g_getR O (pc := 246) isC_X8 dX8_carryAll_246 fw_X8_38 (by decide) fd_SMod_0_10 ?_
      refine g_iload_n O (pc := 249) dX8_carryAll_249 1 rfl ?_
      obtain ⟨h14, hF⟩ := gd hF
      refine g_il O (pc := 250) dX8_carryAll_250 ar_SMod_9 h14 ?_
      obtain ⟨q15, e16, hF⟩ := bnd hF
      refine g_Vi O (pc := 251) (st := [.int (x3), .ref (9)]) dX8_carryAll_251 (mc_X8_carry J e16) cb_X8_carry ml_X8_147 isC_X8 ob_SMod (zm0 _ _ _ _ _ _ _) (rmok (Nat.le_of_ble_eq_true rfl) (Nat.le_of_ble_eq_true rfl)) (Nat.le_of_ble_eq_true rfl) rfl ?_
      obtain ⟨h17, hF⟩ := gd hF
      refine g_is O (pc := 254) dX8_carryAll_254 ar_SMod_9 h17 ?_
      refine g_aload_n O (pc := 255) dX8_carryAll_255 0 rfl ?_
      refine g_getR O (pc := 256) isC_X8 dX8_carryAll_256 fw_X8_41 (by decide) fd_SMod_0_11 ?_
      refine g_iload_n O (pc := 259) dX8_carryAll_259 1 rfl ?_
      refine g_aload_n O (pc := 260) dX8_carryAll_260 0 rfl ?_
      refine g_aload_n O (pc := 261) dX8_carryAll_261 0 rfl ?_
      refine g_getR O (pc := 262) isC_X8 dX8_carryAll_262 fw_X8_41 (by decide) fd_SMod_0_11 ?_
      refine g_iload_n O (pc := 265) dX8_carryAll_265 1 rfl ?_
      obtain ⟨h18, hF⟩ := gd hF
      refine g_il O (pc := 266) dX8_carryAll_266 ar_SMod_10 h18 ?_
      obtain ⟨q19, e20, hF⟩ := bnd hF
      refine g_Vi O (pc := 267) (st := [.int (x3), .ref (10)]) dX8_carryAll_267 (mc_X8_carry J e20) cb_X8_carry ml_X8_147 isC_X8 ob_SMod (zm0 _ _ _ _ _ _ _) (rmok (Nat.le_of_ble_eq_true rfl) (Nat.le_of_ble_eq_true rfl)) (Nat.le_of_ble_eq_true rfl) rfl ?_
      obtain ⟨h21, hF⟩ := gd hF
      refine g_is O (pc := 270) dX8_carryAll_270 ar_SMod_10 h21 ?_
      refine g_aload_n O (pc := 271) dX8_carryAll_271 0 rfl ?_
      refine g_getR O (pc := 272) isC_X8 dX8_carryAll_272 fw_X8_44 (by decide) fd_SMod_0_12 ?_
      refine g_iload_n O (pc := 275) dX8_carryAll_275 1 rfl ?_
      refine g_aload_n O (pc := 276) dX8_carryAll_276 0 rfl ?_
      refine g_aload_n O (pc := 277) dX8_carryAll_277 0 rfl ?_
      refine g_getR O (pc := 278) isC_X8 dX8_carryAll_278 fw_X8_44 (by decide) fd_SMod_0_12 ?_
      refine g_iload_n O (pc := 281) dX8_carryAll_281 1 rfl ?_
      obtain ⟨h22, hF⟩ := gd hF
      refine g_il O (pc := 282) dX8_carryAll_282 ar_SMod_11 h22 ?_
      obtain ⟨q23, e24, hF⟩ := bnd hF
      refine g_Vi O (pc := 283) (st := [.int (x3), .ref (11)]) dX8_carryAll_283 (mc_X8_carry J e24) cb_X8_carry ml_X8_147 isC_X8 ob_SMod (zm0 _ _ _ _ _ _ _) (rmok (Nat.le_of_ble_eq_true rfl) (Nat.le_of_ble_eq_true rfl)) (Nat.le_of_ble_eq_true rfl) rfl ?_
      obtain ⟨h25, hF⟩ := gd hF
      refine g_is O (pc := 286) dX8_carryAll_286 ar_SMod_11 h25 ?_
      refine g_aload_n O (pc := 287) dX8_carryAll_287 0 rfl ?_
      refine g_getR O (pc := 288) isC_X8 dX8_carryAll_288 fw_X8_47 (by decide) fd_SMod_0_13 ?_
      refine g_iload_n O (pc := 291) dX8_carryAll_291 1 rfl ?_
      refine g_aload_n O (pc := 292) dX8_carryAll_292 0 rfl ?_
      refine g_aload_n O (pc := 293) dX8_carryAll_293 0 rfl ?_
      refine g_getR O (pc := 294) isC_X8 dX8_carryAll_294 fw_X8_47 (by decide) fd_SMod_0_13 ?_
      refine g_iload_n O (pc := 297) dX8_carryAll_297 1 rfl ?_
      obtain ⟨h26, hF⟩ := gd hF
      refine g_il O (pc := 298) dX8_carryAll_298 ar_SMod_12 h26 ?_
      obtain ⟨q27, e28, hF⟩ := bnd hF
      refine g_Vi O (pc := 299) (st := [.int (x3), .ref (12)]) dX8_carryAll_299 (mc_X8_carry J e28) cb_X8_carry ml_X8_147 isC_X8 ob_SMod (zm0 _ _ _ _ _ _ _) (rmok (Nat.le_of_ble_eq_true rfl) (Nat.le_of_ble_eq_true rfl)) (Nat.le_of_ble_eq_true rfl) rfl ?_
      obtain ⟨h29, hF⟩ := gd hF
      refine g_is O (pc := 302) dX8_carryAll_302 ar_SMod_12 h29 ?_
      refine g_iinc O (pc := 303) (v := x3 + (1 : Int32)) (L' := [(3, .int (x3 + (1 : Int32))), (0, .ref (0))]) dX8_carryAll_303 1 rfl rfl (by decide) rfl ?_
      refine g_goto O (pc := 306) 185 dX8_carryAll_306 (by decide) ?_
      refine g_sub [1, 0] (L' := [(0, .ref (0)), (3, .int (x3 + (1 : Int32)))]) rfl ?_
      exact ih _ _ _ hF

def f_X8_carryAll_b154 : Nat → Int32 → IS → Option (IS)
  | 0, _, _ => none
  | fu + 1, x3, I =>
    if (128 : Int32) ≤ x3 then
    (f_X8_carryAll_b185 LF ((0 : Int32)) (I))
    else
    (if okI (x3) 128 = true then
    ((f_X8_carry ((I (2) (x3).toNatClampNeg)) I).bind fun q3 =>
    (if okI (x3) 128 = true then
    (f_X8_carryAll_b154 fu (x3 + (1 : Int32)) ((u2 q3.2 (2) (x3).toNatClampNeg (q3.1))))
    else none))
    else none)
set_option maxHeartbeats 4000000 in
set_option maxRecDepth 100000 in
theorem c_X8_carryAll_b154 {z : CTX} {J : JS} (O : OK z cX8_carryAll RX8 4 SMod 36 (rm_ 2 42) none) : ∀ (fu : Nat) (x3 : Int32) (I : IS) (q : IS), f_X8_carryAll_b154 fu x3 I = some q → G z 154 [(0, .ref (0)), (3, .int (x3))] [] I J (none, q, J) := by
  intro fu
  induction fu with
  | zero =>
    intro x3 I q hF
    cases hF
  | succ fu ih =>
    intro x3 I q hF
    rw [f_X8_carryAll_b154] at hF
    refine g_iload_n O (pc := 154) dX8_carryAll_154 1 rfl ?_
    refine g_sipush O (pc := 155) dX8_carryAll_155 sp_128 ?_
    refine g_icmp_ge O (pc := 158) 183 dX8_carryAll_158 (by decide) (fun h1 => ?_) (fun h1 => ?_)
    · rw [if_pos h1] at hF
      refine g_iconst O (pc := 183) dX8_carryAll_183 (ic_0) ?_
      refine g_istore_n O (pc := 184) (L' := [(3, .int ((0 : Int32))), (0, .ref (0))]) dX8_carryAll_184 (by decide) rfl ?_
      refine g_sub [1, 0] (L' := [(0, .ref (0)), (3, .int ((0 : Int32)))]) rfl ?_
      exact c_X8_carryAll_b185 O _ _ _ _ hF
    · rw [if_neg h1] at hF
      refine g_aload_n O (pc := 161) dX8_carryAll_161 0 rfl ?_
      refine g_getR O (pc := 162) isC_X8 dX8_carryAll_162 fw_X8_17 (by decide) fd_SMod_0_2 ?_
      refine g_iload_n O (pc := 165) dX8_carryAll_165 1 rfl ?_
      refine g_aload_n O (pc := 166) dX8_carryAll_166 0 rfl ?_
      refine g_aload_n O (pc := 167) dX8_carryAll_167 0 rfl ?_
      refine g_getR O (pc := 168) isC_X8 dX8_carryAll_168 fw_X8_17 (by decide) fd_SMod_0_2 ?_
      refine g_iload_n O (pc := 171) dX8_carryAll_171 1 rfl ?_
      obtain ⟨h2, hF⟩ := gd hF
      refine g_il O (pc := 172) dX8_carryAll_172 ar_SMod_2 h2 ?_
      obtain ⟨q3, e4, hF⟩ := bnd hF
      refine g_Vi O (pc := 173) (st := [.int (x3), .ref (2)]) dX8_carryAll_173 (mc_X8_carry J e4) cb_X8_carry ml_X8_147 isC_X8 ob_SMod (zm0 _ _ _ _ _ _ _) (rmok (Nat.le_of_ble_eq_true rfl) (Nat.le_of_ble_eq_true rfl)) (Nat.le_of_ble_eq_true rfl) rfl ?_
      obtain ⟨h5, hF⟩ := gd hF
      refine g_is O (pc := 176) dX8_carryAll_176 ar_SMod_2 h5 ?_
      refine g_iinc O (pc := 177) (v := x3 + (1 : Int32)) (L' := [(3, .int (x3 + (1 : Int32))), (0, .ref (0))]) dX8_carryAll_177 1 rfl rfl (by decide) rfl ?_
      refine g_goto O (pc := 180) 154 dX8_carryAll_180 (by decide) ?_
      refine g_sub [1, 0] (L' := [(0, .ref (0)), (3, .int (x3 + (1 : Int32)))]) rfl ?_
      exact ih _ _ _ hF

def f_X8_carryAll_b77 : Nat → Int32 → IS → Option (IS)
  | 0, _, _ => none
  | fu + 1, x3, I =>
    if (4 : Int32) ≤ x3 then
    (f_X8_carryAll_b154 LF ((0 : Int32)) (I))
    else
    (if okI (x3) 4 = true then
    ((f_X8_carry ((I (1) (x3).toNatClampNeg)) I).bind fun q3 =>
    (if okI (x3) 4 = true then
    (if okI (x3) 4 = true then
    ((f_X8_carry (((u2 q3.2 (1) (x3).toNatClampNeg (q3.1)) (3) (x3).toNatClampNeg)) (u2 q3.2 (1) (x3).toNatClampNeg (q3.1))).bind fun q7 =>
    (if okI (x3) 4 = true then
    (if okI (x3) 4 = true then
    ((f_X8_carry (((u2 q7.2 (3) (x3).toNatClampNeg (q7.1)) (4) (x3).toNatClampNeg)) (u2 q7.2 (3) (x3).toNatClampNeg (q7.1))).bind fun q11 =>
    (if okI (x3) 4 = true then
    (if okI (x3) 4 = true then
    ((f_X8_carry (((u2 q11.2 (4) (x3).toNatClampNeg (q11.1)) (5) (x3).toNatClampNeg)) (u2 q11.2 (4) (x3).toNatClampNeg (q11.1))).bind fun q15 =>
    (if okI (x3) 4 = true then
    (f_X8_carryAll_b77 fu (x3 + (1 : Int32)) ((u2 q15.2 (5) (x3).toNatClampNeg (q15.1))))
    else none))
    else none)
    else none))
    else none)
    else none))
    else none)
    else none))
    else none)
set_option maxHeartbeats 4000000 in
set_option maxRecDepth 100000 in
theorem c_X8_carryAll_b77 {z : CTX} {J : JS} (O : OK z cX8_carryAll RX8 4 SMod 36 (rm_ 2 42) none) : ∀ (fu : Nat) (x3 : Int32) (I : IS) (q : IS), f_X8_carryAll_b77 fu x3 I = some q → G z 77 [(0, .ref (0)), (3, .int (x3))] [] I J (none, q, J) := by
  intro fu
  induction fu with
  | zero =>
    intro x3 I q hF
    cases hF
  | succ fu ih =>
    intro x3 I q hF
    rw [f_X8_carryAll_b77] at hF
    refine g_iload_n O (pc := 77) dX8_carryAll_77 1 rfl ?_
    refine g_iconst O (pc := 78) dX8_carryAll_78 (ic_4) ?_
    refine g_icmp_ge O (pc := 79) 152 dX8_carryAll_79 (by decide) (fun h1 => ?_) (fun h1 => ?_)
    · rw [if_pos h1] at hF
      refine g_iconst O (pc := 152) dX8_carryAll_152 (ic_0) ?_
      refine g_istore_n O (pc := 153) (L' := [(3, .int ((0 : Int32))), (0, .ref (0))]) dX8_carryAll_153 (by decide) rfl ?_
      refine g_sub [1, 0] (L' := [(0, .ref (0)), (3, .int ((0 : Int32)))]) rfl ?_
      exact c_X8_carryAll_b154 O _ _ _ _ hF
    · rw [if_neg h1] at hF
      refine g_aload_n O (pc := 82) dX8_carryAll_82 0 rfl ?_
      refine g_getR O (pc := 83) isC_X8 dX8_carryAll_83 fw_X8_13 (by decide) fd_SMod_0_1 ?_
      refine g_iload_n O (pc := 86) dX8_carryAll_86 1 rfl ?_
      refine g_aload_n O (pc := 87) dX8_carryAll_87 0 rfl ?_
      refine g_aload_n O (pc := 88) dX8_carryAll_88 0 rfl ?_
      refine g_getR O (pc := 89) isC_X8 dX8_carryAll_89 fw_X8_13 (by decide) fd_SMod_0_1 ?_
      refine g_iload_n O (pc := 92) dX8_carryAll_92 1 rfl ?_
      obtain ⟨h2, hF⟩ := gd hF
      refine g_il O (pc := 93) dX8_carryAll_93 ar_SMod_1 h2 ?_
      obtain ⟨q3, e4, hF⟩ := bnd hF
      refine g_Vi O (pc := 94) (st := [.int (x3), .ref (1)]) dX8_carryAll_94 (mc_X8_carry J e4) cb_X8_carry ml_X8_147 isC_X8 ob_SMod (zm0 _ _ _ _ _ _ _) (rmok (Nat.le_of_ble_eq_true rfl) (Nat.le_of_ble_eq_true rfl)) (Nat.le_of_ble_eq_true rfl) rfl ?_
      obtain ⟨h5, hF⟩ := gd hF
      refine g_is O (pc := 97) dX8_carryAll_97 ar_SMod_1 h5 ?_
      refine g_aload_n O (pc := 98) dX8_carryAll_98 0 rfl ?_
      refine g_getR O (pc := 99) isC_X8 dX8_carryAll_99 fw_X8_20 (by decide) fd_SMod_0_3 ?_
      refine g_iload_n O (pc := 102) dX8_carryAll_102 1 rfl ?_
      refine g_aload_n O (pc := 103) dX8_carryAll_103 0 rfl ?_
      refine g_aload_n O (pc := 104) dX8_carryAll_104 0 rfl ?_
      refine g_getR O (pc := 105) isC_X8 dX8_carryAll_105 fw_X8_20 (by decide) fd_SMod_0_3 ?_
      refine g_iload_n O (pc := 108) dX8_carryAll_108 1 rfl ?_
      obtain ⟨h6, hF⟩ := gd hF
      refine g_il O (pc := 109) dX8_carryAll_109 ar_SMod_3 h6 ?_
      obtain ⟨q7, e8, hF⟩ := bnd hF
      refine g_Vi O (pc := 110) (st := [.int (x3), .ref (3)]) dX8_carryAll_110 (mc_X8_carry J e8) cb_X8_carry ml_X8_147 isC_X8 ob_SMod (zm0 _ _ _ _ _ _ _) (rmok (Nat.le_of_ble_eq_true rfl) (Nat.le_of_ble_eq_true rfl)) (Nat.le_of_ble_eq_true rfl) rfl ?_
      obtain ⟨h9, hF⟩ := gd hF
      refine g_is O (pc := 113) dX8_carryAll_113 ar_SMod_3 h9 ?_
      refine g_aload_n O (pc := 114) dX8_carryAll_114 0 rfl ?_
      refine g_getR O (pc := 115) isC_X8 dX8_carryAll_115 fw_X8_23 (by decide) fd_SMod_0_4 ?_
      refine g_iload_n O (pc := 118) dX8_carryAll_118 1 rfl ?_
      refine g_aload_n O (pc := 119) dX8_carryAll_119 0 rfl ?_
      refine g_aload_n O (pc := 120) dX8_carryAll_120 0 rfl ?_
      refine g_getR O (pc := 121) isC_X8 dX8_carryAll_121 fw_X8_23 (by decide) fd_SMod_0_4 ?_
      refine g_iload_n O (pc := 124) dX8_carryAll_124 1 rfl ?_
      obtain ⟨h10, hF⟩ := gd hF
      refine g_il O (pc := 125) dX8_carryAll_125 ar_SMod_4 h10 ?_
      obtain ⟨q11, e12, hF⟩ := bnd hF
      refine g_Vi O (pc := 126) (st := [.int (x3), .ref (4)]) dX8_carryAll_126 (mc_X8_carry J e12) cb_X8_carry ml_X8_147 isC_X8 ob_SMod (zm0 _ _ _ _ _ _ _) (rmok (Nat.le_of_ble_eq_true rfl) (Nat.le_of_ble_eq_true rfl)) (Nat.le_of_ble_eq_true rfl) rfl ?_
      obtain ⟨h13, hF⟩ := gd hF
      refine g_is O (pc := 129) dX8_carryAll_129 ar_SMod_4 h13 ?_
      refine g_aload_n O (pc := 130) dX8_carryAll_130 0 rfl ?_
      refine g_getR O (pc := 131) isC_X8 dX8_carryAll_131 fw_X8_26 (by decide) fd_SMod_0_5 ?_
      refine g_iload_n O (pc := 134) dX8_carryAll_134 1 rfl ?_
      refine g_aload_n O (pc := 135) dX8_carryAll_135 0 rfl ?_
      refine g_aload_n O (pc := 136) dX8_carryAll_136 0 rfl ?_
      refine g_getR O (pc := 137) isC_X8 dX8_carryAll_137 fw_X8_26 (by decide) fd_SMod_0_5 ?_
      refine g_iload_n O (pc := 140) dX8_carryAll_140 1 rfl ?_
      obtain ⟨h14, hF⟩ := gd hF
      refine g_il O (pc := 141) dX8_carryAll_141 ar_SMod_5 h14 ?_
      obtain ⟨q15, e16, hF⟩ := bnd hF
      refine g_Vi O (pc := 142) (st := [.int (x3), .ref (5)]) dX8_carryAll_142 (mc_X8_carry J e16) cb_X8_carry ml_X8_147 isC_X8 ob_SMod (zm0 _ _ _ _ _ _ _) (rmok (Nat.le_of_ble_eq_true rfl) (Nat.le_of_ble_eq_true rfl)) (Nat.le_of_ble_eq_true rfl) rfl ?_
      obtain ⟨h17, hF⟩ := gd hF
      refine g_is O (pc := 145) dX8_carryAll_145 ar_SMod_5 h17 ?_
      refine g_iinc O (pc := 146) (v := x3 + (1 : Int32)) (L' := [(3, .int (x3 + (1 : Int32))), (0, .ref (0))]) dX8_carryAll_146 1 rfl rfl (by decide) rfl ?_
      refine g_goto O (pc := 149) 77 dX8_carryAll_149 (by decide) ?_
      refine g_sub [1, 0] (L' := [(0, .ref (0)), (3, .int (x3 + (1 : Int32)))]) rfl ?_
      exact ih _ _ _ hF

def f_X8_carryAll (r1 : Nat) (x2 : Int32) (I : IS) : Option (IS) :=
  (cdR (r1) 20 21).bind fun c1 =>
  (if okZ (x2) = true then
  ((f_X8_carry (((u2 (u2 (u2 I (0) 35 c1) (0) 34 (x2)) (0) 33 ((0 : Int32))) (0) 0)) (u2 (u2 (u2 I (0) 35 c1) (0) 34 (x2)) (0) 33 ((0 : Int32)))).bind fun q4 =>
  ((f_X8_carry (((u2 q4.2 (0) 0 (q4.1)) (0) 6)) (u2 q4.2 (0) 0 (q4.1))).bind fun q6 =>
  ((f_X8_carry (((u2 q6.2 (0) 6 (q6.1)) (0) 14)) (u2 q6.2 (0) 6 (q6.1))).bind fun q8 =>
  ((f_X8_carry (((u2 q8.2 (0) 14 (q8.1)) (0) 15)) (u2 q8.2 (0) 14 (q8.1))).bind fun q10 =>
  ((f_X8_carry (((u2 q10.2 (0) 15 (q10.1)) (0) 16)) (u2 q10.2 (0) 15 (q10.1))).bind fun q12 =>
  (f_X8_carryAll_b77 LF ((0 : Int32)) ((u2 q12.2 (0) 16 (q12.1)))))))))
  else none)
set_option maxHeartbeats 4000000 in
set_option maxRecDepth 100000 in
theorem c_X8_carryAll_e {z : CTX} {J : JS} (O : OK z cX8_carryAll RX8 4 SMod 36 (rm_ 2 42) none) : ∀ (r1 : Nat) (x2 : Int32) (I : IS) (q : IS), f_X8_carryAll r1 x2 I = some q → G z 0 [(0, .ref (0)), (1, .ref (r1)), (2, .int (x2))] [] I J (none, q, J) := by
  intro r1 x2 I q hF
  rw [f_X8_carryAll] at hF
  refine g_aload_n O (pc := 0) dX8_carryAll_0 0 rfl ?_
  refine g_aload_n O (pc := 1) dX8_carryAll_1 1 rfl ?_
  obtain ⟨c1, h2, hF⟩ := bnd hF
  refine g_putC O (pc := 2) isC_X8 isT_X8 dX8_carryAll_2 fw_X8_138 (by decide) rfl rfl fd_SMod_0_35 h2 ?_
  refine g_aload_n O (pc := 5) dX8_carryAll_5 0 rfl ?_
  refine g_iload_n O (pc := 6) dX8_carryAll_6 2 rfl ?_
  obtain ⟨h3, hF⟩ := gd hF
  refine g_putZ O (pc := 7) isC_X8 isT_X8 dX8_carryAll_7 fw_X8_134 (by decide) rfl rfl h3 fd_SMod_0_34 ?_
  refine g_aload_n O (pc := 10) dX8_carryAll_10 0 rfl ?_
  refine g_iconst O (pc := 11) dX8_carryAll_11 (ic_0) ?_
  refine g_putI O (pc := 12) isC_X8 isT_X8 dX8_carryAll_12 fw_X8_141 (by decide) rfl rfl fd_SMod_0_33 ?_
  refine g_aload_n O (pc := 15) dX8_carryAll_15 0 rfl ?_
  refine g_aload_n O (pc := 16) dX8_carryAll_16 0 rfl ?_
  refine g_aload_n O (pc := 17) dX8_carryAll_17 0 rfl ?_
  refine g_getI O (pc := 18) isC_X8 dX8_carryAll_18 fw_X8_7 (by decide) fd_SMod_0_0 ?_
  obtain ⟨q4, e5, hF⟩ := bnd hF
  refine g_Vi O (pc := 21) (st := [.ref (0)]) dX8_carryAll_21 (mc_X8_carry J e5) cb_X8_carry ml_X8_147 isC_X8 ob_SMod (zm0 _ _ _ _ _ _ _) (rmok (Nat.le_of_ble_eq_true rfl) (Nat.le_of_ble_eq_true rfl)) (Nat.le_of_ble_eq_true rfl) rfl ?_
  refine g_putI O (pc := 24) isC_X8 isT_X8 dX8_carryAll_24 fw_X8_7 (by decide) rfl rfl fd_SMod_0_0 ?_
  refine g_aload_n O (pc := 27) dX8_carryAll_27 0 rfl ?_
  refine g_aload_n O (pc := 28) dX8_carryAll_28 0 rfl ?_
  refine g_aload_n O (pc := 29) dX8_carryAll_29 0 rfl ?_
  refine g_getI O (pc := 30) isC_X8 dX8_carryAll_30 fw_X8_127 (by decide) fd_SMod_0_6 ?_
  obtain ⟨q6, e7, hF⟩ := bnd hF
  refine g_Vi O (pc := 33) (st := [.ref (0)]) dX8_carryAll_33 (mc_X8_carry J e7) cb_X8_carry ml_X8_147 isC_X8 ob_SMod (zm0 _ _ _ _ _ _ _) (rmok (Nat.le_of_ble_eq_true rfl) (Nat.le_of_ble_eq_true rfl)) (Nat.le_of_ble_eq_true rfl) rfl ?_
  refine g_putI O (pc := 36) isC_X8 isT_X8 dX8_carryAll_36 fw_X8_127 (by decide) rfl rfl fd_SMod_0_6 ?_
  refine g_aload_n O (pc := 39) dX8_carryAll_39 0 rfl ?_
  refine g_aload_n O (pc := 40) dX8_carryAll_40 0 rfl ?_
  refine g_aload_n O (pc := 41) dX8_carryAll_41 0 rfl ?_
  refine g_getI O (pc := 42) isC_X8 dX8_carryAll_42 fw_X8_50 (by decide) fd_SMod_0_14 ?_
  obtain ⟨q8, e9, hF⟩ := bnd hF
  refine g_Vi O (pc := 45) (st := [.ref (0)]) dX8_carryAll_45 (mc_X8_carry J e9) cb_X8_carry ml_X8_147 isC_X8 ob_SMod (zm0 _ _ _ _ _ _ _) (rmok (Nat.le_of_ble_eq_true rfl) (Nat.le_of_ble_eq_true rfl)) (Nat.le_of_ble_eq_true rfl) rfl ?_
  refine g_putI O (pc := 48) isC_X8 isT_X8 dX8_carryAll_48 fw_X8_50 (by decide) rfl rfl fd_SMod_0_14 ?_
  refine g_aload_n O (pc := 51) dX8_carryAll_51 0 rfl ?_
  refine g_aload_n O (pc := 52) dX8_carryAll_52 0 rfl ?_
  refine g_aload_n O (pc := 53) dX8_carryAll_53 0 rfl ?_
  refine g_getI O (pc := 54) isC_X8 dX8_carryAll_54 fw_X8_157 (by decide) fd_SMod_0_15 ?_
  obtain ⟨q10, e11, hF⟩ := bnd hF
  refine g_Vi O (pc := 57) (st := [.ref (0)]) dX8_carryAll_57 (mc_X8_carry J e11) cb_X8_carry ml_X8_147 isC_X8 ob_SMod (zm0 _ _ _ _ _ _ _) (rmok (Nat.le_of_ble_eq_true rfl) (Nat.le_of_ble_eq_true rfl)) (Nat.le_of_ble_eq_true rfl) rfl ?_
  refine g_putI O (pc := 60) isC_X8 isT_X8 dX8_carryAll_60 fw_X8_157 (by decide) rfl rfl fd_SMod_0_15 ?_
  refine g_aload_n O (pc := 63) dX8_carryAll_63 0 rfl ?_
  refine g_aload_n O (pc := 64) dX8_carryAll_64 0 rfl ?_
  refine g_aload_n O (pc := 65) dX8_carryAll_65 0 rfl ?_
  refine g_getI O (pc := 66) isC_X8 dX8_carryAll_66 fw_X8_160 (by decide) fd_SMod_0_16 ?_
  obtain ⟨q12, e13, hF⟩ := bnd hF
  refine g_Vi O (pc := 69) (st := [.ref (0)]) dX8_carryAll_69 (mc_X8_carry J e13) cb_X8_carry ml_X8_147 isC_X8 ob_SMod (zm0 _ _ _ _ _ _ _) (rmok (Nat.le_of_ble_eq_true rfl) (Nat.le_of_ble_eq_true rfl)) (Nat.le_of_ble_eq_true rfl) rfl ?_
  refine g_putI O (pc := 72) isC_X8 isT_X8 dX8_carryAll_72 fw_X8_160 (by decide) rfl rfl fd_SMod_0_16 ?_
  refine g_iconst O (pc := 75) dX8_carryAll_75 (ic_0) ?_
  refine g_istore_n O (pc := 76) (L' := [(3, .int ((0 : Int32))), (0, .ref (0)), (1, .ref (r1)), (2, .int (x2))]) dX8_carryAll_76 (by decide) rfl ?_
  refine g_sub [1, 0] (L' := [(0, .ref (0)), (3, .int ((0 : Int32)))]) rfl ?_
  exact c_X8_carryAll_b77 O _ _ _ _ hF

theorem mc_X8_carryAll {r1 : Nat} {x2 : Int32} {I : IS} (J : JS) {q : IS} (hF : f_X8_carryAll r1 x2 I = some q) : MC yX8_carryAll cX8_carryAll 4 none (rm_ 2 42) SMod 36 [.ref (0), .ref (r1), .int (x2)] I J (none, q, J) :=
  mc_of pn_X8 (Nat.le_of_ble_eq_true rfl) (fun z O => c_X8_carryAll_e O _ _ _ _ hF)

def f_X8_again (I : IS) : Option (IS) :=
  (f_X8_carryAll (20) ((0 : Int32)) I).bind fun q1 =>
  (some (q1))
set_option maxHeartbeats 4000000 in
set_option maxRecDepth 100000 in
theorem c_X8_again_e {z : CTX} {J : JS} (O : OK z cX8_again RX8 1 SMod 36 (rm_ 3 65) none) : ∀ (I : IS) (q : IS), f_X8_again I = some q → G z 0 [(0, .ref (0))] [] I J (none, q, J) := by
  intro I q hF
  rw [f_X8_again] at hF
  refine g_aload_n O (pc := 0) dX8_again_0 0 rfl ?_
  refine g_aload_n O (pc := 1) dX8_again_1 0 rfl ?_
  refine g_getR O (pc := 2) isC_X8 dX8_again_2 fw_X8_74 (by decide) fd_SMod_0_30 ?_
  refine g_iconst O (pc := 5) dX8_again_5 (ic_0) ?_
  obtain ⟨q1, e2, hF⟩ := bnd hF
  refine g_Vv O (pc := 6) (st := []) dX8_again_6 (mc_X8_carryAll J e2) cb_X8_carryAll ml_X8_166 isC_X8 ob_SMod (zm0 _ _ _ _ _ _ _) (rmok (Nat.le_of_ble_eq_true rfl) (Nat.le_of_ble_eq_true rfl)) (Nat.le_of_ble_eq_true rfl) rfl ?_
  obtain rfl := Option.some.inj hF
  exact g_return O (pc := 9) dX8_again_9 rfl

theorem mc_X8_again {I : IS} (J : JS) {q : IS} (hF : f_X8_again I = some q) : MC yX8_again cX8_again 1 none (rm_ 3 65) SMod 36 [.ref (0)] I J (none, q, J) :=
  mc_of pn_X8 (Nat.le_of_ble_eq_true rfl) (fun z O => c_X8_again_e O _ _ hF)

def f_X8_isEnded_b15 (s0 : Int32) (I : IS) : Option (Int32) :=
  if okZ (s0) = true then some (s0) else none
set_option maxHeartbeats 4000000 in
set_option maxRecDepth 100000 in
theorem c_X8_isEnded_b15 {z : CTX} {J : JS} (O : OK z cX8_isEnded RX8 2 SMod 36 (rm_ 0 0) (some .boolean)) : ∀ (s0 : Int32) (I : IS) (q : Int32), f_X8_isEnded_b15 s0 I = some q → G z 15 [] [.int (s0)] I J (some (.int q), I, J) := by
  intro s0 I q hF
  rw [f_X8_isEnded_b15] at hF
  obtain ⟨h1, hF⟩ := gd hF
  obtain rfl := Option.some.inj hF
  exact g_zreturn O (pc := 15) dX8_isEnded_15 h1 rfl

def f_X8_isEnded (x1 : Int32) (I : IS) : Option (Int32) :=
  if okI (x1) 32 = true then
  (if (I (6) (x1).toNatClampNeg) < (3 : Int32) then
  (f_X8_isEnded_b15 ((0 : Int32)) (I))
  else
  (f_X8_isEnded_b15 ((1 : Int32)) (I)))
  else none
set_option maxHeartbeats 4000000 in
set_option maxRecDepth 100000 in
theorem c_X8_isEnded_e {z : CTX} {J : JS} (O : OK z cX8_isEnded RX8 2 SMod 36 (rm_ 0 0) (some .boolean)) : ∀ (x1 : Int32) (I : IS) (q : Int32), f_X8_isEnded x1 I = some q → G z 0 [(0, .ref (0)), (1, .int (x1))] [] I J (some (.int q), I, J) := by
  intro x1 I q hF
  rw [f_X8_isEnded] at hF
  refine g_aload_n O (pc := 0) dX8_isEnded_0 0 rfl ?_
  refine g_getR O (pc := 1) isC_X8 dX8_isEnded_1 fw_X8_29 (by decide) fd_SMod_0_7 ?_
  refine g_iload_n O (pc := 4) dX8_isEnded_4 1 rfl ?_
  obtain ⟨h1, hF⟩ := gd hF
  refine g_il O (pc := 5) dX8_isEnded_5 ar_SMod_6 h1 ?_
  refine g_iconst O (pc := 6) dX8_isEnded_6 (ic_3) ?_
  refine g_icmp_lt O (pc := 7) 14 dX8_isEnded_7 (by decide) (fun h2 => ?_) (fun h2 => ?_)
  · rw [if_pos h2] at hF
    refine g_iconst O (pc := 14) dX8_isEnded_14 (ic_0) ?_
    refine g_sub [] (L' := []) rfl ?_
    exact c_X8_isEnded_b15 O _ _ _ hF
  · rw [if_neg h2] at hF
    refine g_iconst O (pc := 10) dX8_isEnded_10 (ic_1) ?_
    refine g_goto O (pc := 11) 15 dX8_isEnded_11 (by decide) ?_
    refine g_sub [] (L' := []) rfl ?_
    exact c_X8_isEnded_b15 O _ _ _ hF

theorem mc_X8_isEnded {x1 : Int32} {I : IS} (J : JS) {q : Int32} (hF : f_X8_isEnded x1 I = some q) : MC yX8_isEnded cX8_isEnded 2 (some .boolean) (rm_ 0 0) SMod 36 [.ref (0), .int (x1)] I J (some (.int q), I, J) :=
  mc_of pn_X8 (Nat.le_of_ble_eq_true rfl) (fun z O => c_X8_isEnded_e O _ _ _ hF)

def f_X8_allEnded_b39 (k4 : Int32 → Int32 → Int32 → IS → Option (Int32)) (x1 : Int32) (x3 : Int32) (s0 : Int32) (I : IS) : Option (Int32) :=
  k4 (x1) (s0) (x3 + (1 : Int32)) (I)
set_option maxHeartbeats 4000000 in
set_option maxRecDepth 100000 in
theorem c_X8_allEnded_b39 {z : CTX} {J : JS} (O : OK z cX8_allEnded RX8 4 SMod 36 (rm_ 1 21) (some .boolean)) {k4 : Int32 → Int32 → Int32 → IS → Option (Int32)} (hk4 : ∀ (x1 : Int32) (x2 : Int32) (x3 : Int32) (I : IS) (q : Int32), k4 x1 x2 x3 I = some q → G z 4 [(0, .ref (0)), (1, .int (x1)), (2, .int (x2)), (3, .int (x3))] [] I J (some (.int q), I, J)) : ∀ (x1 : Int32) (x3 : Int32) (s0 : Int32) (I : IS) (q : Int32), f_X8_allEnded_b39 k4 x1 x3 s0 I = some q → G z 39 [(0, .ref (0)), (1, .int (x1)), (3, .int (x3))] [.int (s0)] I J (some (.int q), I, J) := by
  intro x1 x3 s0 I q hF
  rw [f_X8_allEnded_b39] at hF
  refine g_istore_n O (pc := 39) (L' := [(2, .int (s0)), (0, .ref (0)), (1, .int (x1)), (3, .int (x3))]) dX8_allEnded_39 (by decide) rfl ?_
  refine g_iinc O (pc := 40) (v := x3 + (1 : Int32)) (L' := [(3, .int (x3 + (1 : Int32))), (2, .int (s0)), (0, .ref (0)), (1, .int (x1))]) dX8_allEnded_40 3 rfl rfl (by decide) rfl ?_
  refine g_goto O (pc := 43) 4 dX8_allEnded_43 (by decide) ?_
  refine g_sub [2, 3, 1, 0] (L' := [(0, .ref (0)), (1, .int (x1)), (2, .int (s0)), (3, .int (x3 + (1 : Int32)))]) rfl ?_
  exact hk4 _ _ _ _ _ hF

def f_X8_allEnded_b38 (k4 : Int32 → Int32 → Int32 → IS → Option (Int32)) (x1 : Int32) (x3 : Int32) (I : IS) : Option (Int32) :=
  f_X8_allEnded_b39 k4 (x1) (x3) ((0 : Int32)) (I)
set_option maxHeartbeats 4000000 in
set_option maxRecDepth 100000 in
theorem c_X8_allEnded_b38 {z : CTX} {J : JS} (O : OK z cX8_allEnded RX8 4 SMod 36 (rm_ 1 21) (some .boolean)) {k4 : Int32 → Int32 → Int32 → IS → Option (Int32)} (hk4 : ∀ (x1 : Int32) (x2 : Int32) (x3 : Int32) (I : IS) (q : Int32), k4 x1 x2 x3 I = some q → G z 4 [(0, .ref (0)), (1, .int (x1)), (2, .int (x2)), (3, .int (x3))] [] I J (some (.int q), I, J)) : ∀ (x1 : Int32) (x3 : Int32) (I : IS) (q : Int32), f_X8_allEnded_b38 k4 x1 x3 I = some q → G z 38 [(0, .ref (0)), (1, .int (x1)), (3, .int (x3))] [] I J (some (.int q), I, J) := by
  intro x1 x3 I q hF
  rw [f_X8_allEnded_b38] at hF
  refine g_iconst O (pc := 38) dX8_allEnded_38 (ic_0) ?_
  refine g_sub [0, 1, 2] (L' := [(0, .ref (0)), (1, .int (x1)), (3, .int (x3))]) rfl ?_
  exact c_X8_allEnded_b39 O hk4 _ _ _ _ _ hF

def f_X8_allEnded_b34 (k4 : Int32 → Int32 → Int32 → IS → Option (Int32)) (x1 : Int32) (x3 : Int32) (I : IS) : Option (Int32) :=
  f_X8_allEnded_b39 k4 (x1) (x3) ((1 : Int32)) (I)
set_option maxHeartbeats 4000000 in
set_option maxRecDepth 100000 in
theorem c_X8_allEnded_b34 {z : CTX} {J : JS} (O : OK z cX8_allEnded RX8 4 SMod 36 (rm_ 1 21) (some .boolean)) {k4 : Int32 → Int32 → Int32 → IS → Option (Int32)} (hk4 : ∀ (x1 : Int32) (x2 : Int32) (x3 : Int32) (I : IS) (q : Int32), k4 x1 x2 x3 I = some q → G z 4 [(0, .ref (0)), (1, .int (x1)), (2, .int (x2)), (3, .int (x3))] [] I J (some (.int q), I, J)) : ∀ (x1 : Int32) (x3 : Int32) (I : IS) (q : Int32), f_X8_allEnded_b34 k4 x1 x3 I = some q → G z 34 [(0, .ref (0)), (1, .int (x1)), (3, .int (x3))] [] I J (some (.int q), I, J) := by
  intro x1 x3 I q hF
  rw [f_X8_allEnded_b34] at hF
  refine g_iconst O (pc := 34) dX8_allEnded_34 (ic_1) ?_
  refine g_goto O (pc := 35) 39 dX8_allEnded_35 (by decide) ?_
  refine g_sub [0, 1, 2] (L' := [(0, .ref (0)), (1, .int (x1)), (3, .int (x3))]) rfl ?_
  exact c_X8_allEnded_b39 O hk4 _ _ _ _ _ hF

def f_X8_allEnded_b4 : Nat → Int32 → Int32 → Int32 → IS → Option (Int32)
  | 0, _, _, _, _ => none
  | fu + 1, x1, x2, x3, I =>
    if (I (0) 6) ≤ x3 then
    (if okZ (x2) = true then some (x2) else none)
    else
    (if x2 = 0 then
    (f_X8_allEnded_b38 (f_X8_allEnded_b4 fu) (x1) (x3) (I))
    else
    (if okI (x3) 32 = true then
    (if (I (10) (x3).toNatClampNeg) = x1 then
    ((f_X8_isEnded (x3) I).bind fun q6 =>
    (if q6 = 0 then
    (f_X8_allEnded_b38 (f_X8_allEnded_b4 fu) (x1) (x3) (I))
    else
    (f_X8_allEnded_b34 (f_X8_allEnded_b4 fu) (x1) (x3) (I))))
    else
    (f_X8_allEnded_b34 (f_X8_allEnded_b4 fu) (x1) (x3) (I)))
    else none))
set_option maxHeartbeats 4000000 in
set_option maxRecDepth 100000 in
theorem c_X8_allEnded_b4 {z : CTX} {J : JS} (O : OK z cX8_allEnded RX8 4 SMod 36 (rm_ 1 21) (some .boolean)) : ∀ (fu : Nat) (x1 : Int32) (x2 : Int32) (x3 : Int32) (I : IS) (q : Int32), f_X8_allEnded_b4 fu x1 x2 x3 I = some q → G z 4 [(0, .ref (0)), (1, .int (x1)), (2, .int (x2)), (3, .int (x3))] [] I J (some (.int q), I, J) := by
  intro fu
  induction fu with
  | zero =>
    intro x1 x2 x3 I q hF
    cases hF
  | succ fu ih =>
    intro x1 x2 x3 I q hF
    rw [f_X8_allEnded_b4] at hF
    refine g_iload_n O (pc := 4) dX8_allEnded_4 3 rfl ?_
    refine g_aload_n O (pc := 5) dX8_allEnded_5 0 rfl ?_
    refine g_getI O (pc := 6) isC_X8 dX8_allEnded_6 fw_X8_127 (by decide) fd_SMod_0_6 ?_
    refine g_icmp_ge O (pc := 9) 46 dX8_allEnded_9 (by decide) (fun h1 => ?_) (fun h1 => ?_)
    · rw [if_pos h1] at hF
      refine g_iload_n O (pc := 46) dX8_allEnded_46 2 rfl ?_
      obtain ⟨h2, hF⟩ := gd hF
      obtain rfl := Option.some.inj hF
      exact g_zreturn O (pc := 47) dX8_allEnded_47 h2 rfl
    · rw [if_neg h1] at hF
      refine g_iload_n O (pc := 12) dX8_allEnded_12 2 rfl ?_
      refine g_if_eq O (pc := 13) 38 dX8_allEnded_13 (by decide) (fun h3 => ?_) (fun h3 => ?_)
      · rw [if_pos h3] at hF
        refine g_sub [0, 1, 3] (L' := [(0, .ref (0)), (1, .int (x1)), (3, .int (x3))]) rfl ?_
        exact c_X8_allEnded_b38 O ih _ _ _ _ hF
      · rw [if_neg h3] at hF
        refine g_aload_n O (pc := 16) dX8_allEnded_16 0 rfl ?_
        refine g_getR O (pc := 17) isC_X8 dX8_allEnded_17 fw_X8_41 (by decide) fd_SMod_0_11 ?_
        refine g_iload_n O (pc := 20) dX8_allEnded_20 3 rfl ?_
        obtain ⟨h4, hF⟩ := gd hF
        refine g_il O (pc := 21) dX8_allEnded_21 ar_SMod_10 h4 ?_
        refine g_iload_n O (pc := 22) dX8_allEnded_22 1 rfl ?_
        refine g_icmp_ne O (pc := 23) 34 dX8_allEnded_23 (by decide) (fun h5 => ?_) (fun h5 => ?_)
        · rw [if_neg h5] at hF
          refine g_sub [0, 1, 3] (L' := [(0, .ref (0)), (1, .int (x1)), (3, .int (x3))]) rfl ?_
          exact c_X8_allEnded_b34 O ih _ _ _ _ hF
        · rw [if_pos h5] at hF
          refine g_aload_n O (pc := 26) dX8_allEnded_26 0 rfl ?_
          refine g_iload_n O (pc := 27) dX8_allEnded_27 3 rfl ?_
          obtain ⟨q6, e7, hF⟩ := bnd hF
          refine g_Vi O (pc := 28) (st := []) dX8_allEnded_28 (mc_X8_isEnded J e7) cb_X8_isEnded ml_X8_183 isC_X8 ob_SMod (zm0 _ _ _ _ _ _ _) (rmok (Nat.le_of_ble_eq_true rfl) (Nat.le_of_ble_eq_true rfl)) (Nat.le_of_ble_eq_true rfl) rfl ?_
          refine g_if_eq O (pc := 31) 38 dX8_allEnded_31 (by decide) (fun h8 => ?_) (fun h8 => ?_)
          · rw [if_pos h8] at hF
            refine g_sub [0, 1, 3] (L' := [(0, .ref (0)), (1, .int (x1)), (3, .int (x3))]) rfl ?_
            exact c_X8_allEnded_b38 O ih _ _ _ _ hF
          · rw [if_neg h8] at hF
            refine g_sub [0, 1, 3] (L' := [(0, .ref (0)), (1, .int (x1)), (3, .int (x3))]) rfl ?_
            exact c_X8_allEnded_b34 O ih _ _ _ _ hF

def f_X8_allEnded (x1 : Int32) (I : IS) : Option (Int32) :=
  f_X8_allEnded_b4 LF (x1) ((1 : Int32)) ((0 : Int32)) (I)
set_option maxHeartbeats 4000000 in
set_option maxRecDepth 100000 in
theorem c_X8_allEnded_e {z : CTX} {J : JS} (O : OK z cX8_allEnded RX8 4 SMod 36 (rm_ 1 21) (some .boolean)) : ∀ (x1 : Int32) (I : IS) (q : Int32), f_X8_allEnded x1 I = some q → G z 0 [(0, .ref (0)), (1, .int (x1))] [] I J (some (.int q), I, J) := by
  intro x1 I q hF
  rw [f_X8_allEnded] at hF
  refine g_iconst O (pc := 0) dX8_allEnded_0 (ic_1) ?_
  refine g_istore_n O (pc := 1) (L' := [(2, .int ((1 : Int32))), (0, .ref (0)), (1, .int (x1))]) dX8_allEnded_1 (by decide) rfl ?_
  refine g_iconst O (pc := 2) dX8_allEnded_2 (ic_0) ?_
  refine g_istore_n O (pc := 3) (L' := [(3, .int ((0 : Int32))), (2, .int ((1 : Int32))), (0, .ref (0)), (1, .int (x1))]) dX8_allEnded_3 (by decide) rfl ?_
  refine g_sub [2, 3, 1, 0] (L' := [(0, .ref (0)), (1, .int (x1)), (2, .int ((1 : Int32))), (3, .int ((0 : Int32)))]) rfl ?_
  exact c_X8_allEnded_b4 O _ _ _ _ _ _ hF

theorem mc_X8_allEnded {x1 : Int32} {I : IS} (J : JS) {q : Int32} (hF : f_X8_allEnded x1 I = some q) : MC yX8_allEnded cX8_allEnded 4 (some .boolean) (rm_ 1 21) SMod 36 [.ref (0), .int (x1)] I J (some (.int q), I, J) :=
  mc_of pn_X8 (Nat.le_of_ble_eq_true rfl) (fun z O => c_X8_allEnded_e O _ _ _ hF)

def f_X8_fullOthers_b32 (k4 : Int32 → Int32 → Int32 → IS → Option (Int32)) (x1 : Int32) (x3 : Int32) (s0 : Int32) (s1 : Int32) (I : IS) : Option (Int32) :=
  k4 (x1) ((s0 + s1)) (x3 + (1 : Int32)) (I)
set_option maxHeartbeats 4000000 in
set_option maxRecDepth 100000 in
theorem c_X8_fullOthers_b32 {z : CTX} {J : JS} (O : OK z cX8_fullOthers RX8 4 SMod 36 (rm_ 0 0) (some .int)) {k4 : Int32 → Int32 → Int32 → IS → Option (Int32)} (hk4 : ∀ (x1 : Int32) (x2 : Int32) (x3 : Int32) (I : IS) (q : Int32), k4 x1 x2 x3 I = some q → G z 4 [(0, .ref (0)), (1, .int (x1)), (2, .int (x2)), (3, .int (x3))] [] I J (some (.int q), I, J)) : ∀ (x1 : Int32) (x3 : Int32) (s0 : Int32) (s1 : Int32) (I : IS) (q : Int32), f_X8_fullOthers_b32 k4 x1 x3 s0 s1 I = some q → G z 32 [(0, .ref (0)), (1, .int (x1)), (3, .int (x3))] [.int (s1), .int (s0)] I J (some (.int q), I, J) := by
  intro x1 x3 s0 s1 I q hF
  rw [f_X8_fullOthers_b32] at hF
  refine g_iadd O (pc := 32) dX8_fullOthers_32 ?_
  refine g_istore_n O (pc := 33) (L' := [(2, .int ((s0 + s1))), (0, .ref (0)), (1, .int (x1)), (3, .int (x3))]) dX8_fullOthers_33 (by decide) rfl ?_
  refine g_iinc O (pc := 34) (v := x3 + (1 : Int32)) (L' := [(3, .int (x3 + (1 : Int32))), (2, .int ((s0 + s1))), (0, .ref (0)), (1, .int (x1))]) dX8_fullOthers_34 3 rfl rfl (by decide) rfl ?_
  refine g_goto O (pc := 37) 4 dX8_fullOthers_37 (by decide) ?_
  refine g_sub [2, 3, 1, 0] (L' := [(0, .ref (0)), (1, .int (x1)), (2, .int ((s0 + s1))), (3, .int (x3 + (1 : Int32)))]) rfl ?_
  exact hk4 _ _ _ _ _ hF

def f_X8_fullOthers_b31 (k4 : Int32 → Int32 → Int32 → IS → Option (Int32)) (x1 : Int32) (x3 : Int32) (s0 : Int32) (I : IS) : Option (Int32) :=
  f_X8_fullOthers_b32 k4 (x1) (x3) (s0) ((0 : Int32)) (I)
set_option maxHeartbeats 4000000 in
set_option maxRecDepth 100000 in
theorem c_X8_fullOthers_b31 {z : CTX} {J : JS} (O : OK z cX8_fullOthers RX8 4 SMod 36 (rm_ 0 0) (some .int)) {k4 : Int32 → Int32 → Int32 → IS → Option (Int32)} (hk4 : ∀ (x1 : Int32) (x2 : Int32) (x3 : Int32) (I : IS) (q : Int32), k4 x1 x2 x3 I = some q → G z 4 [(0, .ref (0)), (1, .int (x1)), (2, .int (x2)), (3, .int (x3))] [] I J (some (.int q), I, J)) : ∀ (x1 : Int32) (x3 : Int32) (s0 : Int32) (I : IS) (q : Int32), f_X8_fullOthers_b31 k4 x1 x3 s0 I = some q → G z 31 [(0, .ref (0)), (1, .int (x1)), (3, .int (x3))] [.int (s0)] I J (some (.int q), I, J) := by
  intro x1 x3 s0 I q hF
  rw [f_X8_fullOthers_b31] at hF
  refine g_iconst O (pc := 31) dX8_fullOthers_31 (ic_0) ?_
  refine g_sub [0, 1, 2] (L' := [(0, .ref (0)), (1, .int (x1)), (3, .int (x3))]) rfl ?_
  exact c_X8_fullOthers_b32 O hk4 _ _ _ _ _ _ hF

def f_X8_fullOthers_b4 : Nat → Int32 → Int32 → Int32 → IS → Option (Int32)
  | 0, _, _, _, _ => none
  | fu + 1, x1, x2, x3, I =>
    if (I (0) 0) ≤ x3 then
    (some (x2))
    else
    (if x3 = x1 then
    (f_X8_fullOthers_b31 (f_X8_fullOthers_b4 fu) (x1) (x3) (x2) (I))
    else
    (if okI (x3) 4 = true then
    (if (I (1) (x3).toNatClampNeg) ≤ 0 then
    (f_X8_fullOthers_b31 (f_X8_fullOthers_b4 fu) (x1) (x3) (x2) (I))
    else
    (f_X8_fullOthers_b32 (f_X8_fullOthers_b4 fu) (x1) (x3) (x2) ((1 : Int32)) (I)))
    else none))
set_option maxHeartbeats 4000000 in
set_option maxRecDepth 100000 in
theorem c_X8_fullOthers_b4 {z : CTX} {J : JS} (O : OK z cX8_fullOthers RX8 4 SMod 36 (rm_ 0 0) (some .int)) : ∀ (fu : Nat) (x1 : Int32) (x2 : Int32) (x3 : Int32) (I : IS) (q : Int32), f_X8_fullOthers_b4 fu x1 x2 x3 I = some q → G z 4 [(0, .ref (0)), (1, .int (x1)), (2, .int (x2)), (3, .int (x3))] [] I J (some (.int q), I, J) := by
  intro fu
  induction fu with
  | zero =>
    intro x1 x2 x3 I q hF
    cases hF
  | succ fu ih =>
    intro x1 x2 x3 I q hF
    rw [f_X8_fullOthers_b4] at hF
    refine g_iload_n O (pc := 4) dX8_fullOthers_4 3 rfl ?_
    refine g_aload_n O (pc := 5) dX8_fullOthers_5 0 rfl ?_
    refine g_getI O (pc := 6) isC_X8 dX8_fullOthers_6 fw_X8_7 (by decide) fd_SMod_0_0 ?_
    refine g_icmp_ge O (pc := 9) 40 dX8_fullOthers_9 (by decide) (fun h1 => ?_) (fun h1 => ?_)
    · rw [if_pos h1] at hF
      refine g_iload_n O (pc := 40) dX8_fullOthers_40 2 rfl ?_
      obtain rfl := Option.some.inj hF
      exact g_ireturn O (pc := 41) dX8_fullOthers_41 rfl
    · rw [if_neg h1] at hF
      refine g_iload_n O (pc := 12) dX8_fullOthers_12 2 rfl ?_
      refine g_iload_n O (pc := 13) dX8_fullOthers_13 3 rfl ?_
      refine g_iload_n O (pc := 14) dX8_fullOthers_14 1 rfl ?_
      refine g_icmp_eq O (pc := 15) 31 dX8_fullOthers_15 (by decide) (fun h2 => ?_) (fun h2 => ?_)
      · rw [if_pos h2] at hF
        refine g_sub [0, 1, 3] (L' := [(0, .ref (0)), (1, .int (x1)), (3, .int (x3))]) rfl ?_
        exact c_X8_fullOthers_b31 O ih _ _ _ _ _ hF
      · rw [if_neg h2] at hF
        refine g_aload_n O (pc := 18) dX8_fullOthers_18 0 rfl ?_
        refine g_getR O (pc := 19) isC_X8 dX8_fullOthers_19 fw_X8_13 (by decide) fd_SMod_0_1 ?_
        refine g_iload_n O (pc := 22) dX8_fullOthers_22 3 rfl ?_
        obtain ⟨h3, hF⟩ := gd hF
        refine g_il O (pc := 23) dX8_fullOthers_23 ar_SMod_1 h3 ?_
        refine g_if_le O (pc := 24) 31 dX8_fullOthers_24 (by decide) (fun h4 => ?_) (fun h4 => ?_)
        · rw [if_pos h4] at hF
          refine g_sub [0, 1, 3] (L' := [(0, .ref (0)), (1, .int (x1)), (3, .int (x3))]) rfl ?_
          exact c_X8_fullOthers_b31 O ih _ _ _ _ _ hF
        · rw [if_neg h4] at hF
          refine g_iconst O (pc := 27) dX8_fullOthers_27 (ic_1) ?_
          refine g_goto O (pc := 28) 32 dX8_fullOthers_28 (by decide) ?_
          refine g_sub [0, 1, 3] (L' := [(0, .ref (0)), (1, .int (x1)), (3, .int (x3))]) rfl ?_
          exact c_X8_fullOthers_b32 O ih _ _ _ _ _ _ hF

def f_X8_fullOthers (x1 : Int32) (I : IS) : Option (Int32) :=
  f_X8_fullOthers_b4 LF (x1) ((0 : Int32)) ((0 : Int32)) (I)
set_option maxHeartbeats 4000000 in
set_option maxRecDepth 100000 in
theorem c_X8_fullOthers_e {z : CTX} {J : JS} (O : OK z cX8_fullOthers RX8 4 SMod 36 (rm_ 0 0) (some .int)) : ∀ (x1 : Int32) (I : IS) (q : Int32), f_X8_fullOthers x1 I = some q → G z 0 [(0, .ref (0)), (1, .int (x1))] [] I J (some (.int q), I, J) := by
  intro x1 I q hF
  rw [f_X8_fullOthers] at hF
  refine g_iconst O (pc := 0) dX8_fullOthers_0 (ic_0) ?_
  refine g_istore_n O (pc := 1) (L' := [(2, .int ((0 : Int32))), (0, .ref (0)), (1, .int (x1))]) dX8_fullOthers_1 (by decide) rfl ?_
  refine g_iconst O (pc := 2) dX8_fullOthers_2 (ic_0) ?_
  refine g_istore_n O (pc := 3) (L' := [(3, .int ((0 : Int32))), (2, .int ((0 : Int32))), (0, .ref (0)), (1, .int (x1))]) dX8_fullOthers_3 (by decide) rfl ?_
  refine g_sub [2, 3, 1, 0] (L' := [(0, .ref (0)), (1, .int (x1)), (2, .int ((0 : Int32))), (3, .int ((0 : Int32)))]) rfl ?_
  exact c_X8_fullOthers_b4 O _ _ _ _ _ _ hF

theorem mc_X8_fullOthers {x1 : Int32} {I : IS} (J : JS) {q : Int32} (hF : f_X8_fullOthers x1 I = some q) : MC yX8_fullOthers cX8_fullOthers 4 (some .int) (rm_ 0 0) SMod 36 [.ref (0), .int (x1)] I J (some (.int q), I, J) :=
  mc_of pn_X8 (Nat.le_of_ble_eq_true rfl) (fun z O => c_X8_fullOthers_e O _ _ _ hF)

def f_X8_comesTo (x1 : Int32) (x2 : Int32) (I : IS) : Option (IS) :=
  if okI (x1) 4 = true then
  (if okI ((((32 : Int32) * x1) + (I (1) (x1).toNatClampNeg))) 128 = true then
  (if okI (x1) 4 = true then
  (if okI (x1) 4 = true then
  ((some (u2 (u2 I (2) ((((32 : Int32) * x1) + (I (1) (x1).toNatClampNeg))).toNatClampNeg (x2)) (1) (x1).toNatClampNeg ((((u2 I (2) ((((32 : Int32) * x1) + (I (1) (x1).toNatClampNeg))).toNatClampNeg (x2)) (1) (x1).toNatClampNeg) + (1 : Int32))))).bind fun I5 =>
  (some (I5)))
  else none)
  else none)
  else none)
  else none
set_option maxHeartbeats 4000000 in
set_option maxRecDepth 100000 in
theorem c_X8_comesTo_e {z : CTX} {J : JS} (O : OK z cX8_comesTo RX8 3 SMod 36 (rm_ 0 0) none) : ∀ (x1 : Int32) (x2 : Int32) (I : IS) (q : IS), f_X8_comesTo x1 x2 I = some q → G z 0 [(0, .ref (0)), (1, .int (x1)), (2, .int (x2))] [] I J (none, q, J) := by
  intro x1 x2 I q hF
  rw [f_X8_comesTo] at hF
  refine g_aload_n O (pc := 0) dX8_comesTo_0 0 rfl ?_
  refine g_getR O (pc := 1) isC_X8 dX8_comesTo_1 fw_X8_17 (by decide) fd_SMod_0_2 ?_
  refine g_bipush O (pc := 4) dX8_comesTo_4 bp_32 ?_
  refine g_iload_n O (pc := 6) dX8_comesTo_6 1 rfl ?_
  refine g_imul O (pc := 7) dX8_comesTo_7 ?_
  refine g_aload_n O (pc := 8) dX8_comesTo_8 0 rfl ?_
  refine g_getR O (pc := 9) isC_X8 dX8_comesTo_9 fw_X8_13 (by decide) fd_SMod_0_1 ?_
  refine g_iload_n O (pc := 12) dX8_comesTo_12 1 rfl ?_
  obtain ⟨h1, hF⟩ := gd hF
  refine g_il O (pc := 13) dX8_comesTo_13 ar_SMod_1 h1 ?_
  refine g_iadd O (pc := 14) dX8_comesTo_14 ?_
  refine g_iload_n O (pc := 15) dX8_comesTo_15 2 rfl ?_
  obtain ⟨h2, hF⟩ := gd hF
  refine g_is O (pc := 16) dX8_comesTo_16 ar_SMod_2 h2 ?_
  refine g_aload_n O (pc := 17) dX8_comesTo_17 0 rfl ?_
  refine g_getR O (pc := 18) isC_X8 dX8_comesTo_18 fw_X8_13 (by decide) fd_SMod_0_1 ?_
  refine g_iload_n O (pc := 21) dX8_comesTo_21 1 rfl ?_
  refine g_dup2 O (pc := 22) dX8_comesTo_22 rfl rfl ?_
  obtain ⟨h3, hF⟩ := gd hF
  refine g_il O (pc := 23) dX8_comesTo_23 ar_SMod_1 h3 ?_
  refine g_iconst O (pc := 24) dX8_comesTo_24 (ic_1) ?_
  refine g_iadd O (pc := 25) dX8_comesTo_25 ?_
  obtain ⟨h4, hF⟩ := gd hF
  refine g_is O (pc := 26) dX8_comesTo_26 ar_SMod_1 h4 ?_
  obtain ⟨I5, g6, hF⟩ := bnd hF
  refine g_nmI (Option.some.inj g6) ?_
  obtain rfl := Option.some.inj hF
  exact g_return O (pc := 27) dX8_comesTo_27 rfl

theorem mc_X8_comesTo {x1 : Int32} {x2 : Int32} {I : IS} (J : JS) {q : IS} (hF : f_X8_comesTo x1 x2 I = some q) : MC yX8_comesTo cX8_comesTo 3 none (rm_ 0 0) SMod 36 [.ref (0), .int (x1), .int (x2)] I J (none, q, J) :=
  mc_of pn_X8 (Nat.le_of_ble_eq_true rfl) (fun z O => c_X8_comesTo_e O _ _ _ _ hF)

def f_X8_looksAt_b46 (k2 : Int32 → Int32 → IS → Option (IS)) (x1 : Int32) (x2 : Int32) (s1 : Int32) (I : IS) : Option (IS) :=
  if okZ (s1) = true then
  (k2 (x1) (x2 + (1 : Int32)) ((u2 I (0) 28 (s1))))
  else none
set_option maxHeartbeats 4000000 in
set_option maxRecDepth 100000 in
theorem c_X8_looksAt_b46 {z : CTX} {J : JS} (O : OK z cX8_looksAt RX8 3 SMod 36 (rm_ 0 0) none) {k2 : Int32 → Int32 → IS → Option (IS)} (hk2 : ∀ (x1 : Int32) (x2 : Int32) (I : IS) (q : IS), k2 x1 x2 I = some q → G z 2 [(0, .ref (0)), (1, .int (x1)), (2, .int (x2))] [] I J (none, q, J)) : ∀ (x1 : Int32) (x2 : Int32) (s1 : Int32) (I : IS) (q : IS), f_X8_looksAt_b46 k2 x1 x2 s1 I = some q → G z 46 [(0, .ref (0)), (1, .int (x1)), (2, .int (x2))] [.int (s1), .ref (0)] I J (none, q, J) := by
  intro x1 x2 s1 I q hF
  rw [f_X8_looksAt_b46] at hF
  obtain ⟨h1, hF⟩ := gd hF
  refine g_putZ O (pc := 46) isC_X8 isT_X8 dX8_looksAt_46 fw_X8_173 (by decide) rfl rfl h1 fd_SMod_0_28 ?_
  refine g_iinc O (pc := 49) (v := x2 + (1 : Int32)) (L' := [(2, .int (x2 + (1 : Int32))), (0, .ref (0)), (1, .int (x1))]) dX8_looksAt_49 2 rfl rfl (by decide) rfl ?_
  refine g_goto O (pc := 52) 2 dX8_looksAt_52 (by decide) ?_
  refine g_sub [1, 2, 0] (L' := [(0, .ref (0)), (1, .int (x1)), (2, .int (x2 + (1 : Int32)))]) rfl ?_
  exact hk2 _ _ _ _ hF

def f_X8_looksAt_b41 (k2 : Int32 → Int32 → IS → Option (IS)) (x1 : Int32) (x2 : Int32) (I : IS) : Option (IS) :=
  f_X8_looksAt_b46 k2 (x1) (x2) ((1 : Int32)) (I)
set_option maxHeartbeats 4000000 in
set_option maxRecDepth 100000 in
theorem c_X8_looksAt_b41 {z : CTX} {J : JS} (O : OK z cX8_looksAt RX8 3 SMod 36 (rm_ 0 0) none) {k2 : Int32 → Int32 → IS → Option (IS)} (hk2 : ∀ (x1 : Int32) (x2 : Int32) (I : IS) (q : IS), k2 x1 x2 I = some q → G z 2 [(0, .ref (0)), (1, .int (x1)), (2, .int (x2))] [] I J (none, q, J)) : ∀ (x1 : Int32) (x2 : Int32) (I : IS) (q : IS), f_X8_looksAt_b41 k2 x1 x2 I = some q → G z 41 [(0, .ref (0)), (1, .int (x1)), (2, .int (x2))] [.ref (0)] I J (none, q, J) := by
  intro x1 x2 I q hF
  rw [f_X8_looksAt_b41] at hF
  refine g_iconst O (pc := 41) dX8_looksAt_41 (ic_1) ?_
  refine g_goto O (pc := 42) 46 dX8_looksAt_42 (by decide) ?_
  refine g_sub [0, 1, 2] (L' := [(0, .ref (0)), (1, .int (x1)), (2, .int (x2))]) rfl ?_
  exact c_X8_looksAt_b46 O hk2 _ _ _ _ _ hF

def f_X8_looksAt_b45 (k2 : Int32 → Int32 → IS → Option (IS)) (x1 : Int32) (x2 : Int32) (I : IS) : Option (IS) :=
  f_X8_looksAt_b46 k2 (x1) (x2) ((0 : Int32)) (I)
set_option maxHeartbeats 4000000 in
set_option maxRecDepth 100000 in
theorem c_X8_looksAt_b45 {z : CTX} {J : JS} (O : OK z cX8_looksAt RX8 3 SMod 36 (rm_ 0 0) none) {k2 : Int32 → Int32 → IS → Option (IS)} (hk2 : ∀ (x1 : Int32) (x2 : Int32) (I : IS) (q : IS), k2 x1 x2 I = some q → G z 2 [(0, .ref (0)), (1, .int (x1)), (2, .int (x2))] [] I J (none, q, J)) : ∀ (x1 : Int32) (x2 : Int32) (I : IS) (q : IS), f_X8_looksAt_b45 k2 x1 x2 I = some q → G z 45 [(0, .ref (0)), (1, .int (x1)), (2, .int (x2))] [.ref (0)] I J (none, q, J) := by
  intro x1 x2 I q hF
  rw [f_X8_looksAt_b45] at hF
  refine g_iconst O (pc := 45) dX8_looksAt_45 (ic_0) ?_
  refine g_sub [0, 1, 2] (L' := [(0, .ref (0)), (1, .int (x1)), (2, .int (x2))]) rfl ?_
  exact c_X8_looksAt_b46 O hk2 _ _ _ _ _ hF

def f_X8_looksAt_b2 : Nat → Int32 → Int32 → IS → Option (IS)
  | 0, _, _, _ => none
  | fu + 1, x1, x2, I =>
    if (I (0) 18) ≤ x2 then
    (some ((u2 I (0) 27 (((I (0) 27) + (1 : Int32))))))
    else
    (if (I (0) 28) = 0 then
    (if okI (x2) 5 = true then
    (if (I (15) (x2).toNatClampNeg) = (I (0) 27) then
    (if okI (x2) 5 = true then
    (if (I (14) (x2).toNatClampNeg) = x1 then
    (f_X8_looksAt_b45 (f_X8_looksAt_b2 fu) (x1) (x2) (I))
    else
    (f_X8_looksAt_b41 (f_X8_looksAt_b2 fu) (x1) (x2) (I)))
    else none)
    else
    (f_X8_looksAt_b45 (f_X8_looksAt_b2 fu) (x1) (x2) (I)))
    else none)
    else
    (f_X8_looksAt_b41 (f_X8_looksAt_b2 fu) (x1) (x2) (I)))
set_option maxHeartbeats 4000000 in
set_option maxRecDepth 100000 in
theorem c_X8_looksAt_b2 {z : CTX} {J : JS} (O : OK z cX8_looksAt RX8 3 SMod 36 (rm_ 0 0) none) : ∀ (fu : Nat) (x1 : Int32) (x2 : Int32) (I : IS) (q : IS), f_X8_looksAt_b2 fu x1 x2 I = some q → G z 2 [(0, .ref (0)), (1, .int (x1)), (2, .int (x2))] [] I J (none, q, J) := by
  intro fu
  induction fu with
  | zero =>
    intro x1 x2 I q hF
    cases hF
  | succ fu ih =>
    intro x1 x2 I q hF
    rw [f_X8_looksAt_b2] at hF
    refine g_iload_n O (pc := 2) dX8_looksAt_2 2 rfl ?_
    refine g_aload_n O (pc := 3) dX8_looksAt_3 0 rfl ?_
    refine g_getI O (pc := 4) isC_X8 dX8_looksAt_4 fw_X8_144 (by decide) fd_SMod_0_18 ?_
    refine g_icmp_ge O (pc := 7) 55 dX8_looksAt_7 (by decide) (fun h1 => ?_) (fun h1 => ?_)
    · rw [if_pos h1] at hF
      refine g_aload_n O (pc := 55) dX8_looksAt_55 0 rfl ?_
      refine g_dup O (pc := 56) dX8_looksAt_56 rfl ?_
      refine g_getI O (pc := 57) isC_X8 dX8_looksAt_57 fw_X8_176 (by decide) fd_SMod_0_27 ?_
      refine g_iconst O (pc := 60) dX8_looksAt_60 (ic_1) ?_
      refine g_iadd O (pc := 61) dX8_looksAt_61 ?_
      refine g_putI O (pc := 62) isC_X8 isT_X8 dX8_looksAt_62 fw_X8_176 (by decide) rfl rfl fd_SMod_0_27 ?_
      obtain rfl := Option.some.inj hF
      exact g_return O (pc := 65) dX8_looksAt_65 rfl
    · rw [if_neg h1] at hF
      refine g_aload_n O (pc := 10) dX8_looksAt_10 0 rfl ?_
      refine g_aload_n O (pc := 11) dX8_looksAt_11 0 rfl ?_
      refine g_getI O (pc := 12) isC_X8 dX8_looksAt_12 fw_X8_173 (by decide) fd_SMod_0_28 ?_
      refine g_if_ne O (pc := 15) 41 dX8_looksAt_15 (by decide) (fun h2 => ?_) (fun h2 => ?_)
      · rw [if_neg h2] at hF
        refine g_sub [0, 1, 2] (L' := [(0, .ref (0)), (1, .int (x1)), (2, .int (x2))]) rfl ?_
        exact c_X8_looksAt_b41 O ih _ _ _ _ hF
      · rw [if_pos h2] at hF
        refine g_aload_n O (pc := 18) dX8_looksAt_18 0 rfl ?_
        refine g_getR O (pc := 19) isC_X8 dX8_looksAt_19 fw_X8_59 (by decide) fd_SMod_0_20 ?_
        refine g_iload_n O (pc := 22) dX8_looksAt_22 2 rfl ?_
        obtain ⟨h3, hF⟩ := gd hF
        refine g_il O (pc := 23) dX8_looksAt_23 ar_SMod_15 h3 ?_
        refine g_aload_n O (pc := 24) dX8_looksAt_24 0 rfl ?_
        refine g_getI O (pc := 25) isC_X8 dX8_looksAt_25 fw_X8_176 (by decide) fd_SMod_0_27 ?_
        refine g_icmp_ne O (pc := 28) 45 dX8_looksAt_28 (by decide) (fun h4 => ?_) (fun h4 => ?_)
        · rw [if_neg h4] at hF
          refine g_sub [0, 1, 2] (L' := [(0, .ref (0)), (1, .int (x1)), (2, .int (x2))]) rfl ?_
          exact c_X8_looksAt_b45 O ih _ _ _ _ hF
        · rw [if_pos h4] at hF
          refine g_aload_n O (pc := 31) dX8_looksAt_31 0 rfl ?_
          refine g_getR O (pc := 32) isC_X8 dX8_looksAt_32 fw_X8_56 (by decide) fd_SMod_0_19 ?_
          refine g_iload_n O (pc := 35) dX8_looksAt_35 2 rfl ?_
          obtain ⟨h5, hF⟩ := gd hF
          refine g_il O (pc := 36) dX8_looksAt_36 ar_SMod_14 h5 ?_
          refine g_iload_n O (pc := 37) dX8_looksAt_37 1 rfl ?_
          refine g_icmp_eq O (pc := 38) 45 dX8_looksAt_38 (by decide) (fun h6 => ?_) (fun h6 => ?_)
          · rw [if_pos h6] at hF
            refine g_sub [0, 1, 2] (L' := [(0, .ref (0)), (1, .int (x1)), (2, .int (x2))]) rfl ?_
            exact c_X8_looksAt_b45 O ih _ _ _ _ hF
          · rw [if_neg h6] at hF
            refine g_sub [0, 1, 2] (L' := [(0, .ref (0)), (1, .int (x1)), (2, .int (x2))]) rfl ?_
            exact c_X8_looksAt_b41 O ih _ _ _ _ hF

def f_X8_looksAt (x1 : Int32) (I : IS) : Option (IS) :=
  f_X8_looksAt_b2 LF (x1) ((0 : Int32)) (I)
set_option maxHeartbeats 4000000 in
set_option maxRecDepth 100000 in
theorem c_X8_looksAt_e {z : CTX} {J : JS} (O : OK z cX8_looksAt RX8 3 SMod 36 (rm_ 0 0) none) : ∀ (x1 : Int32) (I : IS) (q : IS), f_X8_looksAt x1 I = some q → G z 0 [(0, .ref (0)), (1, .int (x1))] [] I J (none, q, J) := by
  intro x1 I q hF
  rw [f_X8_looksAt] at hF
  refine g_iconst O (pc := 0) dX8_looksAt_0 (ic_0) ?_
  refine g_istore_n O (pc := 1) (L' := [(2, .int ((0 : Int32))), (0, .ref (0)), (1, .int (x1))]) dX8_looksAt_1 (by decide) rfl ?_
  refine g_sub [1, 2, 0] (L' := [(0, .ref (0)), (1, .int (x1)), (2, .int ((0 : Int32)))]) rfl ?_
  exact c_X8_looksAt_b2 O _ _ _ _ _ hF

theorem mc_X8_looksAt {x1 : Int32} {I : IS} (J : JS) {q : IS} (hF : f_X8_looksAt x1 I = some q) : MC yX8_looksAt cX8_looksAt 3 none (rm_ 0 0) SMod 36 [.ref (0), .int (x1)] I J (none, q, J) :=
  mc_of pn_X8 (Nat.le_of_ble_eq_true rfl) (fun z O => c_X8_looksAt_e O _ _ _ hF)

def f_X8_entry_b52 (x1 : Int32) (x2 : Int32) (x3 : Int32) (I : IS) : Option (IS) :=
  if okI (((4 : Int32) * (I (0) 16))) 160 = true then
  (if okI ((((4 : Int32) * ((u2 I (13) (((4 : Int32) * (I (0) 16))).toNatClampNeg ((I (0) 15))) (0) 16)) + (1 : Int32))) 160 = true then
  ((some (u2 (u2 I (13) (((4 : Int32) * (I (0) 16))).toNatClampNeg ((I (0) 15))) (13) ((((4 : Int32) * ((u2 I (13) (((4 : Int32) * (I (0) 16))).toNatClampNeg ((I (0) 15))) (0) 16)) + (1 : Int32))).toNatClampNeg (x1))).bind fun I3 =>
  (if okI ((((4 : Int32) * (I3 (0) 16)) + (2 : Int32))) 160 = true then
  (if okI ((((4 : Int32) * ((u2 I3 (13) ((((4 : Int32) * (I3 (0) 16)) + (2 : Int32))).toNatClampNeg (x2)) (0) 16)) + (3 : Int32))) 160 = true then
  ((some (u2 (u2 I3 (13) ((((4 : Int32) * (I3 (0) 16)) + (2 : Int32))).toNatClampNeg (x2)) (13) ((((4 : Int32) * ((u2 I3 (13) ((((4 : Int32) * (I3 (0) 16)) + (2 : Int32))).toNatClampNeg (x2)) (0) 16)) + (3 : Int32))).toNatClampNeg (x3))).bind fun I7 =>
  ((f_X8_looksAt (x3) (u2 I7 (0) 16 (((I7 (0) 16) + (1 : Int32))))).bind fun q9 =>
  (some (q9))))
  else none)
  else none))
  else none)
  else none
set_option maxHeartbeats 4000000 in
set_option maxRecDepth 100000 in
theorem c_X8_entry_b52 {z : CTX} {J : JS} (O : OK z cX8_entry RX8 5 SMod 36 (rm_ 1 22) none) : ∀ (x1 : Int32) (x2 : Int32) (x3 : Int32) (I : IS) (q : IS), f_X8_entry_b52 x1 x2 x3 I = some q → G z 52 [(0, .ref (0)), (1, .int (x1)), (2, .int (x2)), (3, .int (x3))] [] I J (none, q, J) := by
  intro x1 x2 x3 I q hF
  rw [f_X8_entry_b52] at hF
  refine g_aload_n O (pc := 52) dX8_entry_52 0 rfl ?_
  refine g_getR O (pc := 53) isC_X8 dX8_entry_53 fw_X8_53 (by decide) fd_SMod_0_17 ?_
  refine g_iconst O (pc := 56) dX8_entry_56 (ic_4) ?_
  refine g_aload_n O (pc := 57) dX8_entry_57 0 rfl ?_
  refine g_getI O (pc := 58) isC_X8 dX8_entry_58 fw_X8_160 (by decide) fd_SMod_0_16 ?_
  refine g_imul O (pc := 61) dX8_entry_61 ?_
  refine g_aload_n O (pc := 62) dX8_entry_62 0 rfl ?_
  refine g_getI O (pc := 63) isC_X8 dX8_entry_63 fw_X8_157 (by decide) fd_SMod_0_15 ?_
  obtain ⟨h1, hF⟩ := gd hF
  refine g_is O (pc := 66) dX8_entry_66 ar_SMod_13 h1 ?_
  refine g_aload_n O (pc := 67) dX8_entry_67 0 rfl ?_
  refine g_getR O (pc := 68) isC_X8 dX8_entry_68 fw_X8_53 (by decide) fd_SMod_0_17 ?_
  refine g_iconst O (pc := 71) dX8_entry_71 (ic_4) ?_
  refine g_aload_n O (pc := 72) dX8_entry_72 0 rfl ?_
  refine g_getI O (pc := 73) isC_X8 dX8_entry_73 fw_X8_160 (by decide) fd_SMod_0_16 ?_
  refine g_imul O (pc := 76) dX8_entry_76 ?_
  refine g_iconst O (pc := 77) dX8_entry_77 (ic_1) ?_
  refine g_iadd O (pc := 78) dX8_entry_78 ?_
  refine g_iload_n O (pc := 79) dX8_entry_79 1 rfl ?_
  obtain ⟨h2, hF⟩ := gd hF
  refine g_is O (pc := 80) dX8_entry_80 ar_SMod_13 h2 ?_
  obtain ⟨I3, g4, hF⟩ := bnd hF
  refine g_nmI (Option.some.inj g4) ?_
  refine g_aload_n O (pc := 81) dX8_entry_81 0 rfl ?_
  refine g_getR O (pc := 82) isC_X8 dX8_entry_82 fw_X8_53 (by decide) fd_SMod_0_17 ?_
  refine g_iconst O (pc := 85) dX8_entry_85 (ic_4) ?_
  refine g_aload_n O (pc := 86) dX8_entry_86 0 rfl ?_
  refine g_getI O (pc := 87) isC_X8 dX8_entry_87 fw_X8_160 (by decide) fd_SMod_0_16 ?_
  refine g_imul O (pc := 90) dX8_entry_90 ?_
  refine g_iconst O (pc := 91) dX8_entry_91 (ic_2) ?_
  refine g_iadd O (pc := 92) dX8_entry_92 ?_
  refine g_iload_n O (pc := 93) dX8_entry_93 2 rfl ?_
  obtain ⟨h5, hF⟩ := gd hF
  refine g_is O (pc := 94) dX8_entry_94 ar_SMod_13 h5 ?_
  refine g_aload_n O (pc := 95) dX8_entry_95 0 rfl ?_
  refine g_getR O (pc := 96) isC_X8 dX8_entry_96 fw_X8_53 (by decide) fd_SMod_0_17 ?_
  refine g_iconst O (pc := 99) dX8_entry_99 (ic_4) ?_
  refine g_aload_n O (pc := 100) dX8_entry_100 0 rfl ?_
  refine g_getI O (pc := 101) isC_X8 dX8_entry_101 fw_X8_160 (by decide) fd_SMod_0_16 ?_
  refine g_imul O (pc := 104) dX8_entry_104 ?_
  refine g_iconst O (pc := 105) dX8_entry_105 (ic_3) ?_
  refine g_iadd O (pc := 106) dX8_entry_106 ?_
  refine g_iload_n O (pc := 107) dX8_entry_107 3 rfl ?_
  obtain ⟨h6, hF⟩ := gd hF
  refine g_is O (pc := 108) dX8_entry_108 ar_SMod_13 h6 ?_
  obtain ⟨I7, g8, hF⟩ := bnd hF
  refine g_nmI (Option.some.inj g8) ?_
  refine g_aload_n O (pc := 109) dX8_entry_109 0 rfl ?_
  refine g_dup O (pc := 110) dX8_entry_110 rfl ?_
  refine g_getI O (pc := 111) isC_X8 dX8_entry_111 fw_X8_160 (by decide) fd_SMod_0_16 ?_
  refine g_iconst O (pc := 114) dX8_entry_114 (ic_1) ?_
  refine g_iadd O (pc := 115) dX8_entry_115 ?_
  refine g_putI O (pc := 116) isC_X8 isT_X8 dX8_entry_116 fw_X8_160 (by decide) rfl rfl fd_SMod_0_16 ?_
  refine g_aload_n O (pc := 119) dX8_entry_119 0 rfl ?_
  refine g_iload_n O (pc := 120) dX8_entry_120 3 rfl ?_
  obtain ⟨q9, e10, hF⟩ := bnd hF
  refine g_Vv O (pc := 121) (st := []) dX8_entry_121 (mc_X8_looksAt J e10) cb_X8_looksAt ml_X8_179 isC_X8 ob_SMod (zm0 _ _ _ _ _ _ _) (rmok (Nat.le_of_ble_eq_true rfl) (Nat.le_of_ble_eq_true rfl)) (Nat.le_of_ble_eq_true rfl) rfl ?_
  obtain rfl := Option.some.inj hF
  exact g_return O (pc := 124) dX8_entry_124 rfl

def f_X8_entry_b12 : Nat → Int32 → Int32 → Int32 → Int32 → IS → Option (IS)
  | 0, _, _, _, _, _ => none
  | fu + 1, x1, x2, x3, x4, I =>
    if (160 : Int32) ≤ x4 then
    (f_X8_entry_b52 (x1) (x2) (x3) ((u2 I (0) 16 (((I (0) 16) - (1 : Int32))))))
    else
    (if okI (x4) 160 = true then
    (if okI ((x4 - (4 : Int32))) 160 = true then
    (f_X8_entry_b12 fu (x1) (x2) (x3) (x4 + (1 : Int32)) ((u2 I (13) ((x4 - (4 : Int32))).toNatClampNeg ((I (13) (x4).toNatClampNeg)))))
    else none)
    else none)
set_option maxHeartbeats 4000000 in
set_option maxRecDepth 100000 in
theorem c_X8_entry_b12 {z : CTX} {J : JS} (O : OK z cX8_entry RX8 5 SMod 36 (rm_ 1 22) none) : ∀ (fu : Nat) (x1 : Int32) (x2 : Int32) (x3 : Int32) (x4 : Int32) (I : IS) (q : IS), f_X8_entry_b12 fu x1 x2 x3 x4 I = some q → G z 12 [(0, .ref (0)), (1, .int (x1)), (2, .int (x2)), (3, .int (x3)), (4, .int (x4))] [] I J (none, q, J) := by
  intro fu
  induction fu with
  | zero =>
    intro x1 x2 x3 x4 I q hF
    cases hF
  | succ fu ih =>
    intro x1 x2 x3 x4 I q hF
    rw [f_X8_entry_b12] at hF
    refine g_iload O (pc := 12) dX8_entry_12 4 rfl ?_
    refine g_sipush O (pc := 14) dX8_entry_14 sp_160 ?_
    refine g_icmp_ge O (pc := 17) 42 dX8_entry_17 (by decide) (fun h1 => ?_) (fun h1 => ?_)
    · rw [if_pos h1] at hF
      refine g_aload_n O (pc := 42) dX8_entry_42 0 rfl ?_
      refine g_dup O (pc := 43) dX8_entry_43 rfl ?_
      refine g_getI O (pc := 44) isC_X8 dX8_entry_44 fw_X8_160 (by decide) fd_SMod_0_16 ?_
      refine g_iconst O (pc := 47) dX8_entry_47 (ic_1) ?_
      refine g_isub O (pc := 48) dX8_entry_48 ?_
      refine g_putI O (pc := 49) isC_X8 isT_X8 dX8_entry_49 fw_X8_160 (by decide) rfl rfl fd_SMod_0_16 ?_
      refine g_sub [0, 1, 2, 3] (L' := [(0, .ref (0)), (1, .int (x1)), (2, .int (x2)), (3, .int (x3))]) rfl ?_
      exact c_X8_entry_b52 O _ _ _ _ _ hF
    · rw [if_neg h1] at hF
      refine g_aload_n O (pc := 20) dX8_entry_20 0 rfl ?_
      refine g_getR O (pc := 21) isC_X8 dX8_entry_21 fw_X8_53 (by decide) fd_SMod_0_17 ?_
      refine g_iload O (pc := 24) dX8_entry_24 4 rfl ?_
      refine g_iconst O (pc := 26) dX8_entry_26 (ic_4) ?_
      refine g_isub O (pc := 27) dX8_entry_27 ?_
      refine g_aload_n O (pc := 28) dX8_entry_28 0 rfl ?_
      refine g_getR O (pc := 29) isC_X8 dX8_entry_29 fw_X8_53 (by decide) fd_SMod_0_17 ?_
      refine g_iload O (pc := 32) dX8_entry_32 4 rfl ?_
      obtain ⟨h2, hF⟩ := gd hF
      refine g_il O (pc := 34) dX8_entry_34 ar_SMod_13 h2 ?_
      obtain ⟨h3, hF⟩ := gd hF
      refine g_is O (pc := 35) dX8_entry_35 ar_SMod_13 h3 ?_
      refine g_iinc O (pc := 36) (v := x4 + (1 : Int32)) (L' := [(4, .int (x4 + (1 : Int32))), (0, .ref (0)), (1, .int (x1)), (2, .int (x2)), (3, .int (x3))]) dX8_entry_36 4 rfl rfl (by decide) rfl ?_
      refine g_goto O (pc := 39) 12 dX8_entry_39 (by decide) ?_
      refine g_sub [1, 2, 3, 4, 0] (L' := [(0, .ref (0)), (1, .int (x1)), (2, .int (x2)), (3, .int (x3)), (4, .int (x4 + (1 : Int32)))]) rfl ?_
      exact ih _ _ _ _ _ _ hF

def f_X8_entry (x1 : Int32) (x2 : Int32) (x3 : Int32) (I : IS) : Option (IS) :=
  if (I (0) 16) = (40 : Int32) then
  (f_X8_entry_b12 LF (x1) (x2) (x3) ((4 : Int32)) (I))
  else
  (f_X8_entry_b52 (x1) (x2) (x3) (I))
set_option maxHeartbeats 4000000 in
set_option maxRecDepth 100000 in
theorem c_X8_entry_e {z : CTX} {J : JS} (O : OK z cX8_entry RX8 5 SMod 36 (rm_ 1 22) none) : ∀ (x1 : Int32) (x2 : Int32) (x3 : Int32) (I : IS) (q : IS), f_X8_entry x1 x2 x3 I = some q → G z 0 [(0, .ref (0)), (1, .int (x1)), (2, .int (x2)), (3, .int (x3))] [] I J (none, q, J) := by
  intro x1 x2 x3 I q hF
  rw [f_X8_entry] at hF
  refine g_aload_n O (pc := 0) dX8_entry_0 0 rfl ?_
  refine g_getI O (pc := 1) isC_X8 dX8_entry_1 fw_X8_160 (by decide) fd_SMod_0_16 ?_
  refine g_bipush O (pc := 4) dX8_entry_4 bp_40 ?_
  refine g_icmp_ne O (pc := 6) 52 dX8_entry_6 (by decide) (fun h1 => ?_) (fun h1 => ?_)
  · rw [if_neg h1] at hF
    refine g_sub [0, 1, 2, 3] (L' := [(0, .ref (0)), (1, .int (x1)), (2, .int (x2)), (3, .int (x3))]) rfl ?_
    exact c_X8_entry_b52 O _ _ _ _ _ hF
  · rw [if_pos h1] at hF
    refine g_iconst O (pc := 9) dX8_entry_9 (ic_4) ?_
    refine g_istore O (pc := 10) (L' := [(4, .int ((4 : Int32))), (0, .ref (0)), (1, .int (x1)), (2, .int (x2)), (3, .int (x3))]) dX8_entry_10 (by decide) rfl ?_
    refine g_sub [1, 2, 3, 4, 0] (L' := [(0, .ref (0)), (1, .int (x1)), (2, .int (x2)), (3, .int (x3)), (4, .int ((4 : Int32)))]) rfl ?_
    exact c_X8_entry_b12 O _ _ _ _ _ _ _ hF

theorem mc_X8_entry {x1 : Int32} {x2 : Int32} {x3 : Int32} {I : IS} (J : JS) {q : IS} (hF : f_X8_entry x1 x2 x3 I = some q) : MC yX8_entry cX8_entry 5 none (rm_ 1 22) SMod 36 [.ref (0), .int (x1), .int (x2), .int (x3)] I J (none, q, J) :=
  mc_of pn_X8 (Nat.le_of_ble_eq_true rfl) (fun z O => c_X8_entry_e O _ _ _ _ _ hF)

def f_X8_leavesRows_b95 (k2 : Int32 → Int32 → IS → Option (IS)) (k39 : Int32 → Int32 → Int32 → Int32 → IS → Option (IS)) (x1 : Int32) (x2 : Int32) (x4 : Int32) (s0 : Int32) (s1 : Int32) (I : IS) : Option (IS) :=
  k39 (x1) (x2) ((s0 + s1)) (x4 + (1 : Int32)) (I)
set_option maxHeartbeats 4000000 in
set_option maxRecDepth 100000 in
theorem c_X8_leavesRows_b95 {z : CTX} {J : JS} (O : OK z cX8_leavesRows RX8 5 SMod 36 (rm_ 0 0) none) {k2 : Int32 → Int32 → IS → Option (IS)} (hk2 : ∀ (x1 : Int32) (x2 : Int32) (I : IS) (q : IS), k2 x1 x2 I = some q → G z 2 [(0, .ref (0)), (1, .int (x1)), (2, .int (x2))] [] I J (none, q, J)) {k39 : Int32 → Int32 → Int32 → Int32 → IS → Option (IS)} (hk39 : ∀ (x1 : Int32) (x2 : Int32) (x3 : Int32) (x4 : Int32) (I : IS) (q : IS), k39 x1 x2 x3 x4 I = some q → G z 39 [(0, .ref (0)), (1, .int (x1)), (2, .int (x2)), (3, .int (x3)), (4, .int (x4))] [] I J (none, q, J)) : ∀ (x1 : Int32) (x2 : Int32) (x4 : Int32) (s0 : Int32) (s1 : Int32) (I : IS) (q : IS), f_X8_leavesRows_b95 k2 k39 x1 x2 x4 s0 s1 I = some q → G z 95 [(0, .ref (0)), (1, .int (x1)), (2, .int (x2)), (4, .int (x4))] [.int (s1), .int (s0)] I J (none, q, J) := by
  intro x1 x2 x4 s0 s1 I q hF
  rw [f_X8_leavesRows_b95] at hF
  refine g_iadd O (pc := 95) dX8_leavesRows_95 ?_
  refine g_istore_n O (pc := 96) (L' := [(3, .int ((s0 + s1))), (0, .ref (0)), (1, .int (x1)), (2, .int (x2)), (4, .int (x4))]) dX8_leavesRows_96 (by decide) rfl ?_
  refine g_iinc O (pc := 97) (v := x4 + (1 : Int32)) (L' := [(4, .int (x4 + (1 : Int32))), (3, .int ((s0 + s1))), (0, .ref (0)), (1, .int (x1)), (2, .int (x2))]) dX8_leavesRows_97 4 rfl rfl (by decide) rfl ?_
  refine g_goto O (pc := 100) 39 dX8_leavesRows_100 (by decide) ?_
  refine g_sub [2, 3, 4, 1, 0] (L' := [(0, .ref (0)), (1, .int (x1)), (2, .int (x2)), (3, .int ((s0 + s1))), (4, .int (x4 + (1 : Int32)))]) rfl ?_
  exact hk39 _ _ _ _ _ _ hF

def f_X8_leavesRows_b39 (k2 : Int32 → Int32 → IS → Option (IS)) : Nat → Int32 → Int32 → Int32 → Int32 → IS → Option (IS)
  | 0, _, _, _, _, _ => none
  | fu + 1, x1, x2, x3, x4, I =>
    if okI (x2) 4 = true then
    (if (I (1) (x2).toNatClampNeg) ≤ x4 then
    (if okI (x2) 4 = true then
    (k2 (x1) (x2 + (1 : Int32)) ((u2 I (1) (x2).toNatClampNeg (x3))))
    else none)
    else
    (if okI ((((32 : Int32) * x2) + x4)) 128 = true then
    (if okI ((((32 : Int32) * x2) + x3)) 128 = true then
    (if okI ((((32 : Int32) * x2) + x4)) 128 = true then
    (if ((u2 I (2) ((((32 : Int32) * x2) + x3)).toNatClampNeg ((I (2) ((((32 : Int32) * x2) + x4)).toNatClampNeg))) (2) ((((32 : Int32) * x2) + x4)).toNatClampNeg) = x1 then
    (f_X8_leavesRows_b95 k2 (f_X8_leavesRows_b39 k2 fu) (x1) (x2) (x4) (x3) ((0 : Int32)) ((u2 I (2) ((((32 : Int32) * x2) + x3)).toNatClampNeg ((I (2) ((((32 : Int32) * x2) + x4)).toNatClampNeg)))))
    else
    (f_X8_leavesRows_b95 k2 (f_X8_leavesRows_b39 k2 fu) (x1) (x2) (x4) (x3) ((1 : Int32)) ((u2 I (2) ((((32 : Int32) * x2) + x3)).toNatClampNeg ((I (2) ((((32 : Int32) * x2) + x4)).toNatClampNeg))))))
    else none)
    else none)
    else none))
    else none
set_option maxHeartbeats 4000000 in
set_option maxRecDepth 100000 in
theorem c_X8_leavesRows_b39 {z : CTX} {J : JS} (O : OK z cX8_leavesRows RX8 5 SMod 36 (rm_ 0 0) none) {k2 : Int32 → Int32 → IS → Option (IS)} (hk2 : ∀ (x1 : Int32) (x2 : Int32) (I : IS) (q : IS), k2 x1 x2 I = some q → G z 2 [(0, .ref (0)), (1, .int (x1)), (2, .int (x2))] [] I J (none, q, J)) : ∀ (fu : Nat) (x1 : Int32) (x2 : Int32) (x3 : Int32) (x4 : Int32) (I : IS) (q : IS), f_X8_leavesRows_b39 k2 fu x1 x2 x3 x4 I = some q → G z 39 [(0, .ref (0)), (1, .int (x1)), (2, .int (x2)), (3, .int (x3)), (4, .int (x4))] [] I J (none, q, J) := by
  intro fu
  induction fu with
  | zero =>
    intro x1 x2 x3 x4 I q hF
    cases hF
  | succ fu ih =>
    intro x1 x2 x3 x4 I q hF
    rw [f_X8_leavesRows_b39] at hF
    refine g_iload O (pc := 39) dX8_leavesRows_39 4 rfl ?_
    refine g_aload_n O (pc := 41) dX8_leavesRows_41 0 rfl ?_
    refine g_getR O (pc := 42) isC_X8 dX8_leavesRows_42 fw_X8_13 (by decide) fd_SMod_0_1 ?_
    refine g_iload_n O (pc := 45) dX8_leavesRows_45 2 rfl ?_
    obtain ⟨h1, hF⟩ := gd hF
    refine g_il O (pc := 46) dX8_leavesRows_46 ar_SMod_1 h1 ?_
    refine g_icmp_ge O (pc := 47) 103 dX8_leavesRows_47 (by decide) (fun h2 => ?_) (fun h2 => ?_)
    · rw [if_pos h2] at hF
      refine g_aload_n O (pc := 103) dX8_leavesRows_103 0 rfl ?_
      refine g_getR O (pc := 104) isC_X8 dX8_leavesRows_104 fw_X8_13 (by decide) fd_SMod_0_1 ?_
      refine g_iload_n O (pc := 107) dX8_leavesRows_107 2 rfl ?_
      refine g_iload_n O (pc := 108) dX8_leavesRows_108 3 rfl ?_
      obtain ⟨h3, hF⟩ := gd hF
      refine g_is O (pc := 109) dX8_leavesRows_109 ar_SMod_1 h3 ?_
      refine g_iinc O (pc := 110) (v := x2 + (1 : Int32)) (L' := [(2, .int (x2 + (1 : Int32))), (0, .ref (0)), (1, .int (x1)), (3, .int (x3)), (4, .int (x4))]) dX8_leavesRows_110 2 rfl rfl (by decide) rfl ?_
      refine g_goto O (pc := 113) 2 dX8_leavesRows_113 (by decide) ?_
      refine g_sub [1, 2, 0] (L' := [(0, .ref (0)), (1, .int (x1)), (2, .int (x2 + (1 : Int32)))]) rfl ?_
      exact hk2 _ _ _ _ hF
    · rw [if_neg h2] at hF
      refine g_aload_n O (pc := 50) dX8_leavesRows_50 0 rfl ?_
      refine g_getR O (pc := 51) isC_X8 dX8_leavesRows_51 fw_X8_17 (by decide) fd_SMod_0_2 ?_
      refine g_bipush O (pc := 54) dX8_leavesRows_54 bp_32 ?_
      refine g_iload_n O (pc := 56) dX8_leavesRows_56 2 rfl ?_
      refine g_imul O (pc := 57) dX8_leavesRows_57 ?_
      refine g_iload_n O (pc := 58) dX8_leavesRows_58 3 rfl ?_
      refine g_iadd O (pc := 59) dX8_leavesRows_59 ?_
      refine g_aload_n O (pc := 60) dX8_leavesRows_60 0 rfl ?_
      refine g_getR O (pc := 61) isC_X8 dX8_leavesRows_61 fw_X8_17 (by decide) fd_SMod_0_2 ?_
      refine g_bipush O (pc := 64) dX8_leavesRows_64 bp_32 ?_
      refine g_iload_n O (pc := 66) dX8_leavesRows_66 2 rfl ?_
      refine g_imul O (pc := 67) dX8_leavesRows_67 ?_
      refine g_iload O (pc := 68) dX8_leavesRows_68 4 rfl ?_
      refine g_iadd O (pc := 70) dX8_leavesRows_70 ?_
      obtain ⟨h4, hF⟩ := gd hF
      refine g_il O (pc := 71) dX8_leavesRows_71 ar_SMod_2 h4 ?_
      obtain ⟨h5, hF⟩ := gd hF
      refine g_is O (pc := 72) dX8_leavesRows_72 ar_SMod_2 h5 ?_
      refine g_iload_n O (pc := 73) dX8_leavesRows_73 3 rfl ?_
      refine g_aload_n O (pc := 74) dX8_leavesRows_74 0 rfl ?_
      refine g_getR O (pc := 75) isC_X8 dX8_leavesRows_75 fw_X8_17 (by decide) fd_SMod_0_2 ?_
      refine g_bipush O (pc := 78) dX8_leavesRows_78 bp_32 ?_
      refine g_iload_n O (pc := 80) dX8_leavesRows_80 2 rfl ?_
      refine g_imul O (pc := 81) dX8_leavesRows_81 ?_
      refine g_iload O (pc := 82) dX8_leavesRows_82 4 rfl ?_
      refine g_iadd O (pc := 84) dX8_leavesRows_84 ?_
      obtain ⟨h6, hF⟩ := gd hF
      refine g_il O (pc := 85) dX8_leavesRows_85 ar_SMod_2 h6 ?_
      refine g_iload_n O (pc := 86) dX8_leavesRows_86 1 rfl ?_
      refine g_icmp_ne O (pc := 87) 94 dX8_leavesRows_87 (by decide) (fun h7 => ?_) (fun h7 => ?_)
      · rw [if_neg h7] at hF
        refine g_iconst O (pc := 94) dX8_leavesRows_94 (ic_1) ?_
        refine g_sub [0, 1, 2, 4] (L' := [(0, .ref (0)), (1, .int (x1)), (2, .int (x2)), (4, .int (x4))]) rfl ?_
        exact c_X8_leavesRows_b95 O hk2 ih _ _ _ _ _ _ _ hF
      · rw [if_pos h7] at hF
        refine g_iconst O (pc := 90) dX8_leavesRows_90 (ic_0) ?_
        refine g_goto O (pc := 91) 95 dX8_leavesRows_91 (by decide) ?_
        refine g_sub [0, 1, 2, 4] (L' := [(0, .ref (0)), (1, .int (x1)), (2, .int (x2)), (4, .int (x4))]) rfl ?_
        exact c_X8_leavesRows_b95 O hk2 ih _ _ _ _ _ _ _ hF

def f_X8_leavesRows_b33 (k2 : Int32 → Int32 → IS → Option (IS)) (x1 : Int32) (x2 : Int32) (s1 : Int32) (s2 : Int32) (I : IS) : Option (IS) :=
  if okI (s1) 4 = true then
  (f_X8_leavesRows_b39 k2 LF (x1) (x2) ((0 : Int32)) ((0 : Int32)) ((u2 I (3) (s1).toNatClampNeg (s2))))
  else none
set_option maxHeartbeats 4000000 in
set_option maxRecDepth 100000 in
theorem c_X8_leavesRows_b33 {z : CTX} {J : JS} (O : OK z cX8_leavesRows RX8 5 SMod 36 (rm_ 0 0) none) {k2 : Int32 → Int32 → IS → Option (IS)} (hk2 : ∀ (x1 : Int32) (x2 : Int32) (I : IS) (q : IS), k2 x1 x2 I = some q → G z 2 [(0, .ref (0)), (1, .int (x1)), (2, .int (x2))] [] I J (none, q, J)) : ∀ (x1 : Int32) (x2 : Int32) (s1 : Int32) (s2 : Int32) (I : IS) (q : IS), f_X8_leavesRows_b33 k2 x1 x2 s1 s2 I = some q → G z 33 [(0, .ref (0)), (1, .int (x1)), (2, .int (x2))] [.int (s2), .int (s1), .ref (3)] I J (none, q, J) := by
  intro x1 x2 s1 s2 I q hF
  rw [f_X8_leavesRows_b33] at hF
  obtain ⟨h1, hF⟩ := gd hF
  refine g_is O (pc := 33) dX8_leavesRows_33 ar_SMod_3 h1 ?_
  refine g_iconst O (pc := 34) dX8_leavesRows_34 (ic_0) ?_
  refine g_istore_n O (pc := 35) (L' := [(3, .int ((0 : Int32))), (0, .ref (0)), (1, .int (x1)), (2, .int (x2))]) dX8_leavesRows_35 (by decide) rfl ?_
  refine g_iconst O (pc := 36) dX8_leavesRows_36 (ic_0) ?_
  refine g_istore O (pc := 37) (L' := [(4, .int ((0 : Int32))), (3, .int ((0 : Int32))), (0, .ref (0)), (1, .int (x1)), (2, .int (x2))]) dX8_leavesRows_37 (by decide) rfl ?_
  refine g_sub [2, 3, 4, 1, 0] (L' := [(0, .ref (0)), (1, .int (x1)), (2, .int (x2)), (3, .int ((0 : Int32))), (4, .int ((0 : Int32)))]) rfl ?_
  exact c_X8_leavesRows_b39 O hk2 _ _ _ _ _ _ _ hF

def f_X8_leavesRows_b2 : Nat → Int32 → Int32 → IS → Option (IS)
  | 0, _, _, _ => none
  | fu + 1, x1, x2, I =>
    if (4 : Int32) ≤ x2 then
    (some (I))
    else
    (if okI (x2) 4 = true then
    (if (I (3) (x2).toNatClampNeg) = x1 then
    (f_X8_leavesRows_b33 (f_X8_leavesRows_b2 fu) (x1) (x2) (x2) ((-5 : Int32)) (I))
    else
    (if okI (x2) 4 = true then
    (f_X8_leavesRows_b33 (f_X8_leavesRows_b2 fu) (x1) (x2) (x2) ((I (3) (x2).toNatClampNeg)) (I))
    else none))
    else none)
set_option maxHeartbeats 4000000 in
set_option maxRecDepth 100000 in
theorem c_X8_leavesRows_b2 {z : CTX} {J : JS} (O : OK z cX8_leavesRows RX8 5 SMod 36 (rm_ 0 0) none) : ∀ (fu : Nat) (x1 : Int32) (x2 : Int32) (I : IS) (q : IS), f_X8_leavesRows_b2 fu x1 x2 I = some q → G z 2 [(0, .ref (0)), (1, .int (x1)), (2, .int (x2))] [] I J (none, q, J) := by
  intro fu
  induction fu with
  | zero =>
    intro x1 x2 I q hF
    cases hF
  | succ fu ih =>
    intro x1 x2 I q hF
    rw [f_X8_leavesRows_b2] at hF
    refine g_iload_n O (pc := 2) dX8_leavesRows_2 2 rfl ?_
    refine g_iconst O (pc := 3) dX8_leavesRows_3 (ic_4) ?_
    refine g_icmp_ge O (pc := 4) 116 dX8_leavesRows_4 (by decide) (fun h1 => ?_) (fun h1 => ?_)
    · rw [if_pos h1] at hF
      obtain rfl := Option.some.inj hF
      exact g_return O (pc := 116) dX8_leavesRows_116 rfl
    · rw [if_neg h1] at hF
      refine g_aload_n O (pc := 7) dX8_leavesRows_7 0 rfl ?_
      refine g_getR O (pc := 8) isC_X8 dX8_leavesRows_8 fw_X8_20 (by decide) fd_SMod_0_3 ?_
      refine g_iload_n O (pc := 11) dX8_leavesRows_11 2 rfl ?_
      refine g_aload_n O (pc := 12) dX8_leavesRows_12 0 rfl ?_
      refine g_getR O (pc := 13) isC_X8 dX8_leavesRows_13 fw_X8_20 (by decide) fd_SMod_0_3 ?_
      refine g_iload_n O (pc := 16) dX8_leavesRows_16 2 rfl ?_
      obtain ⟨h2, hF⟩ := gd hF
      refine g_il O (pc := 17) dX8_leavesRows_17 ar_SMod_3 h2 ?_
      refine g_iload_n O (pc := 18) dX8_leavesRows_18 1 rfl ?_
      refine g_icmp_ne O (pc := 19) 27 dX8_leavesRows_19 (by decide) (fun h3 => ?_) (fun h3 => ?_)
      · rw [if_neg h3] at hF
        refine g_aload_n O (pc := 27) dX8_leavesRows_27 0 rfl ?_
        refine g_getR O (pc := 28) isC_X8 dX8_leavesRows_28 fw_X8_20 (by decide) fd_SMod_0_3 ?_
        refine g_iload_n O (pc := 31) dX8_leavesRows_31 2 rfl ?_
        obtain ⟨h4, hF⟩ := gd hF
        refine g_il O (pc := 32) dX8_leavesRows_32 ar_SMod_3 h4 ?_
        refine g_sub [0, 1, 2] (L' := [(0, .ref (0)), (1, .int (x1)), (2, .int (x2))]) rfl ?_
        exact c_X8_leavesRows_b33 O ih _ _ _ _ _ _ hF
      · rw [if_pos h3] at hF
        refine g_bipush O (pc := 22) dX8_leavesRows_22 bp_m5 ?_
        refine g_goto O (pc := 24) 33 dX8_leavesRows_24 (by decide) ?_
        refine g_sub [0, 1, 2] (L' := [(0, .ref (0)), (1, .int (x1)), (2, .int (x2))]) rfl ?_
        exact c_X8_leavesRows_b33 O ih _ _ _ _ _ _ hF

def f_X8_leavesRows (x1 : Int32) (I : IS) : Option (IS) :=
  f_X8_leavesRows_b2 LF (x1) ((0 : Int32)) (I)
set_option maxHeartbeats 4000000 in
set_option maxRecDepth 100000 in
theorem c_X8_leavesRows_e {z : CTX} {J : JS} (O : OK z cX8_leavesRows RX8 5 SMod 36 (rm_ 0 0) none) : ∀ (x1 : Int32) (I : IS) (q : IS), f_X8_leavesRows x1 I = some q → G z 0 [(0, .ref (0)), (1, .int (x1))] [] I J (none, q, J) := by
  intro x1 I q hF
  rw [f_X8_leavesRows] at hF
  refine g_iconst O (pc := 0) dX8_leavesRows_0 (ic_0) ?_
  refine g_istore_n O (pc := 1) (L' := [(2, .int ((0 : Int32))), (0, .ref (0)), (1, .int (x1))]) dX8_leavesRows_1 (by decide) rfl ?_
  refine g_sub [1, 2, 0] (L' := [(0, .ref (0)), (1, .int (x1)), (2, .int ((0 : Int32)))]) rfl ?_
  exact c_X8_leavesRows_b2 O _ _ _ _ _ hF

theorem mc_X8_leavesRows {x1 : Int32} {I : IS} (J : JS) {q : IS} (hF : f_X8_leavesRows x1 I = some q) : MC yX8_leavesRows cX8_leavesRows 5 none (rm_ 0 0) SMod 36 [.ref (0), .int (x1)] I J (none, q, J) :=
  mc_of pn_X8 (Nat.le_of_ble_eq_true rfl) (fun z O => c_X8_leavesRows_e O _ _ _ hF)

def f_X8_cancelMarked_b95 (k4 : Int32 → Int32 → IS → Option (Int32 × IS)) (x1 : Int32) (x2 : Int32) (I : IS) : Option (Int32 × IS) :=
  k4 (x1) (x2 + (1 : Int32)) (I)
set_option maxHeartbeats 4000000 in
set_option maxRecDepth 100000 in
theorem c_X8_cancelMarked_b95 {z : CTX} {J : JS} (O : OK z cX8_cancelMarked RX8 3 SMod 36 (rm_ 2 46) (some .int)) {k4 : Int32 → Int32 → IS → Option (Int32 × IS)} (hk4 : ∀ (x1 : Int32) (x2 : Int32) (I : IS) (q : Int32 × IS), k4 x1 x2 I = some q → G z 4 [(0, .ref (0)), (1, .int (x1)), (2, .int (x2))] [] I J (some (.int q.1), q.2, J)) : ∀ (x1 : Int32) (x2 : Int32) (I : IS) (q : Int32 × IS), f_X8_cancelMarked_b95 k4 x1 x2 I = some q → G z 95 [(0, .ref (0)), (1, .int (x1)), (2, .int (x2))] [] I J (some (.int q.1), q.2, J) := by
  intro x1 x2 I q hF
  rw [f_X8_cancelMarked_b95] at hF
  refine g_iinc O (pc := 95) (v := x2 + (1 : Int32)) (L' := [(2, .int (x2 + (1 : Int32))), (0, .ref (0)), (1, .int (x1))]) dX8_cancelMarked_95 2 rfl rfl (by decide) rfl ?_
  refine g_goto O (pc := 98) 4 dX8_cancelMarked_98 (by decide) ?_
  refine g_sub [1, 2, 0] (L' := [(0, .ref (0)), (1, .int (x1)), (2, .int (x2 + (1 : Int32)))]) rfl ?_
  exact hk4 _ _ _ _ hF

def f_X8_cancelMarked_b54 (k4 : Int32 → Int32 → IS → Option (Int32 × IS)) (x1 : Int32) (x2 : Int32) (s1 : Int32) (s2 : Int32) (I : IS) : Option (Int32 × IS) :=
  if okI (s1) 32 = true then
  (if okZ (s2) = true then
  (if okI (x2) 32 = true then
  (if ((u2 I (22) (s1).toNatClampNeg (s2)) (22) (x2).toNatClampNeg) = 0 then
  (f_X8_cancelMarked_b95 k4 (x1) (x2) ((u2 I (22) (s1).toNatClampNeg (s2))))
  else
  ((f_X8_isEnded (x2) (u2 I (22) (s1).toNatClampNeg (s2))).bind fun q5 =>
  (if q5 = 0 then
  ((f_X8_leavesRows (x2) (u2 I (22) (s1).toNatClampNeg (s2))).bind fun q8 =>
  (if okI (x2) 32 = true then
  ((f_X8_entry ((-5 : Int32)) ((5 : Int32)) (x2) (u2 q8 (6) (x2).toNatClampNeg ((5 : Int32)))).bind fun q11 =>
  (f_X8_cancelMarked_b95 k4 (x1 + (1 : Int32)) (x2) (q11)))
  else none))
  else
  (f_X8_cancelMarked_b95 k4 (x1) (x2) ((u2 I (22) (s1).toNatClampNeg (s2)))))))
  else none)
  else none)
  else none
set_option maxHeartbeats 4000000 in
set_option maxRecDepth 100000 in
theorem c_X8_cancelMarked_b54 {z : CTX} {J : JS} (O : OK z cX8_cancelMarked RX8 3 SMod 36 (rm_ 2 46) (some .int)) {k4 : Int32 → Int32 → IS → Option (Int32 × IS)} (hk4 : ∀ (x1 : Int32) (x2 : Int32) (I : IS) (q : Int32 × IS), k4 x1 x2 I = some q → G z 4 [(0, .ref (0)), (1, .int (x1)), (2, .int (x2))] [] I J (some (.int q.1), q.2, J)) : ∀ (x1 : Int32) (x2 : Int32) (s1 : Int32) (s2 : Int32) (I : IS) (q : Int32 × IS), f_X8_cancelMarked_b54 k4 x1 x2 s1 s2 I = some q → G z 54 [(0, .ref (0)), (1, .int (x1)), (2, .int (x2))] [.int (s2), .int (s1), .ref (22)] I J (some (.int q.1), q.2, J) := by
  intro x1 x2 s1 s2 I q hF
  rw [f_X8_cancelMarked_b54] at hF
  obtain ⟨h1, hF⟩ := gd hF
  obtain ⟨h2, hF⟩ := gd hF
  refine g_zs O (pc := 54) dX8_cancelMarked_54 ar_SMod_22 h1 h2 ?_
  refine g_aload_n O (pc := 55) dX8_cancelMarked_55 0 rfl ?_
  refine g_getR O (pc := 56) isC_X8 dX8_cancelMarked_56 fw_X8_80 (by decide) fd_SMod_0_36 ?_
  refine g_iload_n O (pc := 59) dX8_cancelMarked_59 2 rfl ?_
  obtain ⟨h3, hF⟩ := gd hF
  refine g_zl O (pc := 60) dX8_cancelMarked_60 ar_SMod_22 h3 ?_
  refine g_if_eq O (pc := 61) 95 dX8_cancelMarked_61 (by decide) (fun h4 => ?_) (fun h4 => ?_)
  · rw [if_pos h4] at hF
    refine g_sub [0, 1, 2] (L' := [(0, .ref (0)), (1, .int (x1)), (2, .int (x2))]) rfl ?_
    exact c_X8_cancelMarked_b95 O hk4 _ _ _ _ hF
  · rw [if_neg h4] at hF
    refine g_aload_n O (pc := 64) dX8_cancelMarked_64 0 rfl ?_
    refine g_iload_n O (pc := 65) dX8_cancelMarked_65 2 rfl ?_
    obtain ⟨q5, e6, hF⟩ := bnd hF
    refine g_Vi O (pc := 66) (st := []) dX8_cancelMarked_66 (mc_X8_isEnded J e6) cb_X8_isEnded ml_X8_183 isC_X8 ob_SMod (zm0 _ _ _ _ _ _ _) (rmok (Nat.le_of_ble_eq_true rfl) (Nat.le_of_ble_eq_true rfl)) (Nat.le_of_ble_eq_true rfl) rfl ?_
    refine g_if_ne O (pc := 69) 95 dX8_cancelMarked_69 (by decide) (fun h7 => ?_) (fun h7 => ?_)
    · rw [if_neg h7] at hF
      refine g_sub [0, 1, 2] (L' := [(0, .ref (0)), (1, .int (x1)), (2, .int (x2))]) rfl ?_
      exact c_X8_cancelMarked_b95 O hk4 _ _ _ _ hF
    · rw [if_pos h7] at hF
      refine g_aload_n O (pc := 72) dX8_cancelMarked_72 0 rfl ?_
      refine g_iload_n O (pc := 73) dX8_cancelMarked_73 2 rfl ?_
      obtain ⟨q8, e9, hF⟩ := bnd hF
      refine g_Vv O (pc := 74) (st := []) dX8_cancelMarked_74 (mc_X8_leavesRows J e9) cb_X8_leavesRows ml_X8_187 isC_X8 ob_SMod (zm0 _ _ _ _ _ _ _) (rmok (Nat.le_of_ble_eq_true rfl) (Nat.le_of_ble_eq_true rfl)) (Nat.le_of_ble_eq_true rfl) rfl ?_
      refine g_aload_n O (pc := 77) dX8_cancelMarked_77 0 rfl ?_
      refine g_getR O (pc := 78) isC_X8 dX8_cancelMarked_78 fw_X8_29 (by decide) fd_SMod_0_7 ?_
      refine g_iload_n O (pc := 81) dX8_cancelMarked_81 2 rfl ?_
      refine g_iconst O (pc := 82) dX8_cancelMarked_82 (ic_5) ?_
      obtain ⟨h10, hF⟩ := gd hF
      refine g_is O (pc := 83) dX8_cancelMarked_83 ar_SMod_6 h10 ?_
      refine g_aload_n O (pc := 84) dX8_cancelMarked_84 0 rfl ?_
      refine g_bipush O (pc := 85) dX8_cancelMarked_85 bp_m5 ?_
      refine g_iconst O (pc := 87) dX8_cancelMarked_87 (ic_5) ?_
      refine g_iload_n O (pc := 88) dX8_cancelMarked_88 2 rfl ?_
      obtain ⟨q11, e12, hF⟩ := bnd hF
      refine g_Vv O (pc := 89) (st := []) dX8_cancelMarked_89 (mc_X8_entry J e12) cb_X8_entry ml_X8_190 isC_X8 ob_SMod (zm0 _ _ _ _ _ _ _) (rmok (Nat.le_of_ble_eq_true rfl) (Nat.le_of_ble_eq_true rfl)) (Nat.le_of_ble_eq_true rfl) rfl ?_
      refine g_iinc O (pc := 92) (v := x1 + (1 : Int32)) (L' := [(1, .int (x1 + (1 : Int32))), (0, .ref (0)), (2, .int (x2))]) dX8_cancelMarked_92 1 rfl rfl (by decide) rfl ?_
      refine g_sub [1, 0, 2] (L' := [(0, .ref (0)), (1, .int (x1 + (1 : Int32))), (2, .int (x2))]) rfl ?_
      exact c_X8_cancelMarked_b95 O hk4 _ _ _ _ hF

def f_X8_cancelMarked_b49 (k4 : Int32 → Int32 → IS → Option (Int32 × IS)) (x1 : Int32) (x2 : Int32) (s1 : Int32) (I : IS) : Option (Int32 × IS) :=
  f_X8_cancelMarked_b54 k4 (x1) (x2) (s1) ((1 : Int32)) (I)
set_option maxHeartbeats 4000000 in
set_option maxRecDepth 100000 in
theorem c_X8_cancelMarked_b49 {z : CTX} {J : JS} (O : OK z cX8_cancelMarked RX8 3 SMod 36 (rm_ 2 46) (some .int)) {k4 : Int32 → Int32 → IS → Option (Int32 × IS)} (hk4 : ∀ (x1 : Int32) (x2 : Int32) (I : IS) (q : Int32 × IS), k4 x1 x2 I = some q → G z 4 [(0, .ref (0)), (1, .int (x1)), (2, .int (x2))] [] I J (some (.int q.1), q.2, J)) : ∀ (x1 : Int32) (x2 : Int32) (s1 : Int32) (I : IS) (q : Int32 × IS), f_X8_cancelMarked_b49 k4 x1 x2 s1 I = some q → G z 49 [(0, .ref (0)), (1, .int (x1)), (2, .int (x2))] [.int (s1), .ref (22)] I J (some (.int q.1), q.2, J) := by
  intro x1 x2 s1 I q hF
  rw [f_X8_cancelMarked_b49] at hF
  refine g_iconst O (pc := 49) dX8_cancelMarked_49 (ic_1) ?_
  refine g_goto O (pc := 50) 54 dX8_cancelMarked_50 (by decide) ?_
  refine g_sub [0, 1, 2] (L' := [(0, .ref (0)), (1, .int (x1)), (2, .int (x2))]) rfl ?_
  exact c_X8_cancelMarked_b54 O hk4 _ _ _ _ _ _ hF

def f_X8_cancelMarked_b53 (k4 : Int32 → Int32 → IS → Option (Int32 × IS)) (x1 : Int32) (x2 : Int32) (s1 : Int32) (I : IS) : Option (Int32 × IS) :=
  f_X8_cancelMarked_b54 k4 (x1) (x2) (s1) ((0 : Int32)) (I)
set_option maxHeartbeats 4000000 in
set_option maxRecDepth 100000 in
theorem c_X8_cancelMarked_b53 {z : CTX} {J : JS} (O : OK z cX8_cancelMarked RX8 3 SMod 36 (rm_ 2 46) (some .int)) {k4 : Int32 → Int32 → IS → Option (Int32 × IS)} (hk4 : ∀ (x1 : Int32) (x2 : Int32) (I : IS) (q : Int32 × IS), k4 x1 x2 I = some q → G z 4 [(0, .ref (0)), (1, .int (x1)), (2, .int (x2))] [] I J (some (.int q.1), q.2, J)) : ∀ (x1 : Int32) (x2 : Int32) (s1 : Int32) (I : IS) (q : Int32 × IS), f_X8_cancelMarked_b53 k4 x1 x2 s1 I = some q → G z 53 [(0, .ref (0)), (1, .int (x1)), (2, .int (x2))] [.int (s1), .ref (22)] I J (some (.int q.1), q.2, J) := by
  intro x1 x2 s1 I q hF
  rw [f_X8_cancelMarked_b53] at hF
  refine g_iconst O (pc := 53) dX8_cancelMarked_53 (ic_0) ?_
  refine g_sub [0, 1, 2] (L' := [(0, .ref (0)), (1, .int (x1)), (2, .int (x2))]) rfl ?_
  exact c_X8_cancelMarked_b54 O hk4 _ _ _ _ _ _ hF

def f_X8_cancelMarked_b4 : Nat → Int32 → Int32 → IS → Option (Int32 × IS)
  | 0, _, _, _ => none
  | fu + 1, x1, x2, I =>
    if (I (0) 6) ≤ x2 then
    (some (x1, I))
    else
    (if okI (x2) 32 = true then
    (if (I (22) (x2).toNatClampNeg) = 0 then
    (if okI (x2) 32 = true then
    (if (I (10) (x2).toNatClampNeg) < 0 then
    (f_X8_cancelMarked_b53 (f_X8_cancelMarked_b4 fu) (x1) (x2) (x2) (I))
    else
    (if okI (x2) 32 = true then
    (if okI ((I (10) (x2).toNatClampNeg)) 32 = true then
    (if (I (22) ((I (10) (x2).toNatClampNeg)).toNatClampNeg) = 0 then
    (f_X8_cancelMarked_b53 (f_X8_cancelMarked_b4 fu) (x1) (x2) (x2) (I))
    else
    (f_X8_cancelMarked_b49 (f_X8_cancelMarked_b4 fu) (x1) (x2) (x2) (I)))
    else none)
    else none))
    else none)
    else
    (f_X8_cancelMarked_b49 (f_X8_cancelMarked_b4 fu) (x1) (x2) (x2) (I)))
    else none)
set_option maxHeartbeats 4000000 in
set_option maxRecDepth 100000 in
theorem c_X8_cancelMarked_b4 {z : CTX} {J : JS} (O : OK z cX8_cancelMarked RX8 3 SMod 36 (rm_ 2 46) (some .int)) : ∀ (fu : Nat) (x1 : Int32) (x2 : Int32) (I : IS) (q : Int32 × IS), f_X8_cancelMarked_b4 fu x1 x2 I = some q → G z 4 [(0, .ref (0)), (1, .int (x1)), (2, .int (x2))] [] I J (some (.int q.1), q.2, J) := by
  intro fu
  induction fu with
  | zero =>
    intro x1 x2 I q hF
    cases hF
  | succ fu ih =>
    intro x1 x2 I q hF
    rw [f_X8_cancelMarked_b4] at hF
    refine g_iload_n O (pc := 4) dX8_cancelMarked_4 2 rfl ?_
    refine g_aload_n O (pc := 5) dX8_cancelMarked_5 0 rfl ?_
    refine g_getI O (pc := 6) isC_X8 dX8_cancelMarked_6 fw_X8_127 (by decide) fd_SMod_0_6 ?_
    refine g_icmp_ge O (pc := 9) 101 dX8_cancelMarked_9 (by decide) (fun h1 => ?_) (fun h1 => ?_)
    · rw [if_pos h1] at hF
      refine g_iload_n O (pc := 101) dX8_cancelMarked_101 1 rfl ?_
      obtain rfl := Option.some.inj hF
      exact g_ireturn O (pc := 102) dX8_cancelMarked_102 rfl
    · rw [if_neg h1] at hF
      refine g_aload_n O (pc := 12) dX8_cancelMarked_12 0 rfl ?_
      refine g_getR O (pc := 13) isC_X8 dX8_cancelMarked_13 fw_X8_80 (by decide) fd_SMod_0_36 ?_
      refine g_iload_n O (pc := 16) dX8_cancelMarked_16 2 rfl ?_
      refine g_aload_n O (pc := 17) dX8_cancelMarked_17 0 rfl ?_
      refine g_getR O (pc := 18) isC_X8 dX8_cancelMarked_18 fw_X8_80 (by decide) fd_SMod_0_36 ?_
      refine g_iload_n O (pc := 21) dX8_cancelMarked_21 2 rfl ?_
      obtain ⟨h2, hF⟩ := gd hF
      refine g_zl O (pc := 22) dX8_cancelMarked_22 ar_SMod_22 h2 ?_
      refine g_if_ne O (pc := 23) 49 dX8_cancelMarked_23 (by decide) (fun h3 => ?_) (fun h3 => ?_)
      · rw [if_neg h3] at hF
        refine g_sub [0, 1, 2] (L' := [(0, .ref (0)), (1, .int (x1)), (2, .int (x2))]) rfl ?_
        exact c_X8_cancelMarked_b49 O ih _ _ _ _ _ hF
      · rw [if_pos h3] at hF
        refine g_aload_n O (pc := 26) dX8_cancelMarked_26 0 rfl ?_
        refine g_getR O (pc := 27) isC_X8 dX8_cancelMarked_27 fw_X8_41 (by decide) fd_SMod_0_11 ?_
        refine g_iload_n O (pc := 30) dX8_cancelMarked_30 2 rfl ?_
        obtain ⟨h4, hF⟩ := gd hF
        refine g_il O (pc := 31) dX8_cancelMarked_31 ar_SMod_10 h4 ?_
        refine g_if_lt O (pc := 32) 53 dX8_cancelMarked_32 (by decide) (fun h5 => ?_) (fun h5 => ?_)
        · rw [if_pos h5] at hF
          refine g_sub [0, 1, 2] (L' := [(0, .ref (0)), (1, .int (x1)), (2, .int (x2))]) rfl ?_
          exact c_X8_cancelMarked_b53 O ih _ _ _ _ _ hF
        · rw [if_neg h5] at hF
          refine g_aload_n O (pc := 35) dX8_cancelMarked_35 0 rfl ?_
          refine g_getR O (pc := 36) isC_X8 dX8_cancelMarked_36 fw_X8_80 (by decide) fd_SMod_0_36 ?_
          refine g_aload_n O (pc := 39) dX8_cancelMarked_39 0 rfl ?_
          refine g_getR O (pc := 40) isC_X8 dX8_cancelMarked_40 fw_X8_41 (by decide) fd_SMod_0_11 ?_
          refine g_iload_n O (pc := 43) dX8_cancelMarked_43 2 rfl ?_
          obtain ⟨h6, hF⟩ := gd hF
          refine g_il O (pc := 44) dX8_cancelMarked_44 ar_SMod_10 h6 ?_
          obtain ⟨h7, hF⟩ := gd hF
          refine g_zl O (pc := 45) dX8_cancelMarked_45 ar_SMod_22 h7 ?_
          refine g_if_eq O (pc := 46) 53 dX8_cancelMarked_46 (by decide) (fun h8 => ?_) (fun h8 => ?_)
          · rw [if_pos h8] at hF
            refine g_sub [0, 1, 2] (L' := [(0, .ref (0)), (1, .int (x1)), (2, .int (x2))]) rfl ?_
            exact c_X8_cancelMarked_b53 O ih _ _ _ _ _ hF
          · rw [if_neg h8] at hF
            refine g_sub [0, 1, 2] (L' := [(0, .ref (0)), (1, .int (x1)), (2, .int (x2))]) rfl ?_
            exact c_X8_cancelMarked_b49 O ih _ _ _ _ _ hF

def f_X8_cancelMarked (I : IS) : Option (Int32 × IS) :=
  f_X8_cancelMarked_b4 LF ((0 : Int32)) ((0 : Int32)) (I)
set_option maxHeartbeats 4000000 in
set_option maxRecDepth 100000 in
theorem c_X8_cancelMarked_e {z : CTX} {J : JS} (O : OK z cX8_cancelMarked RX8 3 SMod 36 (rm_ 2 46) (some .int)) : ∀ (I : IS) (q : Int32 × IS), f_X8_cancelMarked I = some q → G z 0 [(0, .ref (0))] [] I J (some (.int q.1), q.2, J) := by
  intro I q hF
  rw [f_X8_cancelMarked] at hF
  refine g_iconst O (pc := 0) dX8_cancelMarked_0 (ic_0) ?_
  refine g_istore_n O (pc := 1) (L' := [(1, .int ((0 : Int32))), (0, .ref (0))]) dX8_cancelMarked_1 (by decide) rfl ?_
  refine g_iconst O (pc := 2) dX8_cancelMarked_2 (ic_0) ?_
  refine g_istore_n O (pc := 3) (L' := [(2, .int ((0 : Int32))), (1, .int ((0 : Int32))), (0, .ref (0))]) dX8_cancelMarked_3 (by decide) rfl ?_
  refine g_sub [2, 1, 0] (L' := [(0, .ref (0)), (1, .int ((0 : Int32))), (2, .int ((0 : Int32)))]) rfl ?_
  exact c_X8_cancelMarked_b4 O _ _ _ _ _ hF

theorem mc_X8_cancelMarked {I : IS} (J : JS) {q : Int32 × IS} (hF : f_X8_cancelMarked I = some q) : MC yX8_cancelMarked cX8_cancelMarked 3 (some .int) (rm_ 2 46) SMod 36 [.ref (0)] I J (some (.int q.1), q.2, J) :=
  mc_of pn_X8 (Nat.le_of_ble_eq_true rfl) (fun z O => c_X8_cancelMarked_e O _ _ hF)

def f_X8_cancelIn_b30 (k2 : Int32 → Int32 → IS → Option (IS)) (x1 : Int32) (x2 : Int32) (s1 : Int32) (s2 : Int32) (I : IS) : Option (IS) :=
  if okI (s1) 32 = true then
  (if okZ (s2) = true then
  (k2 (x1) (x2 + (1 : Int32)) ((u2 I (22) (s1).toNatClampNeg (s2))))
  else none)
  else none
set_option maxHeartbeats 4000000 in
set_option maxRecDepth 100000 in
theorem c_X8_cancelIn_b30 {z : CTX} {J : JS} (O : OK z cX8_cancelIn RX8 3 SMod 36 (rm_ 3 68) none) {k2 : Int32 → Int32 → IS → Option (IS)} (hk2 : ∀ (x1 : Int32) (x2 : Int32) (I : IS) (q : IS), k2 x1 x2 I = some q → G z 2 [(0, .ref (0)), (1, .int (x1)), (2, .int (x2))] [] I J (none, q, J)) : ∀ (x1 : Int32) (x2 : Int32) (s1 : Int32) (s2 : Int32) (I : IS) (q : IS), f_X8_cancelIn_b30 k2 x1 x2 s1 s2 I = some q → G z 30 [(0, .ref (0)), (1, .int (x1)), (2, .int (x2))] [.int (s2), .int (s1), .ref (22)] I J (none, q, J) := by
  intro x1 x2 s1 s2 I q hF
  rw [f_X8_cancelIn_b30] at hF
  obtain ⟨h1, hF⟩ := gd hF
  obtain ⟨h2, hF⟩ := gd hF
  refine g_zs O (pc := 30) dX8_cancelIn_30 ar_SMod_22 h1 h2 ?_
  refine g_iinc O (pc := 31) (v := x2 + (1 : Int32)) (L' := [(2, .int (x2 + (1 : Int32))), (0, .ref (0)), (1, .int (x1))]) dX8_cancelIn_31 2 rfl rfl (by decide) rfl ?_
  refine g_goto O (pc := 34) 2 dX8_cancelIn_34 (by decide) ?_
  refine g_sub [1, 2, 0] (L' := [(0, .ref (0)), (1, .int (x1)), (2, .int (x2 + (1 : Int32)))]) rfl ?_
  exact hk2 _ _ _ _ hF

def f_X8_cancelIn_b2 : Nat → Int32 → Int32 → IS → Option (IS)
  | 0, _, _, _ => none
  | fu + 1, x1, x2, I =>
    if (I (0) 6) ≤ x2 then
    ((f_X8_cancelMarked I).bind fun q2 =>
    (some (q2.2)))
    else
    (if okI (x2) 32 = true then
    (if (I (10) (x2).toNatClampNeg) = x1 then
    (f_X8_cancelIn_b30 (f_X8_cancelIn_b2 fu) (x1) (x2) (x2) ((1 : Int32)) (I))
    else
    (f_X8_cancelIn_b30 (f_X8_cancelIn_b2 fu) (x1) (x2) (x2) ((0 : Int32)) (I)))
    else none)
set_option maxHeartbeats 4000000 in
set_option maxRecDepth 100000 in
theorem c_X8_cancelIn_b2 {z : CTX} {J : JS} (O : OK z cX8_cancelIn RX8 3 SMod 36 (rm_ 3 68) none) : ∀ (fu : Nat) (x1 : Int32) (x2 : Int32) (I : IS) (q : IS), f_X8_cancelIn_b2 fu x1 x2 I = some q → G z 2 [(0, .ref (0)), (1, .int (x1)), (2, .int (x2))] [] I J (none, q, J) := by
  intro fu
  induction fu with
  | zero =>
    intro x1 x2 I q hF
    cases hF
  | succ fu ih =>
    intro x1 x2 I q hF
    rw [f_X8_cancelIn_b2] at hF
    refine g_iload_n O (pc := 2) dX8_cancelIn_2 2 rfl ?_
    refine g_aload_n O (pc := 3) dX8_cancelIn_3 0 rfl ?_
    refine g_getI O (pc := 4) isC_X8 dX8_cancelIn_4 fw_X8_127 (by decide) fd_SMod_0_6 ?_
    refine g_icmp_ge O (pc := 7) 37 dX8_cancelIn_7 (by decide) (fun h1 => ?_) (fun h1 => ?_)
    · rw [if_pos h1] at hF
      refine g_aload_n O (pc := 37) dX8_cancelIn_37 0 rfl ?_
      obtain ⟨q2, e3, hF⟩ := bnd hF
      refine g_Vi O (pc := 38) (st := []) dX8_cancelIn_38 (mc_X8_cancelMarked J e3) cb_X8_cancelMarked ml_X8_194 isC_X8 ob_SMod (zm0 _ _ _ _ _ _ _) (rmok (Nat.le_of_ble_eq_true rfl) (Nat.le_of_ble_eq_true rfl)) (Nat.le_of_ble_eq_true rfl) rfl ?_
      refine g_pop O (pc := 41) dX8_cancelIn_41 rfl ?_
      obtain rfl := Option.some.inj hF
      exact g_return O (pc := 42) dX8_cancelIn_42 rfl
    · rw [if_neg h1] at hF
      refine g_aload_n O (pc := 10) dX8_cancelIn_10 0 rfl ?_
      refine g_getR O (pc := 11) isC_X8 dX8_cancelIn_11 fw_X8_80 (by decide) fd_SMod_0_36 ?_
      refine g_iload_n O (pc := 14) dX8_cancelIn_14 2 rfl ?_
      refine g_aload_n O (pc := 15) dX8_cancelIn_15 0 rfl ?_
      refine g_getR O (pc := 16) isC_X8 dX8_cancelIn_16 fw_X8_41 (by decide) fd_SMod_0_11 ?_
      refine g_iload_n O (pc := 19) dX8_cancelIn_19 2 rfl ?_
      obtain ⟨h4, hF⟩ := gd hF
      refine g_il O (pc := 20) dX8_cancelIn_20 ar_SMod_10 h4 ?_
      refine g_iload_n O (pc := 21) dX8_cancelIn_21 1 rfl ?_
      refine g_icmp_ne O (pc := 22) 29 dX8_cancelIn_22 (by decide) (fun h5 => ?_) (fun h5 => ?_)
      · rw [if_neg h5] at hF
        refine g_iconst O (pc := 29) dX8_cancelIn_29 (ic_0) ?_
        refine g_sub [0, 1, 2] (L' := [(0, .ref (0)), (1, .int (x1)), (2, .int (x2))]) rfl ?_
        exact c_X8_cancelIn_b30 O ih _ _ _ _ _ _ hF
      · rw [if_pos h5] at hF
        refine g_iconst O (pc := 25) dX8_cancelIn_25 (ic_1) ?_
        refine g_goto O (pc := 26) 30 dX8_cancelIn_26 (by decide) ?_
        refine g_sub [0, 1, 2] (L' := [(0, .ref (0)), (1, .int (x1)), (2, .int (x2))]) rfl ?_
        exact c_X8_cancelIn_b30 O ih _ _ _ _ _ _ hF

def f_X8_cancelIn (x1 : Int32) (I : IS) : Option (IS) :=
  f_X8_cancelIn_b2 LF (x1) ((0 : Int32)) (I)
set_option maxHeartbeats 4000000 in
set_option maxRecDepth 100000 in
theorem c_X8_cancelIn_e {z : CTX} {J : JS} (O : OK z cX8_cancelIn RX8 3 SMod 36 (rm_ 3 68) none) : ∀ (x1 : Int32) (I : IS) (q : IS), f_X8_cancelIn x1 I = some q → G z 0 [(0, .ref (0)), (1, .int (x1))] [] I J (none, q, J) := by
  intro x1 I q hF
  rw [f_X8_cancelIn] at hF
  refine g_iconst O (pc := 0) dX8_cancelIn_0 (ic_0) ?_
  refine g_istore_n O (pc := 1) (L' := [(2, .int ((0 : Int32))), (0, .ref (0)), (1, .int (x1))]) dX8_cancelIn_1 (by decide) rfl ?_
  refine g_sub [1, 2, 0] (L' := [(0, .ref (0)), (1, .int (x1)), (2, .int ((0 : Int32)))]) rfl ?_
  exact c_X8_cancelIn_b2 O _ _ _ _ _ hF

theorem mc_X8_cancelIn {x1 : Int32} {I : IS} (J : JS) {q : IS} (hF : f_X8_cancelIn x1 I = some q) : MC yX8_cancelIn cX8_cancelIn 3 none (rm_ 3 68) SMod 36 [.ref (0), .int (x1)] I J (none, q, J) :=
  mc_of pn_X8 (Nat.le_of_ble_eq_true rfl) (fun z O => c_X8_cancelIn_e O _ _ _ hF)

def f_X8_worthIn_b48 (k9 : Int32 → Int32 → Int32 → IS → Option (Int32)) (x1 : Int32) (x3 : Int32) (s0 : Int32) (s1 : Int32) (I : IS) : Option (Int32) :=
  k9 (x1) ((s0 + s1)) (x3 + (1 : Int32)) (I)
set_option maxHeartbeats 4000000 in
set_option maxRecDepth 100000 in
theorem c_X8_worthIn_b48 {z : CTX} {J : JS} (O : OK z cX8_worthIn RX8 4 SMod 36 (rm_ 0 0) (some .int)) {k9 : Int32 → Int32 → Int32 → IS → Option (Int32)} (hk9 : ∀ (x1 : Int32) (x2 : Int32) (x3 : Int32) (I : IS) (q : Int32), k9 x1 x2 x3 I = some q → G z 9 [(0, .ref (0)), (1, .int (x1)), (2, .int (x2)), (3, .int (x3))] [] I J (some (.int q), I, J)) : ∀ (x1 : Int32) (x3 : Int32) (s0 : Int32) (s1 : Int32) (I : IS) (q : Int32), f_X8_worthIn_b48 k9 x1 x3 s0 s1 I = some q → G z 48 [(0, .ref (0)), (1, .int (x1)), (3, .int (x3))] [.int (s1), .int (s0)] I J (some (.int q), I, J) := by
  intro x1 x3 s0 s1 I q hF
  rw [f_X8_worthIn_b48] at hF
  refine g_iadd O (pc := 48) dX8_worthIn_48 ?_
  refine g_istore_n O (pc := 49) (L' := [(2, .int ((s0 + s1))), (0, .ref (0)), (1, .int (x1)), (3, .int (x3))]) dX8_worthIn_49 (by decide) rfl ?_
  refine g_iinc O (pc := 50) (v := x3 + (1 : Int32)) (L' := [(3, .int (x3 + (1 : Int32))), (2, .int ((s0 + s1))), (0, .ref (0)), (1, .int (x1))]) dX8_worthIn_50 3 rfl rfl (by decide) rfl ?_
  refine g_goto O (pc := 53) 9 dX8_worthIn_53 (by decide) ?_
  refine g_sub [2, 3, 1, 0] (L' := [(0, .ref (0)), (1, .int (x1)), (2, .int ((s0 + s1))), (3, .int (x3 + (1 : Int32)))]) rfl ?_
  exact hk9 _ _ _ _ _ hF

def f_X8_worthIn_b47 (k9 : Int32 → Int32 → Int32 → IS → Option (Int32)) (x1 : Int32) (x3 : Int32) (s0 : Int32) (I : IS) : Option (Int32) :=
  f_X8_worthIn_b48 k9 (x1) (x3) (s0) ((0 : Int32)) (I)
set_option maxHeartbeats 4000000 in
set_option maxRecDepth 100000 in
theorem c_X8_worthIn_b47 {z : CTX} {J : JS} (O : OK z cX8_worthIn RX8 4 SMod 36 (rm_ 0 0) (some .int)) {k9 : Int32 → Int32 → Int32 → IS → Option (Int32)} (hk9 : ∀ (x1 : Int32) (x2 : Int32) (x3 : Int32) (I : IS) (q : Int32), k9 x1 x2 x3 I = some q → G z 9 [(0, .ref (0)), (1, .int (x1)), (2, .int (x2)), (3, .int (x3))] [] I J (some (.int q), I, J)) : ∀ (x1 : Int32) (x3 : Int32) (s0 : Int32) (I : IS) (q : Int32), f_X8_worthIn_b47 k9 x1 x3 s0 I = some q → G z 47 [(0, .ref (0)), (1, .int (x1)), (3, .int (x3))] [.int (s0)] I J (some (.int q), I, J) := by
  intro x1 x3 s0 I q hF
  rw [f_X8_worthIn_b47] at hF
  refine g_iconst O (pc := 47) dX8_worthIn_47 (ic_0) ?_
  refine g_sub [0, 1, 2] (L' := [(0, .ref (0)), (1, .int (x1)), (3, .int (x3))]) rfl ?_
  exact c_X8_worthIn_b48 O hk9 _ _ _ _ _ _ hF

def f_X8_worthIn_b9 : Nat → Int32 → Int32 → Int32 → IS → Option (Int32)
  | 0, _, _, _, _ => none
  | fu + 1, x1, x2, x3, I =>
    if (I (0) 6) ≤ x3 then
    (some (x2))
    else
    (if okI (x3) 32 = true then
    (if (I (10) (x3).toNatClampNeg) = x1 then
    (if okI (x3) 32 = true then
    (if (I (6) (x3).toNatClampNeg) = (3 : Int32) then
    (if okI (x3) 32 = true then
    (f_X8_worthIn_b48 (f_X8_worthIn_b9 fu) (x1) (x3) (x2) ((I (9) (x3).toNatClampNeg)) (I))
    else none)
    else
    (f_X8_worthIn_b47 (f_X8_worthIn_b9 fu) (x1) (x3) (x2) (I)))
    else none)
    else
    (f_X8_worthIn_b47 (f_X8_worthIn_b9 fu) (x1) (x3) (x2) (I)))
    else none)
set_option maxHeartbeats 4000000 in
set_option maxRecDepth 100000 in
theorem c_X8_worthIn_b9 {z : CTX} {J : JS} (O : OK z cX8_worthIn RX8 4 SMod 36 (rm_ 0 0) (some .int)) : ∀ (fu : Nat) (x1 : Int32) (x2 : Int32) (x3 : Int32) (I : IS) (q : Int32), f_X8_worthIn_b9 fu x1 x2 x3 I = some q → G z 9 [(0, .ref (0)), (1, .int (x1)), (2, .int (x2)), (3, .int (x3))] [] I J (some (.int q), I, J) := by
  intro fu
  induction fu with
  | zero =>
    intro x1 x2 x3 I q hF
    cases hF
  | succ fu ih =>
    intro x1 x2 x3 I q hF
    rw [f_X8_worthIn_b9] at hF
    refine g_iload_n O (pc := 9) dX8_worthIn_9 3 rfl ?_
    refine g_aload_n O (pc := 10) dX8_worthIn_10 0 rfl ?_
    refine g_getI O (pc := 11) isC_X8 dX8_worthIn_11 fw_X8_127 (by decide) fd_SMod_0_6 ?_
    refine g_icmp_ge O (pc := 14) 56 dX8_worthIn_14 (by decide) (fun h1 => ?_) (fun h1 => ?_)
    · rw [if_pos h1] at hF
      refine g_iload_n O (pc := 56) dX8_worthIn_56 2 rfl ?_
      obtain rfl := Option.some.inj hF
      exact g_ireturn O (pc := 57) dX8_worthIn_57 rfl
    · rw [if_neg h1] at hF
      refine g_iload_n O (pc := 17) dX8_worthIn_17 2 rfl ?_
      refine g_aload_n O (pc := 18) dX8_worthIn_18 0 rfl ?_
      refine g_getR O (pc := 19) isC_X8 dX8_worthIn_19 fw_X8_41 (by decide) fd_SMod_0_11 ?_
      refine g_iload_n O (pc := 22) dX8_worthIn_22 3 rfl ?_
      obtain ⟨h2, hF⟩ := gd hF
      refine g_il O (pc := 23) dX8_worthIn_23 ar_SMod_10 h2 ?_
      refine g_iload_n O (pc := 24) dX8_worthIn_24 1 rfl ?_
      refine g_icmp_ne O (pc := 25) 47 dX8_worthIn_25 (by decide) (fun h3 => ?_) (fun h3 => ?_)
      · rw [if_neg h3] at hF
        refine g_sub [0, 1, 3] (L' := [(0, .ref (0)), (1, .int (x1)), (3, .int (x3))]) rfl ?_
        exact c_X8_worthIn_b47 O ih _ _ _ _ _ hF
      · rw [if_pos h3] at hF
        refine g_aload_n O (pc := 28) dX8_worthIn_28 0 rfl ?_
        refine g_getR O (pc := 29) isC_X8 dX8_worthIn_29 fw_X8_29 (by decide) fd_SMod_0_7 ?_
        refine g_iload_n O (pc := 32) dX8_worthIn_32 3 rfl ?_
        obtain ⟨h4, hF⟩ := gd hF
        refine g_il O (pc := 33) dX8_worthIn_33 ar_SMod_6 h4 ?_
        refine g_iconst O (pc := 34) dX8_worthIn_34 (ic_3) ?_
        refine g_icmp_ne O (pc := 35) 47 dX8_worthIn_35 (by decide) (fun h5 => ?_) (fun h5 => ?_)
        · rw [if_neg h5] at hF
          refine g_sub [0, 1, 3] (L' := [(0, .ref (0)), (1, .int (x1)), (3, .int (x3))]) rfl ?_
          exact c_X8_worthIn_b47 O ih _ _ _ _ _ hF
        · rw [if_pos h5] at hF
          refine g_aload_n O (pc := 38) dX8_worthIn_38 0 rfl ?_
          refine g_getR O (pc := 39) isC_X8 dX8_worthIn_39 fw_X8_38 (by decide) fd_SMod_0_10 ?_
          refine g_iload_n O (pc := 42) dX8_worthIn_42 3 rfl ?_
          obtain ⟨h6, hF⟩ := gd hF
          refine g_il O (pc := 43) dX8_worthIn_43 ar_SMod_9 h6 ?_
          refine g_goto O (pc := 44) 48 dX8_worthIn_44 (by decide) ?_
          refine g_sub [0, 1, 3] (L' := [(0, .ref (0)), (1, .int (x1)), (3, .int (x3))]) rfl ?_
          exact c_X8_worthIn_b48 O ih _ _ _ _ _ _ hF

def f_X8_worthIn (x1 : Int32) (I : IS) : Option (Int32) :=
  if okI (x1) 32 = true then
  (f_X8_worthIn_b9 LF (x1) ((I (7) (x1).toNatClampNeg)) ((0 : Int32)) (I))
  else none
set_option maxHeartbeats 4000000 in
set_option maxRecDepth 100000 in
theorem c_X8_worthIn_e {z : CTX} {J : JS} (O : OK z cX8_worthIn RX8 4 SMod 36 (rm_ 0 0) (some .int)) : ∀ (x1 : Int32) (I : IS) (q : Int32), f_X8_worthIn x1 I = some q → G z 0 [(0, .ref (0)), (1, .int (x1))] [] I J (some (.int q), I, J) := by
  intro x1 I q hF
  rw [f_X8_worthIn] at hF
  refine g_aload_n O (pc := 0) dX8_worthIn_0 0 rfl ?_
  refine g_getR O (pc := 1) isC_X8 dX8_worthIn_1 fw_X8_32 (by decide) fd_SMod_0_8 ?_
  refine g_iload_n O (pc := 4) dX8_worthIn_4 1 rfl ?_
  obtain ⟨h1, hF⟩ := gd hF
  refine g_il O (pc := 5) dX8_worthIn_5 ar_SMod_7 h1 ?_
  refine g_istore_n O (pc := 6) (L' := [(2, .int ((I (7) (x1).toNatClampNeg))), (0, .ref (0)), (1, .int (x1))]) dX8_worthIn_6 (by decide) rfl ?_
  refine g_iconst O (pc := 7) dX8_worthIn_7 (ic_0) ?_
  refine g_istore_n O (pc := 8) (L' := [(3, .int ((0 : Int32))), (2, .int ((I (7) (x1).toNatClampNeg))), (0, .ref (0)), (1, .int (x1))]) dX8_worthIn_8 (by decide) rfl ?_
  refine g_sub [2, 3, 1, 0] (L' := [(0, .ref (0)), (1, .int (x1)), (2, .int ((I (7) (x1).toNatClampNeg))), (3, .int ((0 : Int32)))]) rfl ?_
  exact c_X8_worthIn_b9 O _ _ _ _ _ _ hF

theorem mc_X8_worthIn {x1 : Int32} {I : IS} (J : JS) {q : Int32} (hF : f_X8_worthIn x1 I = some q) : MC yX8_worthIn cX8_worthIn 4 (some .int) (rm_ 0 0) SMod 36 [.ref (0), .int (x1)] I J (some (.int q), I, J) :=
  mc_of pn_X8 (Nat.le_of_ble_eq_true rfl) (fun z O => c_X8_worthIn_e O _ _ _ hF)

def f_X8_goesUp_b133 (k2 : Int32 → IS → Option (IS)) (x3 : Int32) (I : IS) : Option (IS) :=
  k2 (x3) (I)
set_option maxHeartbeats 4000000 in
set_option maxRecDepth 100000 in
theorem c_X8_goesUp_b133 {z : CTX} {J : JS} (O : OK z cX8_goesUp RX8 5 SMod 36 (rm_ 4 90) none) {k2 : Int32 → IS → Option (IS)} (hk2 : ∀ (x2 : Int32) (I : IS) (q : IS), k2 x2 I = some q → G z 2 [(0, .ref (0)), (2, .int (x2))] [] I J (none, q, J)) : ∀ (x3 : Int32) (I : IS) (q : IS), f_X8_goesUp_b133 k2 x3 I = some q → G z 133 [(0, .ref (0)), (3, .int (x3))] [] I J (none, q, J) := by
  intro x3 I q hF
  rw [f_X8_goesUp_b133] at hF
  refine g_iload_n O (pc := 133) dX8_goesUp_133 1 rfl ?_
  refine g_istore_n O (pc := 134) (L' := [(2, .int (x3)), (0, .ref (0)), (3, .int (x3))]) dX8_goesUp_134 (by decide) rfl ?_
  refine g_goto O (pc := 135) 2 dX8_goesUp_135 (by decide) ?_
  refine g_sub [1, 0] (L' := [(0, .ref (0)), (2, .int (x3))]) rfl ?_
  exact hk2 _ _ _ hF

def f_X8_goesUp_b131 (k2 : Int32 → IS → Option (IS)) (I : IS) : Option (IS) :=
  f_X8_goesUp_b133 k2 ((-1 : Int32)) (I)
set_option maxHeartbeats 4000000 in
set_option maxRecDepth 100000 in
theorem c_X8_goesUp_b131 {z : CTX} {J : JS} (O : OK z cX8_goesUp RX8 5 SMod 36 (rm_ 4 90) none) {k2 : Int32 → IS → Option (IS)} (hk2 : ∀ (x2 : Int32) (I : IS) (q : IS), k2 x2 I = some q → G z 2 [(0, .ref (0)), (2, .int (x2))] [] I J (none, q, J)) : ∀ (I : IS) (q : IS), f_X8_goesUp_b131 k2 I = some q → G z 131 [(0, .ref (0))] [] I J (none, q, J) := by
  intro I q hF
  rw [f_X8_goesUp_b131] at hF
  refine g_iconst O (pc := 131) dX8_goesUp_131 (ic_m1) ?_
  refine g_istore_n O (pc := 132) (L' := [(3, .int ((-1 : Int32))), (0, .ref (0))]) dX8_goesUp_132 (by decide) rfl ?_
  refine g_sub [1, 0] (L' := [(0, .ref (0)), (3, .int ((-1 : Int32)))]) rfl ?_
  exact c_X8_goesUp_b133 O hk2 _ _ _ hF

def f_X8_goesUp_b89 (k2 : Int32 → IS → Option (IS)) (x3 : Int32) (x4 : Int32) (I : IS) : Option (IS) :=
  if x4 = 0 then
  (f_X8_goesUp_b131 k2 (I))
  else
  ((f_X8_allEnded (x3) I).bind fun q2 =>
  (if q2 = 0 then
  (f_X8_goesUp_b131 k2 (I))
  else
  (if okI (x3) 32 = true then
  ((f_X8_worthIn (x3) (u2 I (6) (x3).toNatClampNeg ((3 : Int32)))).bind fun q6 =>
  (if okI (x3) 32 = true then
  ((f_X8_entry ((-5 : Int32)) ((3 : Int32)) (x3) (u2 (u2 I (6) (x3).toNatClampNeg ((3 : Int32))) (9) (x3).toNatClampNeg (q6))).bind fun q9 =>
  (f_X8_goesUp_b133 k2 (x3) (q9)))
  else none))
  else none)))
set_option maxHeartbeats 4000000 in
set_option maxRecDepth 100000 in
theorem c_X8_goesUp_b89 {z : CTX} {J : JS} (O : OK z cX8_goesUp RX8 5 SMod 36 (rm_ 4 90) none) {k2 : Int32 → IS → Option (IS)} (hk2 : ∀ (x2 : Int32) (I : IS) (q : IS), k2 x2 I = some q → G z 2 [(0, .ref (0)), (2, .int (x2))] [] I J (none, q, J)) : ∀ (x3 : Int32) (x4 : Int32) (I : IS) (q : IS), f_X8_goesUp_b89 k2 x3 x4 I = some q → G z 89 [(0, .ref (0)), (3, .int (x3)), (4, .int (x4))] [] I J (none, q, J) := by
  intro x3 x4 I q hF
  rw [f_X8_goesUp_b89] at hF
  refine g_iload O (pc := 89) dX8_goesUp_89 2 rfl ?_
  refine g_if_eq O (pc := 91) 131 dX8_goesUp_91 (by decide) (fun h1 => ?_) (fun h1 => ?_)
  · rw [if_pos h1] at hF
    refine g_sub [0] (L' := [(0, .ref (0))]) rfl ?_
    exact c_X8_goesUp_b131 O hk2 _ _ hF
  · rw [if_neg h1] at hF
    refine g_aload_n O (pc := 94) dX8_goesUp_94 0 rfl ?_
    refine g_iload_n O (pc := 95) dX8_goesUp_95 1 rfl ?_
    obtain ⟨q2, e3, hF⟩ := bnd hF
    refine g_Vi O (pc := 96) (st := []) dX8_goesUp_96 (mc_X8_allEnded J e3) cb_X8_allEnded ml_X8_201 isC_X8 ob_SMod (zm0 _ _ _ _ _ _ _) (rmok (Nat.le_of_ble_eq_true rfl) (Nat.le_of_ble_eq_true rfl)) (Nat.le_of_ble_eq_true rfl) rfl ?_
    refine g_if_eq O (pc := 99) 131 dX8_goesUp_99 (by decide) (fun h4 => ?_) (fun h4 => ?_)
    · rw [if_pos h4] at hF
      refine g_sub [0] (L' := [(0, .ref (0))]) rfl ?_
      exact c_X8_goesUp_b131 O hk2 _ _ hF
    · rw [if_neg h4] at hF
      refine g_aload_n O (pc := 102) dX8_goesUp_102 0 rfl ?_
      refine g_getR O (pc := 103) isC_X8 dX8_goesUp_103 fw_X8_29 (by decide) fd_SMod_0_7 ?_
      refine g_iload_n O (pc := 106) dX8_goesUp_106 1 rfl ?_
      refine g_iconst O (pc := 107) dX8_goesUp_107 (ic_3) ?_
      obtain ⟨h5, hF⟩ := gd hF
      refine g_is O (pc := 108) dX8_goesUp_108 ar_SMod_6 h5 ?_
      refine g_aload_n O (pc := 109) dX8_goesUp_109 0 rfl ?_
      refine g_getR O (pc := 110) isC_X8 dX8_goesUp_110 fw_X8_38 (by decide) fd_SMod_0_10 ?_
      refine g_iload_n O (pc := 113) dX8_goesUp_113 1 rfl ?_
      refine g_aload_n O (pc := 114) dX8_goesUp_114 0 rfl ?_
      refine g_iload_n O (pc := 115) dX8_goesUp_115 1 rfl ?_
      obtain ⟨q6, e7, hF⟩ := bnd hF
      refine g_Vi O (pc := 116) (st := [.int (x3), .ref (9)]) dX8_goesUp_116 (mc_X8_worthIn J e7) cb_X8_worthIn ml_X8_204 isC_X8 ob_SMod (zm0 _ _ _ _ _ _ _) (rmok (Nat.le_of_ble_eq_true rfl) (Nat.le_of_ble_eq_true rfl)) (Nat.le_of_ble_eq_true rfl) rfl ?_
      obtain ⟨h8, hF⟩ := gd hF
      refine g_is O (pc := 119) dX8_goesUp_119 ar_SMod_9 h8 ?_
      refine g_aload_n O (pc := 120) dX8_goesUp_120 0 rfl ?_
      refine g_bipush O (pc := 121) dX8_goesUp_121 bp_m5 ?_
      refine g_iconst O (pc := 123) dX8_goesUp_123 (ic_3) ?_
      refine g_iload_n O (pc := 124) dX8_goesUp_124 1 rfl ?_
      obtain ⟨q9, e10, hF⟩ := bnd hF
      refine g_Vv O (pc := 125) (st := []) dX8_goesUp_125 (mc_X8_entry J e10) cb_X8_entry ml_X8_190 isC_X8 ob_SMod (zm0 _ _ _ _ _ _ _) (rmok (Nat.le_of_ble_eq_true rfl) (Nat.le_of_ble_eq_true rfl)) (Nat.le_of_ble_eq_true rfl) rfl ?_
      refine g_goto O (pc := 128) 133 dX8_goesUp_128 (by decide) ?_
      refine g_sub [0, 1] (L' := [(0, .ref (0)), (3, .int (x3))]) rfl ?_
      exact c_X8_goesUp_b133 O hk2 _ _ _ hF

def f_X8_goesUp_b32 (k2 : Int32 → IS → Option (IS)) (x2 : Int32) (x3 : Int32) (s0 : Int32) (I : IS) : Option (IS) :=
  if s0 = 0 then
  (f_X8_goesUp_b89 k2 (x3) (s0) (I))
  else
  (if okI (x2) 32 = true then
  (if (I (6) (x2).toNatClampNeg) = (4 : Int32) then
  (if okI (x3) 32 = true then
  (if (I (11) (x3).toNatClampNeg) = (2 : Int32) then
  (f_X8_goesUp_b89 k2 (x3) (s0) (I))
  else
  ((f_X8_cancelIn (x3) I).bind fun q6 =>
  (if okI (x3) 32 = true then
  (if okI (x3) 32 = true then
  ((f_X8_entry ((-5 : Int32)) ((4 : Int32)) (x3) (u2 (u2 q6 (6) (x3).toNatClampNeg ((4 : Int32))) (12) (x3).toNatClampNeg (x2))).bind fun q10 =>
  (f_X8_goesUp_b133 k2 (x3) (q10)))
  else none)
  else none)))
  else none)
  else
  (f_X8_goesUp_b89 k2 (x3) (s0) (I)))
  else none)
set_option maxHeartbeats 4000000 in
set_option maxRecDepth 100000 in
theorem c_X8_goesUp_b32 {z : CTX} {J : JS} (O : OK z cX8_goesUp RX8 5 SMod 36 (rm_ 4 90) none) {k2 : Int32 → IS → Option (IS)} (hk2 : ∀ (x2 : Int32) (I : IS) (q : IS), k2 x2 I = some q → G z 2 [(0, .ref (0)), (2, .int (x2))] [] I J (none, q, J)) : ∀ (x2 : Int32) (x3 : Int32) (s0 : Int32) (I : IS) (q : IS), f_X8_goesUp_b32 k2 x2 x3 s0 I = some q → G z 32 [(0, .ref (0)), (2, .int (x2)), (3, .int (x3))] [.int (s0)] I J (none, q, J) := by
  intro x2 x3 s0 I q hF
  rw [f_X8_goesUp_b32] at hF
  refine g_istore O (pc := 32) (L' := [(4, .int (s0)), (0, .ref (0)), (2, .int (x2)), (3, .int (x3))]) dX8_goesUp_32 (by decide) rfl ?_
  refine g_iload O (pc := 34) dX8_goesUp_34 0 rfl ?_
  refine g_if_eq O (pc := 36) 89 dX8_goesUp_36 (by decide) (fun h1 => ?_) (fun h1 => ?_)
  · rw [if_pos h1] at hF
    refine g_sub [1, 3, 0] (L' := [(0, .ref (0)), (3, .int (x3)), (4, .int (s0))]) rfl ?_
    exact c_X8_goesUp_b89 O hk2 _ _ _ _ hF
  · rw [if_neg h1] at hF
    refine g_aload_n O (pc := 39) dX8_goesUp_39 1 rfl ?_
    refine g_getR O (pc := 40) isC_X8 dX8_goesUp_40 fw_X8_29 (by decide) fd_SMod_0_7 ?_
    refine g_iload_n O (pc := 43) dX8_goesUp_43 2 rfl ?_
    obtain ⟨h2, hF⟩ := gd hF
    refine g_il O (pc := 44) dX8_goesUp_44 ar_SMod_6 h2 ?_
    refine g_iconst O (pc := 45) dX8_goesUp_45 (ic_4) ?_
    refine g_icmp_ne O (pc := 46) 89 dX8_goesUp_46 (by decide) (fun h3 => ?_) (fun h3 => ?_)
    · rw [if_neg h3] at hF
      refine g_sub [1, 3, 0] (L' := [(0, .ref (0)), (3, .int (x3)), (4, .int (s0))]) rfl ?_
      exact c_X8_goesUp_b89 O hk2 _ _ _ _ hF
    · rw [if_pos h3] at hF
      refine g_aload_n O (pc := 49) dX8_goesUp_49 1 rfl ?_
      refine g_getR O (pc := 50) isC_X8 dX8_goesUp_50 fw_X8_44 (by decide) fd_SMod_0_12 ?_
      refine g_iload_n O (pc := 53) dX8_goesUp_53 3 rfl ?_
      obtain ⟨h4, hF⟩ := gd hF
      refine g_il O (pc := 54) dX8_goesUp_54 ar_SMod_11 h4 ?_
      refine g_iconst O (pc := 55) dX8_goesUp_55 (ic_2) ?_
      refine g_icmp_eq O (pc := 56) 89 dX8_goesUp_56 (by decide) (fun h5 => ?_) (fun h5 => ?_)
      · rw [if_pos h5] at hF
        refine g_sub [1, 3, 0] (L' := [(0, .ref (0)), (3, .int (x3)), (4, .int (s0))]) rfl ?_
        exact c_X8_goesUp_b89 O hk2 _ _ _ _ hF
      · rw [if_neg h5] at hF
        refine g_aload_n O (pc := 59) dX8_goesUp_59 1 rfl ?_
        refine g_iload_n O (pc := 60) dX8_goesUp_60 3 rfl ?_
        obtain ⟨q6, e7, hF⟩ := bnd hF
        refine g_Vv O (pc := 61) (st := []) dX8_goesUp_61 (mc_X8_cancelIn J e7) cb_X8_cancelIn ml_X8_198 isC_X8 ob_SMod (zm0 _ _ _ _ _ _ _) (rmok (Nat.le_of_ble_eq_true rfl) (Nat.le_of_ble_eq_true rfl)) (Nat.le_of_ble_eq_true rfl) rfl ?_
        refine g_aload_n O (pc := 64) dX8_goesUp_64 1 rfl ?_
        refine g_getR O (pc := 65) isC_X8 dX8_goesUp_65 fw_X8_29 (by decide) fd_SMod_0_7 ?_
        refine g_iload_n O (pc := 68) dX8_goesUp_68 3 rfl ?_
        refine g_iconst O (pc := 69) dX8_goesUp_69 (ic_4) ?_
        obtain ⟨h8, hF⟩ := gd hF
        refine g_is O (pc := 70) dX8_goesUp_70 ar_SMod_6 h8 ?_
        refine g_aload_n O (pc := 71) dX8_goesUp_71 1 rfl ?_
        refine g_getR O (pc := 72) isC_X8 dX8_goesUp_72 fw_X8_47 (by decide) fd_SMod_0_13 ?_
        refine g_iload_n O (pc := 75) dX8_goesUp_75 3 rfl ?_
        refine g_iload_n O (pc := 76) dX8_goesUp_76 2 rfl ?_
        obtain ⟨h9, hF⟩ := gd hF
        refine g_is O (pc := 77) dX8_goesUp_77 ar_SMod_12 h9 ?_
        refine g_aload_n O (pc := 78) dX8_goesUp_78 1 rfl ?_
        refine g_bipush O (pc := 79) dX8_goesUp_79 bp_m5 ?_
        refine g_iconst O (pc := 81) dX8_goesUp_81 (ic_4) ?_
        refine g_iload_n O (pc := 82) dX8_goesUp_82 3 rfl ?_
        obtain ⟨q10, e11, hF⟩ := bnd hF
        refine g_Vv O (pc := 83) (st := []) dX8_goesUp_83 (mc_X8_entry J e11) cb_X8_entry ml_X8_190 isC_X8 ob_SMod (zm0 _ _ _ _ _ _ _) (rmok (Nat.le_of_ble_eq_true rfl) (Nat.le_of_ble_eq_true rfl)) (Nat.le_of_ble_eq_true rfl) rfl ?_
        refine g_goto O (pc := 86) 133 dX8_goesUp_86 (by decide) ?_
        refine g_sub [1, 3] (L' := [(0, .ref (0)), (3, .int (x3))]) rfl ?_
        exact c_X8_goesUp_b133 O hk2 _ _ _ hF

def f_X8_goesUp_b31 (k2 : Int32 → IS → Option (IS)) (x2 : Int32) (x3 : Int32) (I : IS) : Option (IS) :=
  f_X8_goesUp_b32 k2 (x2) (x3) ((0 : Int32)) (I)
set_option maxHeartbeats 4000000 in
set_option maxRecDepth 100000 in
theorem c_X8_goesUp_b31 {z : CTX} {J : JS} (O : OK z cX8_goesUp RX8 5 SMod 36 (rm_ 4 90) none) {k2 : Int32 → IS → Option (IS)} (hk2 : ∀ (x2 : Int32) (I : IS) (q : IS), k2 x2 I = some q → G z 2 [(0, .ref (0)), (2, .int (x2))] [] I J (none, q, J)) : ∀ (x2 : Int32) (x3 : Int32) (I : IS) (q : IS), f_X8_goesUp_b31 k2 x2 x3 I = some q → G z 31 [(0, .ref (0)), (2, .int (x2)), (3, .int (x3))] [] I J (none, q, J) := by
  intro x2 x3 I q hF
  rw [f_X8_goesUp_b31] at hF
  refine g_iconst O (pc := 31) dX8_goesUp_31 (ic_0) ?_
  refine g_sub [0, 1, 2] (L' := [(0, .ref (0)), (2, .int (x2)), (3, .int (x3))]) rfl ?_
  exact c_X8_goesUp_b32 O hk2 _ _ _ _ _ hF

def f_X8_goesUp_b2 : Nat → Int32 → IS → Option (IS)
  | 0, _, _ => none
  | fu + 1, x2, I =>
    if x2 < 0 then
    (some (I))
    else
    (if okI (x2) 32 = true then
    (if (I (10) (x2).toNatClampNeg) < 0 then
    (f_X8_goesUp_b31 (f_X8_goesUp_b2 fu) (x2) ((I (10) (x2).toNatClampNeg)) (I))
    else
    (if okI ((I (10) (x2).toNatClampNeg)) 32 = true then
    (if (I (6) ((I (10) (x2).toNatClampNeg)).toNatClampNeg) = (2 : Int32) then
    (f_X8_goesUp_b32 (f_X8_goesUp_b2 fu) (x2) ((I (10) (x2).toNatClampNeg)) ((1 : Int32)) (I))
    else
    (f_X8_goesUp_b31 (f_X8_goesUp_b2 fu) (x2) ((I (10) (x2).toNatClampNeg)) (I)))
    else none))
    else none)
set_option maxHeartbeats 4000000 in
set_option maxRecDepth 100000 in
theorem c_X8_goesUp_b2 {z : CTX} {J : JS} (O : OK z cX8_goesUp RX8 5 SMod 36 (rm_ 4 90) none) : ∀ (fu : Nat) (x2 : Int32) (I : IS) (q : IS), f_X8_goesUp_b2 fu x2 I = some q → G z 2 [(0, .ref (0)), (2, .int (x2))] [] I J (none, q, J) := by
  intro fu
  induction fu with
  | zero =>
    intro x2 I q hF
    cases hF
  | succ fu ih =>
    intro x2 I q hF
    rw [f_X8_goesUp_b2] at hF
    refine g_iload_n O (pc := 2) dX8_goesUp_2 1 rfl ?_
    refine g_if_lt O (pc := 3) 138 dX8_goesUp_3 (by decide) (fun h1 => ?_) (fun h1 => ?_)
    · rw [if_pos h1] at hF
      obtain rfl := Option.some.inj hF
      exact g_return O (pc := 138) dX8_goesUp_138 rfl
    · rw [if_neg h1] at hF
      refine g_aload_n O (pc := 6) dX8_goesUp_6 0 rfl ?_
      refine g_getR O (pc := 7) isC_X8 dX8_goesUp_7 fw_X8_41 (by decide) fd_SMod_0_11 ?_
      refine g_iload_n O (pc := 10) dX8_goesUp_10 1 rfl ?_
      obtain ⟨h2, hF⟩ := gd hF
      refine g_il O (pc := 11) dX8_goesUp_11 ar_SMod_10 h2 ?_
      refine g_istore_n O (pc := 12) (L' := [(3, .int ((I (10) (x2).toNatClampNeg))), (0, .ref (0)), (2, .int (x2))]) dX8_goesUp_12 (by decide) rfl ?_
      refine g_iload_n O (pc := 13) dX8_goesUp_13 0 rfl ?_
      refine g_if_lt O (pc := 14) 31 dX8_goesUp_14 (by decide) (fun h3 => ?_) (fun h3 => ?_)
      · rw [if_pos h3] at hF
        refine g_sub [1, 2, 0] (L' := [(0, .ref (0)), (2, .int (x2)), (3, .int ((I (10) (x2).toNatClampNeg)))]) rfl ?_
        exact c_X8_goesUp_b31 O ih _ _ _ _ hF
      · rw [if_neg h3] at hF
        refine g_aload_n O (pc := 17) dX8_goesUp_17 1 rfl ?_
        refine g_getR O (pc := 18) isC_X8 dX8_goesUp_18 fw_X8_29 (by decide) fd_SMod_0_7 ?_
        refine g_iload_n O (pc := 21) dX8_goesUp_21 0 rfl ?_
        obtain ⟨h4, hF⟩ := gd hF
        refine g_il O (pc := 22) dX8_goesUp_22 ar_SMod_6 h4 ?_
        refine g_iconst O (pc := 23) dX8_goesUp_23 (ic_2) ?_
        refine g_icmp_ne O (pc := 24) 31 dX8_goesUp_24 (by decide) (fun h5 => ?_) (fun h5 => ?_)
        · rw [if_neg h5] at hF
          refine g_sub [1, 2, 0] (L' := [(0, .ref (0)), (2, .int (x2)), (3, .int ((I (10) (x2).toNatClampNeg)))]) rfl ?_
          exact c_X8_goesUp_b31 O ih _ _ _ _ hF
        · rw [if_pos h5] at hF
          refine g_iconst O (pc := 27) dX8_goesUp_27 (ic_1) ?_
          refine g_goto O (pc := 28) 32 dX8_goesUp_28 (by decide) ?_
          refine g_sub [1, 2, 0] (L' := [(0, .ref (0)), (2, .int (x2)), (3, .int ((I (10) (x2).toNatClampNeg)))]) rfl ?_
          exact c_X8_goesUp_b32 O ih _ _ _ _ _ hF

def f_X8_goesUp (x1 : Int32) (I : IS) : Option (IS) :=
  f_X8_goesUp_b2 LF (x1) (I)
set_option maxHeartbeats 4000000 in
set_option maxRecDepth 100000 in
theorem c_X8_goesUp_e {z : CTX} {J : JS} (O : OK z cX8_goesUp RX8 5 SMod 36 (rm_ 4 90) none) : ∀ (x1 : Int32) (I : IS) (q : IS), f_X8_goesUp x1 I = some q → G z 0 [(0, .ref (0)), (1, .int (x1))] [] I J (none, q, J) := by
  intro x1 I q hF
  rw [f_X8_goesUp] at hF
  refine g_iload_n O (pc := 0) dX8_goesUp_0 1 rfl ?_
  refine g_istore_n O (pc := 1) (L' := [(2, .int (x1)), (0, .ref (0)), (1, .int (x1))]) dX8_goesUp_1 (by decide) rfl ?_
  refine g_sub [1, 0] (L' := [(0, .ref (0)), (2, .int (x1))]) rfl ?_
  exact c_X8_goesUp_b2 O _ _ _ _ hF

theorem mc_X8_goesUp {x1 : Int32} {I : IS} (J : JS) {q : IS} (hF : f_X8_goesUp x1 I = some q) : MC yX8_goesUp cX8_goesUp 5 none (rm_ 4 90) SMod 36 [.ref (0), .int (x1)] I J (none, q, J) :=
  mc_of pn_X8 (Nat.le_of_ble_eq_true rfl) (fun z O => c_X8_goesUp_e O _ _ _ hF)

def f_X8_isThrough_b89 (k57 : Int32 → Int32 → Int32 → IS → Option (IS)) (x1 : Int32) (x2 : Int32) (x3 : Int32) (I : IS) : Option (IS) :=
  k57 (x1) (x2) (x3 + (1 : Int32)) (I)
set_option maxHeartbeats 4000000 in
set_option maxRecDepth 100000 in
theorem c_X8_isThrough_b89 {z : CTX} {J : JS} (O : OK z cX8_isThrough RX8 4 SMod 36 (rm_ 5 114) none) {k57 : Int32 → Int32 → Int32 → IS → Option (IS)} (hk57 : ∀ (x1 : Int32) (x2 : Int32) (x3 : Int32) (I : IS) (q : IS), k57 x1 x2 x3 I = some q → G z 57 [(0, .ref (0)), (1, .int (x1)), (2, .int (x2)), (3, .int (x3))] [] I J (none, q, J)) : ∀ (x1 : Int32) (x2 : Int32) (x3 : Int32) (I : IS) (q : IS), f_X8_isThrough_b89 k57 x1 x2 x3 I = some q → G z 89 [(0, .ref (0)), (1, .int (x1)), (2, .int (x2)), (3, .int (x3))] [] I J (none, q, J) := by
  intro x1 x2 x3 I q hF
  rw [f_X8_isThrough_b89] at hF
  refine g_iinc O (pc := 89) (v := x3 + (1 : Int32)) (L' := [(3, .int (x3 + (1 : Int32))), (0, .ref (0)), (1, .int (x1)), (2, .int (x2))]) dX8_isThrough_89 3 rfl rfl (by decide) rfl ?_
  refine g_goto O (pc := 92) 57 dX8_isThrough_92 (by decide) ?_
  refine g_sub [1, 2, 3, 0] (L' := [(0, .ref (0)), (1, .int (x1)), (2, .int (x2)), (3, .int (x3 + (1 : Int32)))]) rfl ?_
  exact hk57 _ _ _ _ _ hF

def f_X8_isThrough_b57 : Nat → Int32 → Int32 → Int32 → IS → Option (IS)
  | 0, _, _, _, _ => none
  | fu + 1, x1, x2, x3, I =>
    if (I (0) 6) ≤ x3 then
    (some (I))
    else
    (if okI (x3) 32 = true then
    (if (I (10) (x3).toNatClampNeg) = x2 then
    ((f_X8_isEnded (x3) I).bind fun q4 =>
    (if q4 = 0 then
    ((f_X8_comesTo (x1) (x3) I).bind fun q7 =>
    (f_X8_isThrough_b89 (f_X8_isThrough_b57 fu) (x1) (x2) (x3) (q7)))
    else
    (f_X8_isThrough_b89 (f_X8_isThrough_b57 fu) (x1) (x2) (x3) (I))))
    else
    (f_X8_isThrough_b89 (f_X8_isThrough_b57 fu) (x1) (x2) (x3) (I)))
    else none)
set_option maxHeartbeats 4000000 in
set_option maxRecDepth 100000 in
theorem c_X8_isThrough_b57 {z : CTX} {J : JS} (O : OK z cX8_isThrough RX8 4 SMod 36 (rm_ 5 114) none) : ∀ (fu : Nat) (x1 : Int32) (x2 : Int32) (x3 : Int32) (I : IS) (q : IS), f_X8_isThrough_b57 fu x1 x2 x3 I = some q → G z 57 [(0, .ref (0)), (1, .int (x1)), (2, .int (x2)), (3, .int (x3))] [] I J (none, q, J) := by
  intro fu
  induction fu with
  | zero =>
    intro x1 x2 x3 I q hF
    cases hF
  | succ fu ih =>
    intro x1 x2 x3 I q hF
    rw [f_X8_isThrough_b57] at hF
    refine g_iload_n O (pc := 57) dX8_isThrough_57 3 rfl ?_
    refine g_aload_n O (pc := 58) dX8_isThrough_58 0 rfl ?_
    refine g_getI O (pc := 59) isC_X8 dX8_isThrough_59 fw_X8_127 (by decide) fd_SMod_0_6 ?_
    refine g_icmp_ge O (pc := 62) 95 dX8_isThrough_62 (by decide) (fun h1 => ?_) (fun h1 => ?_)
    · rw [if_pos h1] at hF
      refine g_goto O (pc := 95) 128 dX8_isThrough_95 (by decide) ?_
      obtain rfl := Option.some.inj hF
      exact g_return O (pc := 128) dX8_isThrough_128 rfl
    · rw [if_neg h1] at hF
      refine g_aload_n O (pc := 65) dX8_isThrough_65 0 rfl ?_
      refine g_getR O (pc := 66) isC_X8 dX8_isThrough_66 fw_X8_41 (by decide) fd_SMod_0_11 ?_
      refine g_iload_n O (pc := 69) dX8_isThrough_69 3 rfl ?_
      obtain ⟨h2, hF⟩ := gd hF
      refine g_il O (pc := 70) dX8_isThrough_70 ar_SMod_10 h2 ?_
      refine g_iload_n O (pc := 71) dX8_isThrough_71 2 rfl ?_
      refine g_icmp_ne O (pc := 72) 89 dX8_isThrough_72 (by decide) (fun h3 => ?_) (fun h3 => ?_)
      · rw [if_neg h3] at hF
        refine g_sub [0, 1, 2, 3] (L' := [(0, .ref (0)), (1, .int (x1)), (2, .int (x2)), (3, .int (x3))]) rfl ?_
        exact c_X8_isThrough_b89 O ih _ _ _ _ _ hF
      · rw [if_pos h3] at hF
        refine g_aload_n O (pc := 75) dX8_isThrough_75 0 rfl ?_
        refine g_iload_n O (pc := 76) dX8_isThrough_76 3 rfl ?_
        obtain ⟨q4, e5, hF⟩ := bnd hF
        refine g_Vi O (pc := 77) (st := []) dX8_isThrough_77 (mc_X8_isEnded J e5) cb_X8_isEnded ml_X8_183 isC_X8 ob_SMod (zm0 _ _ _ _ _ _ _) (rmok (Nat.le_of_ble_eq_true rfl) (Nat.le_of_ble_eq_true rfl)) (Nat.le_of_ble_eq_true rfl) rfl ?_
        refine g_if_ne O (pc := 80) 89 dX8_isThrough_80 (by decide) (fun h6 => ?_) (fun h6 => ?_)
        · rw [if_neg h6] at hF
          refine g_sub [0, 1, 2, 3] (L' := [(0, .ref (0)), (1, .int (x1)), (2, .int (x2)), (3, .int (x3))]) rfl ?_
          exact c_X8_isThrough_b89 O ih _ _ _ _ _ hF
        · rw [if_pos h6] at hF
          refine g_aload_n O (pc := 83) dX8_isThrough_83 0 rfl ?_
          refine g_iload_n O (pc := 84) dX8_isThrough_84 1 rfl ?_
          refine g_iload_n O (pc := 85) dX8_isThrough_85 3 rfl ?_
          obtain ⟨q7, e8, hF⟩ := bnd hF
          refine g_Vv O (pc := 86) (st := []) dX8_isThrough_86 (mc_X8_comesTo J e8) cb_X8_comesTo ml_X8_210 isC_X8 ob_SMod (zm0 _ _ _ _ _ _ _) (rmok (Nat.le_of_ble_eq_true rfl) (Nat.le_of_ble_eq_true rfl)) (Nat.le_of_ble_eq_true rfl) rfl ?_
          refine g_sub [0, 1, 2, 3] (L' := [(0, .ref (0)), (1, .int (x1)), (2, .int (x2)), (3, .int (x3))]) rfl ?_
          exact c_X8_isThrough_b89 O ih _ _ _ _ _ hF

def f_X8_isThrough (x1 : Int32) (x2 : Int32) (I : IS) : Option (IS) :=
  if okI (x2) 32 = true then
  (if (I (11) (x2).toNatClampNeg) = (1 : Int32) then
  (if okI (x2) 32 = true then
  (if okI (x2) 32 = true then
  ((f_X8_entry (x1) ((4 : Int32)) (x2) (u2 (u2 I (6) (x2).toNatClampNeg ((4 : Int32))) (12) (x2).toNatClampNeg ((-5 : Int32)))).bind fun q17 =>
  ((f_X8_goesUp (x2) q17).bind fun q19 =>
  (some (q19))))
  else none)
  else none)
  else
  ((f_X8_allEnded (x2) I).bind fun q3 =>
  (if q3 = 0 then
  (if okI (x2) 32 = true then
  (f_X8_isThrough_b57 LF (x1) (x2) ((0 : Int32)) ((u2 I (6) (x2).toNatClampNeg ((2 : Int32)))))
  else none)
  else
  (if okI (x2) 32 = true then
  ((f_X8_worthIn (x2) (u2 I (6) (x2).toNatClampNeg ((3 : Int32)))).bind fun q7 =>
  (if okI (x2) 32 = true then
  ((f_X8_entry (x1) ((3 : Int32)) (x2) (u2 (u2 I (6) (x2).toNatClampNeg ((3 : Int32))) (9) (x2).toNatClampNeg (q7))).bind fun q10 =>
  ((f_X8_goesUp (x2) q10).bind fun q12 =>
  (some (q12))))
  else none))
  else none))))
  else none
set_option maxHeartbeats 4000000 in
set_option maxRecDepth 100000 in
theorem c_X8_isThrough_e {z : CTX} {J : JS} (O : OK z cX8_isThrough RX8 4 SMod 36 (rm_ 5 114) none) : ∀ (x1 : Int32) (x2 : Int32) (I : IS) (q : IS), f_X8_isThrough x1 x2 I = some q → G z 0 [(0, .ref (0)), (1, .int (x1)), (2, .int (x2))] [] I J (none, q, J) := by
  intro x1 x2 I q hF
  rw [f_X8_isThrough] at hF
  refine g_aload_n O (pc := 0) dX8_isThrough_0 0 rfl ?_
  refine g_getR O (pc := 1) isC_X8 dX8_isThrough_1 fw_X8_44 (by decide) fd_SMod_0_12 ?_
  refine g_iload_n O (pc := 4) dX8_isThrough_4 2 rfl ?_
  obtain ⟨h1, hF⟩ := gd hF
  refine g_il O (pc := 5) dX8_isThrough_5 ar_SMod_11 h1 ?_
  refine g_iconst O (pc := 6) dX8_isThrough_6 (ic_1) ?_
  refine g_icmp_ne O (pc := 7) 40 dX8_isThrough_7 (by decide) (fun h2 => ?_) (fun h2 => ?_)
  · rw [if_neg h2] at hF
    refine g_aload_n O (pc := 40) dX8_isThrough_40 0 rfl ?_
    refine g_iload_n O (pc := 41) dX8_isThrough_41 2 rfl ?_
    obtain ⟨q3, e4, hF⟩ := bnd hF
    refine g_Vi O (pc := 42) (st := []) dX8_isThrough_42 (mc_X8_allEnded J e4) cb_X8_allEnded ml_X8_201 isC_X8 ob_SMod (zm0 _ _ _ _ _ _ _) (rmok (Nat.le_of_ble_eq_true rfl) (Nat.le_of_ble_eq_true rfl)) (Nat.le_of_ble_eq_true rfl) rfl ?_
    refine g_if_ne O (pc := 45) 98 dX8_isThrough_45 (by decide) (fun h5 => ?_) (fun h5 => ?_)
    · rw [if_neg h5] at hF
      refine g_aload_n O (pc := 98) dX8_isThrough_98 0 rfl ?_
      refine g_getR O (pc := 99) isC_X8 dX8_isThrough_99 fw_X8_29 (by decide) fd_SMod_0_7 ?_
      refine g_iload_n O (pc := 102) dX8_isThrough_102 2 rfl ?_
      refine g_iconst O (pc := 103) dX8_isThrough_103 (ic_3) ?_
      obtain ⟨h6, hF⟩ := gd hF
      refine g_is O (pc := 104) dX8_isThrough_104 ar_SMod_6 h6 ?_
      refine g_aload_n O (pc := 105) dX8_isThrough_105 0 rfl ?_
      refine g_getR O (pc := 106) isC_X8 dX8_isThrough_106 fw_X8_38 (by decide) fd_SMod_0_10 ?_
      refine g_iload_n O (pc := 109) dX8_isThrough_109 2 rfl ?_
      refine g_aload_n O (pc := 110) dX8_isThrough_110 0 rfl ?_
      refine g_iload_n O (pc := 111) dX8_isThrough_111 2 rfl ?_
      obtain ⟨q7, e8, hF⟩ := bnd hF
      refine g_Vi O (pc := 112) (st := [.int (x2), .ref (9)]) dX8_isThrough_112 (mc_X8_worthIn J e8) cb_X8_worthIn ml_X8_204 isC_X8 ob_SMod (zm0 _ _ _ _ _ _ _) (rmok (Nat.le_of_ble_eq_true rfl) (Nat.le_of_ble_eq_true rfl)) (Nat.le_of_ble_eq_true rfl) rfl ?_
      obtain ⟨h9, hF⟩ := gd hF
      refine g_is O (pc := 115) dX8_isThrough_115 ar_SMod_9 h9 ?_
      refine g_aload_n O (pc := 116) dX8_isThrough_116 0 rfl ?_
      refine g_iload_n O (pc := 117) dX8_isThrough_117 1 rfl ?_
      refine g_iconst O (pc := 118) dX8_isThrough_118 (ic_3) ?_
      refine g_iload_n O (pc := 119) dX8_isThrough_119 2 rfl ?_
      obtain ⟨q10, e11, hF⟩ := bnd hF
      refine g_Vv O (pc := 120) (st := []) dX8_isThrough_120 (mc_X8_entry J e11) cb_X8_entry ml_X8_190 isC_X8 ob_SMod (zm0 _ _ _ _ _ _ _) (rmok (Nat.le_of_ble_eq_true rfl) (Nat.le_of_ble_eq_true rfl)) (Nat.le_of_ble_eq_true rfl) rfl ?_
      refine g_aload_n O (pc := 123) dX8_isThrough_123 0 rfl ?_
      refine g_iload_n O (pc := 124) dX8_isThrough_124 2 rfl ?_
      obtain ⟨q12, e13, hF⟩ := bnd hF
      refine g_Vv O (pc := 125) (st := []) dX8_isThrough_125 (mc_X8_goesUp J e13) cb_X8_goesUp ml_X8_207 isC_X8 ob_SMod (zm0 _ _ _ _ _ _ _) (rmok (Nat.le_of_ble_eq_true rfl) (Nat.le_of_ble_eq_true rfl)) (Nat.le_of_ble_eq_true rfl) rfl ?_
      obtain rfl := Option.some.inj hF
      exact g_return O (pc := 128) dX8_isThrough_128 rfl
    · rw [if_pos h5] at hF
      refine g_aload_n O (pc := 48) dX8_isThrough_48 0 rfl ?_
      refine g_getR O (pc := 49) isC_X8 dX8_isThrough_49 fw_X8_29 (by decide) fd_SMod_0_7 ?_
      refine g_iload_n O (pc := 52) dX8_isThrough_52 2 rfl ?_
      refine g_iconst O (pc := 53) dX8_isThrough_53 (ic_2) ?_
      obtain ⟨h14, hF⟩ := gd hF
      refine g_is O (pc := 54) dX8_isThrough_54 ar_SMod_6 h14 ?_
      refine g_iconst O (pc := 55) dX8_isThrough_55 (ic_0) ?_
      refine g_istore_n O (pc := 56) (L' := [(3, .int ((0 : Int32))), (0, .ref (0)), (1, .int (x1)), (2, .int (x2))]) dX8_isThrough_56 (by decide) rfl ?_
      refine g_sub [1, 2, 3, 0] (L' := [(0, .ref (0)), (1, .int (x1)), (2, .int (x2)), (3, .int ((0 : Int32)))]) rfl ?_
      exact c_X8_isThrough_b57 O _ _ _ _ _ _ hF
  · rw [if_pos h2] at hF
    refine g_aload_n O (pc := 10) dX8_isThrough_10 0 rfl ?_
    refine g_getR O (pc := 11) isC_X8 dX8_isThrough_11 fw_X8_29 (by decide) fd_SMod_0_7 ?_
    refine g_iload_n O (pc := 14) dX8_isThrough_14 2 rfl ?_
    refine g_iconst O (pc := 15) dX8_isThrough_15 (ic_4) ?_
    obtain ⟨h15, hF⟩ := gd hF
    refine g_is O (pc := 16) dX8_isThrough_16 ar_SMod_6 h15 ?_
    refine g_aload_n O (pc := 17) dX8_isThrough_17 0 rfl ?_
    refine g_getR O (pc := 18) isC_X8 dX8_isThrough_18 fw_X8_47 (by decide) fd_SMod_0_13 ?_
    refine g_iload_n O (pc := 21) dX8_isThrough_21 2 rfl ?_
    refine g_bipush O (pc := 22) dX8_isThrough_22 bp_m5 ?_
    obtain ⟨h16, hF⟩ := gd hF
    refine g_is O (pc := 24) dX8_isThrough_24 ar_SMod_12 h16 ?_
    refine g_aload_n O (pc := 25) dX8_isThrough_25 0 rfl ?_
    refine g_iload_n O (pc := 26) dX8_isThrough_26 1 rfl ?_
    refine g_iconst O (pc := 27) dX8_isThrough_27 (ic_4) ?_
    refine g_iload_n O (pc := 28) dX8_isThrough_28 2 rfl ?_
    obtain ⟨q17, e18, hF⟩ := bnd hF
    refine g_Vv O (pc := 29) (st := []) dX8_isThrough_29 (mc_X8_entry J e18) cb_X8_entry ml_X8_190 isC_X8 ob_SMod (zm0 _ _ _ _ _ _ _) (rmok (Nat.le_of_ble_eq_true rfl) (Nat.le_of_ble_eq_true rfl)) (Nat.le_of_ble_eq_true rfl) rfl ?_
    refine g_aload_n O (pc := 32) dX8_isThrough_32 0 rfl ?_
    refine g_iload_n O (pc := 33) dX8_isThrough_33 2 rfl ?_
    obtain ⟨q19, e20, hF⟩ := bnd hF
    refine g_Vv O (pc := 34) (st := []) dX8_isThrough_34 (mc_X8_goesUp J e20) cb_X8_goesUp ml_X8_207 isC_X8 ob_SMod (zm0 _ _ _ _ _ _ _) (rmok (Nat.le_of_ble_eq_true rfl) (Nat.le_of_ble_eq_true rfl)) (Nat.le_of_ble_eq_true rfl) rfl ?_
    refine g_goto O (pc := 37) 128 dX8_isThrough_37 (by decide) ?_
    obtain rfl := Option.some.inj hF
    exact g_return O (pc := 128) dX8_isThrough_128 rfl

theorem mc_X8_isThrough {x1 : Int32} {x2 : Int32} {I : IS} (J : JS) {q : IS} (hF : f_X8_isThrough x1 x2 I = some q) : MC yX8_isThrough cX8_isThrough 4 none (rm_ 5 114) SMod 36 [.ref (0), .int (x1), .int (x2)] I J (none, q, J) :=
  mc_of pn_X8 (Nat.le_of_ble_eq_true rfl) (fun z O => c_X8_isThrough_e O _ _ _ _ hF)

def f_X8_drawBelow (x1 : Int32) (I : IS) : Option (Int32 × IS) :=
  if okD (x1) = true then
  (some (((((((u2 I (0) 14 ((((I (0) 14) * (1103515245 : Int32)) + (12345 : Int32)))) (0) 14)).toUInt32 >>> (((16 : Int32)).toUInt32 &&& Int32.toUInt32 31)).toInt32) - (((((u2 I (0) 14 ((((I (0) 14) * (1103515245 : Int32)) + (12345 : Int32)))) (0) 14)).toUInt32 >>> (((16 : Int32)).toUInt32 &&& Int32.toUInt32 31)).toInt32) / x1 * x1), (u2 I (0) 14 ((((I (0) 14) * (1103515245 : Int32)) + (12345 : Int32))))))
  else none
set_option maxHeartbeats 4000000 in
set_option maxRecDepth 100000 in
theorem c_X8_drawBelow_e {z : CTX} {J : JS} (O : OK z cX8_drawBelow RX8 2 SMod 36 (rm_ 0 0) (some .int)) : ∀ (x1 : Int32) (I : IS) (q : Int32 × IS), f_X8_drawBelow x1 I = some q → G z 0 [(0, .ref (0)), (1, .int (x1))] [] I J (some (.int q.1), q.2, J) := by
  intro x1 I q hF
  rw [f_X8_drawBelow] at hF
  refine g_aload_n O (pc := 0) dX8_drawBelow_0 0 rfl ?_
  refine g_aload_n O (pc := 1) dX8_drawBelow_1 0 rfl ?_
  refine g_getI O (pc := 2) isC_X8 dX8_drawBelow_2 fw_X8_50 (by decide) fd_SMod_0_14 ?_
  refine g_ldc O (pc := 5) kw_X8_214 dX8_drawBelow_5 ?_
  refine g_imul O (pc := 7) dX8_drawBelow_7 ?_
  refine g_sipush O (pc := 8) dX8_drawBelow_8 sp_12345 ?_
  refine g_iadd O (pc := 11) dX8_drawBelow_11 ?_
  refine g_putI O (pc := 12) isC_X8 isT_X8 dX8_drawBelow_12 fw_X8_50 (by decide) rfl rfl fd_SMod_0_14 ?_
  refine g_aload_n O (pc := 15) dX8_drawBelow_15 0 rfl ?_
  refine g_getI O (pc := 16) isC_X8 dX8_drawBelow_16 fw_X8_50 (by decide) fd_SMod_0_14 ?_
  refine g_bipush O (pc := 19) dX8_drawBelow_19 bp_16 ?_
  refine g_iushr O (pc := 21) dX8_drawBelow_21 ?_
  refine g_iload_n O (pc := 22) dX8_drawBelow_22 1 rfl ?_
  obtain ⟨h1, hF⟩ := gd hF
  refine g_irem O (pc := 23) dX8_drawBelow_23 (okD_n h1) ?_
  obtain rfl := Option.some.inj hF
  exact g_ireturn O (pc := 24) dX8_drawBelow_24 rfl

theorem mc_X8_drawBelow {x1 : Int32} {I : IS} (J : JS) {q : Int32 × IS} (hF : f_X8_drawBelow x1 I = some q) : MC yX8_drawBelow cX8_drawBelow 2 (some .int) (rm_ 0 0) SMod 36 [.ref (0), .int (x1)] I J (some (.int q.1), q.2, J) :=
  mc_of pn_X8 (Nat.le_of_ble_eq_true rfl) (fun z O => c_X8_drawBelow_e O _ _ _ hF)

def f_X8_worksOn (x1 : Int32) (x2 : Int32) (x3 : Int32) (I : IS) : Option (IS) :=
  if okI (x1) 4 = true then
  (if okI (x2) 32 = true then
  ((f_X8_entry (x1) (x3) (x2) (u2 (u2 I (3) (x1).toNatClampNeg (x2)) (6) (x2).toNatClampNeg ((1 : Int32)))).bind fun q3 =>
  (some (q3)))
  else none)
  else none
set_option maxHeartbeats 4000000 in
set_option maxRecDepth 100000 in
theorem c_X8_worksOn_e {z : CTX} {J : JS} (O : OK z cX8_worksOn RX8 4 SMod 36 (rm_ 2 46) none) : ∀ (x1 : Int32) (x2 : Int32) (x3 : Int32) (I : IS) (q : IS), f_X8_worksOn x1 x2 x3 I = some q → G z 0 [(0, .ref (0)), (1, .int (x1)), (2, .int (x2)), (3, .int (x3))] [] I J (none, q, J) := by
  intro x1 x2 x3 I q hF
  rw [f_X8_worksOn] at hF
  refine g_aload_n O (pc := 0) dX8_worksOn_0 0 rfl ?_
  refine g_getR O (pc := 1) isC_X8 dX8_worksOn_1 fw_X8_20 (by decide) fd_SMod_0_3 ?_
  refine g_iload_n O (pc := 4) dX8_worksOn_4 1 rfl ?_
  refine g_iload_n O (pc := 5) dX8_worksOn_5 2 rfl ?_
  obtain ⟨h1, hF⟩ := gd hF
  refine g_is O (pc := 6) dX8_worksOn_6 ar_SMod_3 h1 ?_
  refine g_aload_n O (pc := 7) dX8_worksOn_7 0 rfl ?_
  refine g_getR O (pc := 8) isC_X8 dX8_worksOn_8 fw_X8_29 (by decide) fd_SMod_0_7 ?_
  refine g_iload_n O (pc := 11) dX8_worksOn_11 2 rfl ?_
  refine g_iconst O (pc := 12) dX8_worksOn_12 (ic_1) ?_
  obtain ⟨h2, hF⟩ := gd hF
  refine g_is O (pc := 13) dX8_worksOn_13 ar_SMod_6 h2 ?_
  refine g_aload_n O (pc := 14) dX8_worksOn_14 0 rfl ?_
  refine g_iload_n O (pc := 15) dX8_worksOn_15 1 rfl ?_
  refine g_iload_n O (pc := 16) dX8_worksOn_16 3 rfl ?_
  refine g_iload_n O (pc := 17) dX8_worksOn_17 2 rfl ?_
  obtain ⟨q3, e4, hF⟩ := bnd hF
  refine g_Vv O (pc := 18) (st := []) dX8_worksOn_18 (mc_X8_entry J e4) cb_X8_entry ml_X8_190 isC_X8 ob_SMod (zm0 _ _ _ _ _ _ _) (rmok (Nat.le_of_ble_eq_true rfl) (Nat.le_of_ble_eq_true rfl)) (Nat.le_of_ble_eq_true rfl) rfl ?_
  obtain rfl := Option.some.inj hF
  exact g_return O (pc := 21) dX8_worksOn_21 rfl

theorem mc_X8_worksOn {x1 : Int32} {x2 : Int32} {x3 : Int32} {I : IS} (J : JS) {q : IS} (hF : f_X8_worksOn x1 x2 x3 I = some q) : MC yX8_worksOn cX8_worksOn 4 none (rm_ 2 46) SMod 36 [.ref (0), .int (x1), .int (x2), .int (x3)] I J (none, q, J) :=
  mc_of pn_X8 (Nat.le_of_ble_eq_true rfl) (fun z O => c_X8_worksOn_e O _ _ _ _ _ hF)

def f_X8_steals_b73 (k12 : Int32 → Int32 → Int32 → Int32 → IS → Option (IS)) (x1 : Int32) (x4 : Int32) (x5 : Int32) (s0 : Int32) (s1 : Int32) (I : IS) : Option (IS) :=
  k12 (x1) ((s0 - s1)) (x4) (x5 + (1 : Int32)) (I)
set_option maxHeartbeats 4000000 in
set_option maxRecDepth 100000 in
theorem c_X8_steals_b73 {z : CTX} {J : JS} (O : OK z cX8_steals RX8 7 SMod 36 (rm_ 3 69) none) {k12 : Int32 → Int32 → Int32 → Int32 → IS → Option (IS)} (hk12 : ∀ (x1 : Int32) (x3 : Int32) (x4 : Int32) (x5 : Int32) (I : IS) (q : IS), k12 x1 x3 x4 x5 I = some q → G z 12 [(0, .ref (0)), (1, .int (x1)), (3, .int (x3)), (4, .int (x4)), (5, .int (x5))] [] I J (none, q, J)) : ∀ (x1 : Int32) (x4 : Int32) (x5 : Int32) (s0 : Int32) (s1 : Int32) (I : IS) (q : IS), f_X8_steals_b73 k12 x1 x4 x5 s0 s1 I = some q → G z 73 [(0, .ref (0)), (1, .int (x1)), (4, .int (x4)), (5, .int (x5))] [.int (s1), .int (s0)] I J (none, q, J) := by
  intro x1 x4 x5 s0 s1 I q hF
  rw [f_X8_steals_b73] at hF
  refine g_isub O (pc := 73) dX8_steals_73 ?_
  refine g_istore_n O (pc := 74) (L' := [(3, .int ((s0 - s1))), (0, .ref (0)), (1, .int (x1)), (4, .int (x4)), (5, .int (x5))]) dX8_steals_74 (by decide) rfl ?_
  refine g_iinc O (pc := 75) (v := x5 + (1 : Int32)) (L' := [(5, .int (x5 + (1 : Int32))), (3, .int ((s0 - s1))), (0, .ref (0)), (1, .int (x1)), (4, .int (x4))]) dX8_steals_75 4 rfl rfl (by decide) rfl ?_
  refine g_goto O (pc := 78) 12 dX8_steals_78 (by decide) ?_
  refine g_sub [2, 3, 1, 4, 0] (L' := [(0, .ref (0)), (1, .int (x1)), (3, .int ((s0 - s1))), (4, .int (x4)), (5, .int (x5 + (1 : Int32)))]) rfl ?_
  exact hk12 _ _ _ _ _ _ hF

def f_X8_steals_b60 (k12 : Int32 → Int32 → Int32 → Int32 → IS → Option (IS)) (x1 : Int32) (x3 : Int32) (x5 : Int32) (x6 : Int32) (s0 : Int32) (I : IS) : Option (IS) :=
  if x6 = 0 then
  (f_X8_steals_b73 k12 (x1) (s0) (x5) (x3) ((0 : Int32)) (I))
  else
  (f_X8_steals_b73 k12 (x1) (s0) (x5) (x3) ((1 : Int32)) (I))
set_option maxHeartbeats 4000000 in
set_option maxRecDepth 100000 in
theorem c_X8_steals_b60 {z : CTX} {J : JS} (O : OK z cX8_steals RX8 7 SMod 36 (rm_ 3 69) none) {k12 : Int32 → Int32 → Int32 → Int32 → IS → Option (IS)} (hk12 : ∀ (x1 : Int32) (x3 : Int32) (x4 : Int32) (x5 : Int32) (I : IS) (q : IS), k12 x1 x3 x4 x5 I = some q → G z 12 [(0, .ref (0)), (1, .int (x1)), (3, .int (x3)), (4, .int (x4)), (5, .int (x5))] [] I J (none, q, J)) : ∀ (x1 : Int32) (x3 : Int32) (x5 : Int32) (x6 : Int32) (s0 : Int32) (I : IS) (q : IS), f_X8_steals_b60 k12 x1 x3 x5 x6 s0 I = some q → G z 60 [(0, .ref (0)), (1, .int (x1)), (3, .int (x3)), (5, .int (x5)), (6, .int (x6))] [.int (s0)] I J (none, q, J) := by
  intro x1 x3 x5 x6 s0 I q hF
  rw [f_X8_steals_b60] at hF
  refine g_istore O (pc := 60) (L' := [(4, .int (s0)), (0, .ref (0)), (1, .int (x1)), (3, .int (x3)), (5, .int (x5)), (6, .int (x6))]) dX8_steals_60 (by decide) rfl ?_
  refine g_iload_n O (pc := 62) dX8_steals_62 3 rfl ?_
  refine g_iload O (pc := 63) dX8_steals_63 5 rfl ?_
  refine g_if_eq O (pc := 65) 72 dX8_steals_65 (by decide) (fun h1 => ?_) (fun h1 => ?_)
  · rw [if_pos h1] at hF
    refine g_iconst O (pc := 72) dX8_steals_72 (ic_0) ?_
    refine g_sub [1, 2, 0, 4] (L' := [(0, .ref (0)), (1, .int (x1)), (4, .int (s0)), (5, .int (x5))]) rfl ?_
    exact c_X8_steals_b73 O hk12 _ _ _ _ _ _ _ hF
  · rw [if_neg h1] at hF
    refine g_iconst O (pc := 68) dX8_steals_68 (ic_1) ?_
    refine g_goto O (pc := 69) 73 dX8_steals_69 (by decide) ?_
    refine g_sub [1, 2, 0, 4] (L' := [(0, .ref (0)), (1, .int (x1)), (4, .int (s0)), (5, .int (x5))]) rfl ?_
    exact c_X8_steals_b73 O hk12 _ _ _ _ _ _ _ hF

def f_X8_steals_b58 (k12 : Int32 → Int32 → Int32 → Int32 → IS → Option (IS)) (x1 : Int32) (x3 : Int32) (x4 : Int32) (x5 : Int32) (x6 : Int32) (I : IS) : Option (IS) :=
  f_X8_steals_b60 k12 (x1) (x3) (x5) (x6) (x4) (I)
set_option maxHeartbeats 4000000 in
set_option maxRecDepth 100000 in
theorem c_X8_steals_b58 {z : CTX} {J : JS} (O : OK z cX8_steals RX8 7 SMod 36 (rm_ 3 69) none) {k12 : Int32 → Int32 → Int32 → Int32 → IS → Option (IS)} (hk12 : ∀ (x1 : Int32) (x3 : Int32) (x4 : Int32) (x5 : Int32) (I : IS) (q : IS), k12 x1 x3 x4 x5 I = some q → G z 12 [(0, .ref (0)), (1, .int (x1)), (3, .int (x3)), (4, .int (x4)), (5, .int (x5))] [] I J (none, q, J)) : ∀ (x1 : Int32) (x3 : Int32) (x4 : Int32) (x5 : Int32) (x6 : Int32) (I : IS) (q : IS), f_X8_steals_b58 k12 x1 x3 x4 x5 x6 I = some q → G z 58 [(0, .ref (0)), (1, .int (x1)), (3, .int (x3)), (4, .int (x4)), (5, .int (x5)), (6, .int (x6))] [] I J (none, q, J) := by
  intro x1 x3 x4 x5 x6 I q hF
  rw [f_X8_steals_b58] at hF
  refine g_iload O (pc := 58) dX8_steals_58 3 rfl ?_
  refine g_sub [0, 1, 2, 4, 5] (L' := [(0, .ref (0)), (1, .int (x1)), (3, .int (x3)), (5, .int (x5)), (6, .int (x6))]) rfl ?_
  exact c_X8_steals_b60 O hk12 _ _ _ _ _ _ _ hF

def f_X8_steals_b42 (k12 : Int32 → Int32 → Int32 → Int32 → IS → Option (IS)) (x1 : Int32) (x3 : Int32) (x4 : Int32) (x5 : Int32) (s0 : Int32) (I : IS) : Option (IS) :=
  if s0 = 0 then
  (f_X8_steals_b58 k12 (x1) (x3) (x4) (x5) (s0) (I))
  else
  (if x3 = 0 then
  (f_X8_steals_b60 k12 (x1) (x3) (x5) (s0) (x5) (I))
  else
  (f_X8_steals_b58 k12 (x1) (x3) (x4) (x5) (s0) (I)))
set_option maxHeartbeats 4000000 in
set_option maxRecDepth 100000 in
theorem c_X8_steals_b42 {z : CTX} {J : JS} (O : OK z cX8_steals RX8 7 SMod 36 (rm_ 3 69) none) {k12 : Int32 → Int32 → Int32 → Int32 → IS → Option (IS)} (hk12 : ∀ (x1 : Int32) (x3 : Int32) (x4 : Int32) (x5 : Int32) (I : IS) (q : IS), k12 x1 x3 x4 x5 I = some q → G z 12 [(0, .ref (0)), (1, .int (x1)), (3, .int (x3)), (4, .int (x4)), (5, .int (x5))] [] I J (none, q, J)) : ∀ (x1 : Int32) (x3 : Int32) (x4 : Int32) (x5 : Int32) (s0 : Int32) (I : IS) (q : IS), f_X8_steals_b42 k12 x1 x3 x4 x5 s0 I = some q → G z 42 [(0, .ref (0)), (1, .int (x1)), (3, .int (x3)), (4, .int (x4)), (5, .int (x5))] [.int (s0)] I J (none, q, J) := by
  intro x1 x3 x4 x5 s0 I q hF
  rw [f_X8_steals_b42] at hF
  refine g_istore O (pc := 42) (L' := [(6, .int (s0)), (0, .ref (0)), (1, .int (x1)), (3, .int (x3)), (4, .int (x4)), (5, .int (x5))]) dX8_steals_42 (by decide) rfl ?_
  refine g_iload O (pc := 44) dX8_steals_44 0 rfl ?_
  refine g_if_eq O (pc := 46) 58 dX8_steals_46 (by decide) (fun h1 => ?_) (fun h1 => ?_)
  · rw [if_pos h1] at hF
    refine g_sub [1, 2, 3, 4, 5, 0] (L' := [(0, .ref (0)), (1, .int (x1)), (3, .int (x3)), (4, .int (x4)), (5, .int (x5)), (6, .int (s0))]) rfl ?_
    exact c_X8_steals_b58 O hk12 _ _ _ _ _ _ _ hF
  · rw [if_neg h1] at hF
    refine g_iload_n O (pc := 49) dX8_steals_49 3 rfl ?_
    refine g_if_ne O (pc := 50) 58 dX8_steals_50 (by decide) (fun h2 => ?_) (fun h2 => ?_)
    · rw [if_neg h2] at hF
      refine g_sub [1, 2, 3, 4, 5, 0] (L' := [(0, .ref (0)), (1, .int (x1)), (3, .int (x3)), (4, .int (x4)), (5, .int (x5)), (6, .int (s0))]) rfl ?_
      exact c_X8_steals_b58 O hk12 _ _ _ _ _ _ _ hF
    · rw [if_pos h2] at hF
      refine g_iload O (pc := 53) dX8_steals_53 5 rfl ?_
      refine g_goto O (pc := 55) 60 dX8_steals_55 (by decide) ?_
      refine g_sub [1, 2, 3, 5, 0] (L' := [(0, .ref (0)), (1, .int (x1)), (3, .int (x3)), (5, .int (x5)), (6, .int (s0))]) rfl ?_
      exact c_X8_steals_b60 O hk12 _ _ _ _ _ _ _ hF

def f_X8_steals_b41 (k12 : Int32 → Int32 → Int32 → Int32 → IS → Option (IS)) (x1 : Int32) (x3 : Int32) (x4 : Int32) (x5 : Int32) (I : IS) : Option (IS) :=
  f_X8_steals_b42 k12 (x1) (x3) (x4) (x5) ((0 : Int32)) (I)
set_option maxHeartbeats 4000000 in
set_option maxRecDepth 100000 in
theorem c_X8_steals_b41 {z : CTX} {J : JS} (O : OK z cX8_steals RX8 7 SMod 36 (rm_ 3 69) none) {k12 : Int32 → Int32 → Int32 → Int32 → IS → Option (IS)} (hk12 : ∀ (x1 : Int32) (x3 : Int32) (x4 : Int32) (x5 : Int32) (I : IS) (q : IS), k12 x1 x3 x4 x5 I = some q → G z 12 [(0, .ref (0)), (1, .int (x1)), (3, .int (x3)), (4, .int (x4)), (5, .int (x5))] [] I J (none, q, J)) : ∀ (x1 : Int32) (x3 : Int32) (x4 : Int32) (x5 : Int32) (I : IS) (q : IS), f_X8_steals_b41 k12 x1 x3 x4 x5 I = some q → G z 41 [(0, .ref (0)), (1, .int (x1)), (3, .int (x3)), (4, .int (x4)), (5, .int (x5))] [] I J (none, q, J) := by
  intro x1 x3 x4 x5 I q hF
  rw [f_X8_steals_b41] at hF
  refine g_iconst O (pc := 41) dX8_steals_41 (ic_0) ?_
  refine g_sub [0, 1, 2, 3, 4] (L' := [(0, .ref (0)), (1, .int (x1)), (3, .int (x3)), (4, .int (x4)), (5, .int (x5))]) rfl ?_
  exact c_X8_steals_b42 O hk12 _ _ _ _ _ _ _ hF

def f_X8_steals_b12 : Nat → Int32 → Int32 → Int32 → Int32 → IS → Option (IS)
  | 0, _, _, _, _, _ => none
  | fu + 1, x1, x3, x4, x5, I =>
    if (I (0) 0) ≤ x5 then
    (if okI (((32 : Int32) * x4)) 128 = true then
    ((f_X8_leavesRows ((I (2) (((32 : Int32) * x4)).toNatClampNeg)) I).bind fun q3 =>
    (if okI (x1) 4 = true then
    (if okI (x1) 4 = true then
    ((f_X8_worksOn (x1) ((I (2) (((32 : Int32) * x4)).toNatClampNeg)) ((1 : Int32)) (u2 q3 (5) (x1).toNatClampNeg (((q3 (5) (x1).toNatClampNeg) + (1 : Int32))))).bind fun q7 =>
    (some (q7)))
    else none)
    else none))
    else none)
    else
    (if x5 = x1 then
    (f_X8_steals_b41 (f_X8_steals_b12 fu) (x1) (x3) (x4) (x5) (I))
    else
    (if okI (x5) 4 = true then
    (if (I (1) (x5).toNatClampNeg) ≤ 0 then
    (f_X8_steals_b41 (f_X8_steals_b12 fu) (x1) (x3) (x4) (x5) (I))
    else
    (f_X8_steals_b42 (f_X8_steals_b12 fu) (x1) (x3) (x4) (x5) ((1 : Int32)) (I)))
    else none))
set_option maxHeartbeats 4000000 in
set_option maxRecDepth 100000 in
theorem c_X8_steals_b12 {z : CTX} {J : JS} (O : OK z cX8_steals RX8 7 SMod 36 (rm_ 3 69) none) : ∀ (fu : Nat) (x1 : Int32) (x3 : Int32) (x4 : Int32) (x5 : Int32) (I : IS) (q : IS), f_X8_steals_b12 fu x1 x3 x4 x5 I = some q → G z 12 [(0, .ref (0)), (1, .int (x1)), (3, .int (x3)), (4, .int (x4)), (5, .int (x5))] [] I J (none, q, J) := by
  intro fu
  induction fu with
  | zero =>
    intro x1 x3 x4 x5 I q hF
    cases hF
  | succ fu ih =>
    intro x1 x3 x4 x5 I q hF
    rw [f_X8_steals_b12] at hF
    refine g_iload O (pc := 12) dX8_steals_12 4 rfl ?_
    refine g_aload_n O (pc := 14) dX8_steals_14 0 rfl ?_
    refine g_getI O (pc := 15) isC_X8 dX8_steals_15 fw_X8_7 (by decide) fd_SMod_0_0 ?_
    refine g_icmp_ge O (pc := 18) 81 dX8_steals_18 (by decide) (fun h1 => ?_) (fun h1 => ?_)
    · rw [if_pos h1] at hF
      refine g_aload_n O (pc := 81) dX8_steals_81 0 rfl ?_
      refine g_getR O (pc := 82) isC_X8 dX8_steals_82 fw_X8_17 (by decide) fd_SMod_0_2 ?_
      refine g_bipush O (pc := 85) dX8_steals_85 bp_32 ?_
      refine g_iload O (pc := 87) dX8_steals_87 3 rfl ?_
      refine g_imul O (pc := 89) dX8_steals_89 ?_
      obtain ⟨h2, hF⟩ := gd hF
      refine g_il O (pc := 90) dX8_steals_90 ar_SMod_2 h2 ?_
      refine g_istore O (pc := 91) (L' := [(5, .int ((I (2) (((32 : Int32) * x4)).toNatClampNeg))), (0, .ref (0)), (1, .int (x1)), (3, .int (x3)), (4, .int (x4))]) dX8_steals_91 (by decide) rfl ?_
      refine g_aload_n O (pc := 93) dX8_steals_93 1 rfl ?_
      refine g_iload O (pc := 94) dX8_steals_94 0 rfl ?_
      obtain ⟨q3, e4, hF⟩ := bnd hF
      refine g_Vv O (pc := 96) (st := []) dX8_steals_96 (mc_X8_leavesRows J e4) cb_X8_leavesRows ml_X8_187 isC_X8 ob_SMod (zm0 _ _ _ _ _ _ _) (rmok (Nat.le_of_ble_eq_true rfl) (Nat.le_of_ble_eq_true rfl)) (Nat.le_of_ble_eq_true rfl) rfl ?_
      refine g_aload_n O (pc := 99) dX8_steals_99 1 rfl ?_
      refine g_getR O (pc := 100) isC_X8 dX8_steals_100 fw_X8_26 (by decide) fd_SMod_0_5 ?_
      refine g_iload_n O (pc := 103) dX8_steals_103 2 rfl ?_
      refine g_dup2 O (pc := 104) dX8_steals_104 rfl rfl ?_
      obtain ⟨h5, hF⟩ := gd hF
      refine g_il O (pc := 105) dX8_steals_105 ar_SMod_5 h5 ?_
      refine g_iconst O (pc := 106) dX8_steals_106 (ic_1) ?_
      refine g_iadd O (pc := 107) dX8_steals_107 ?_
      obtain ⟨h6, hF⟩ := gd hF
      refine g_is O (pc := 108) dX8_steals_108 ar_SMod_5 h6 ?_
      refine g_aload_n O (pc := 109) dX8_steals_109 1 rfl ?_
      refine g_iload_n O (pc := 110) dX8_steals_110 2 rfl ?_
      refine g_iload O (pc := 111) dX8_steals_111 0 rfl ?_
      refine g_iconst O (pc := 113) dX8_steals_113 (ic_1) ?_
      obtain ⟨q7, e8, hF⟩ := bnd hF
      refine g_Vv O (pc := 114) (st := []) dX8_steals_114 (mc_X8_worksOn J e8) cb_X8_worksOn ml_X8_218 isC_X8 ob_SMod (zm0 _ _ _ _ _ _ _) (rmok (Nat.le_of_ble_eq_true rfl) (Nat.le_of_ble_eq_true rfl)) (Nat.le_of_ble_eq_true rfl) rfl ?_
      obtain rfl := Option.some.inj hF
      exact g_return O (pc := 117) dX8_steals_117 rfl
    · rw [if_neg h1] at hF
      refine g_iload O (pc := 21) dX8_steals_21 4 rfl ?_
      refine g_iload_n O (pc := 23) dX8_steals_23 1 rfl ?_
      refine g_icmp_eq O (pc := 24) 41 dX8_steals_24 (by decide) (fun h9 => ?_) (fun h9 => ?_)
      · rw [if_pos h9] at hF
        refine g_sub [0, 1, 2, 3, 4] (L' := [(0, .ref (0)), (1, .int (x1)), (3, .int (x3)), (4, .int (x4)), (5, .int (x5))]) rfl ?_
        exact c_X8_steals_b41 O ih _ _ _ _ _ _ hF
      · rw [if_neg h9] at hF
        refine g_aload_n O (pc := 27) dX8_steals_27 0 rfl ?_
        refine g_getR O (pc := 28) isC_X8 dX8_steals_28 fw_X8_13 (by decide) fd_SMod_0_1 ?_
        refine g_iload O (pc := 31) dX8_steals_31 4 rfl ?_
        obtain ⟨h10, hF⟩ := gd hF
        refine g_il O (pc := 33) dX8_steals_33 ar_SMod_1 h10 ?_
        refine g_if_le O (pc := 34) 41 dX8_steals_34 (by decide) (fun h11 => ?_) (fun h11 => ?_)
        · rw [if_pos h11] at hF
          refine g_sub [0, 1, 2, 3, 4] (L' := [(0, .ref (0)), (1, .int (x1)), (3, .int (x3)), (4, .int (x4)), (5, .int (x5))]) rfl ?_
          exact c_X8_steals_b41 O ih _ _ _ _ _ _ hF
        · rw [if_neg h11] at hF
          refine g_iconst O (pc := 37) dX8_steals_37 (ic_1) ?_
          refine g_goto O (pc := 38) 42 dX8_steals_38 (by decide) ?_
          refine g_sub [0, 1, 2, 3, 4] (L' := [(0, .ref (0)), (1, .int (x1)), (3, .int (x3)), (4, .int (x4)), (5, .int (x5))]) rfl ?_
          exact c_X8_steals_b42 O ih _ _ _ _ _ _ _ hF

def f_X8_steals (x1 : Int32) (x2 : Int32) (I : IS) : Option (IS) :=
  (f_X8_drawBelow (x2) I).bind fun q1 =>
  (f_X8_steals_b12 LF (x1) (q1.1) ((-1 : Int32)) ((0 : Int32)) (q1.2))
set_option maxHeartbeats 4000000 in
set_option maxRecDepth 100000 in
theorem c_X8_steals_e {z : CTX} {J : JS} (O : OK z cX8_steals RX8 7 SMod 36 (rm_ 3 69) none) : ∀ (x1 : Int32) (x2 : Int32) (I : IS) (q : IS), f_X8_steals x1 x2 I = some q → G z 0 [(0, .ref (0)), (1, .int (x1)), (2, .int (x2))] [] I J (none, q, J) := by
  intro x1 x2 I q hF
  rw [f_X8_steals] at hF
  refine g_aload_n O (pc := 0) dX8_steals_0 0 rfl ?_
  refine g_iload_n O (pc := 1) dX8_steals_1 2 rfl ?_
  obtain ⟨q1, e2, hF⟩ := bnd hF
  refine g_Vi O (pc := 2) (st := []) dX8_steals_2 (mc_X8_drawBelow J e2) cb_X8_drawBelow ml_X8_215 isC_X8 ob_SMod (zm0 _ _ _ _ _ _ _) (rmok (Nat.le_of_ble_eq_true rfl) (Nat.le_of_ble_eq_true rfl)) (Nat.le_of_ble_eq_true rfl) rfl ?_
  refine g_istore_n O (pc := 5) (L' := [(3, .int (q1.1)), (0, .ref (0)), (1, .int (x1)), (2, .int (x2))]) dX8_steals_5 (by decide) rfl ?_
  refine g_iconst O (pc := 6) dX8_steals_6 (ic_m1) ?_
  refine g_istore O (pc := 7) (L' := [(4, .int ((-1 : Int32))), (3, .int (q1.1)), (0, .ref (0)), (1, .int (x1)), (2, .int (x2))]) dX8_steals_7 (by decide) rfl ?_
  refine g_iconst O (pc := 9) dX8_steals_9 (ic_0) ?_
  refine g_istore O (pc := 10) (L' := [(5, .int ((0 : Int32))), (4, .int ((-1 : Int32))), (3, .int (q1.1)), (0, .ref (0)), (1, .int (x1)), (2, .int (x2))]) dX8_steals_10 (by decide) rfl ?_
  refine g_sub [3, 4, 2, 1, 0] (L' := [(0, .ref (0)), (1, .int (x1)), (3, .int (q1.1)), (4, .int ((-1 : Int32))), (5, .int ((0 : Int32)))]) rfl ?_
  exact c_X8_steals_b12 O _ _ _ _ _ _ _ hF

theorem mc_X8_steals {x1 : Int32} {x2 : Int32} {I : IS} (J : JS) {q : IS} (hF : f_X8_steals x1 x2 I = some q) : MC yX8_steals cX8_steals 7 none (rm_ 3 69) SMod 36 [.ref (0), .int (x1), .int (x2)] I J (none, q, J) :=
  mc_of pn_X8 (Nat.le_of_ble_eq_true rfl) (fun z O => c_X8_steals_e O _ _ _ _ hF)

def f_X8_armGoes (x1 : Int32) (I : IS) : Option (IS) :=
  if okI (x1) 4 = true then
  (if (I (3) (x1).toNatClampNeg) < 0 then
  (if okI (x1) 4 = true then
  (if (I (1) (x1).toNatClampNeg) ≤ 0 then
  ((f_X8_fullOthers (x1) I).bind fun q5 =>
  (if q5 ≤ 0 then
  (if okI (x1) 4 = true then
  (if okI (x1) 4 = true then
  (some ((u2 I (4) (x1).toNatClampNeg (((I (4) (x1).toNatClampNeg) + (1 : Int32))))))
  else none)
  else none)
  else
  ((f_X8_fullOthers (x1) I).bind fun q10 =>
  ((f_X8_steals (x1) (q10) I).bind fun q12 =>
  (some (q12))))))
  else
  (if okI (x1) 4 = true then
  (if okI (x1) 4 = true then
  (if okI (x1) 4 = true then
  (if okI ((((32 : Int32) * x1) + ((u2 I (1) (x1).toNatClampNeg (((I (1) (x1).toNatClampNeg) - (1 : Int32)))) (1) (x1).toNatClampNeg))) 128 = true then
  ((f_X8_worksOn (x1) (((u2 I (1) (x1).toNatClampNeg (((I (1) (x1).toNatClampNeg) - (1 : Int32)))) (2) ((((32 : Int32) * x1) + ((u2 I (1) (x1).toNatClampNeg (((I (1) (x1).toNatClampNeg) - (1 : Int32)))) (1) (x1).toNatClampNeg))).toNatClampNeg)) ((0 : Int32)) (u2 I (1) (x1).toNatClampNeg (((I (1) (x1).toNatClampNeg) - (1 : Int32))))).bind fun q18 =>
  (some (q18)))
  else none)
  else none)
  else none)
  else none))
  else none)
  else
  (if okI ((I (3) (x1).toNatClampNeg)) 32 = true then
  (if okI ((I (3) (x1).toNatClampNeg)) 32 = true then
  ((some (u2 I (8) ((I (3) (x1).toNatClampNeg)).toNatClampNeg (((I (8) ((I (3) (x1).toNatClampNeg)).toNatClampNeg) - (1 : Int32))))).bind fun I22 =>
  (if okI ((I (3) (x1).toNatClampNeg)) 32 = true then
  (if (I22 (8) ((I (3) (x1).toNatClampNeg)).toNatClampNeg) = 0 then
  (if okI (x1) 4 = true then
  ((f_X8_isThrough (x1) ((I (3) (x1).toNatClampNeg)) (u2 I22 (3) (x1).toNatClampNeg ((-5 : Int32)))).bind fun q27 =>
  (some (q27)))
  else none)
  else
  (some (I22)))
  else none))
  else none)
  else none))
  else none
set_option maxHeartbeats 4000000 in
set_option maxRecDepth 100000 in
theorem c_X8_armGoes_e {z : CTX} {J : JS} (O : OK z cX8_armGoes RX8 3 SMod 36 (rm_ 6 137) none) : ∀ (x1 : Int32) (I : IS) (q : IS), f_X8_armGoes x1 I = some q → G z 0 [(0, .ref (0)), (1, .int (x1))] [] I J (none, q, J) := by
  intro x1 I q hF
  rw [f_X8_armGoes] at hF
  refine g_aload_n O (pc := 0) dX8_armGoes_0 0 rfl ?_
  refine g_getR O (pc := 1) isC_X8 dX8_armGoes_1 fw_X8_20 (by decide) fd_SMod_0_3 ?_
  refine g_iload_n O (pc := 4) dX8_armGoes_4 1 rfl ?_
  obtain ⟨h1, hF⟩ := gd hF
  refine g_il O (pc := 5) dX8_armGoes_5 ar_SMod_3 h1 ?_
  refine g_istore_n O (pc := 6) (L' := [(2, .int ((I (3) (x1).toNatClampNeg))), (0, .ref (0)), (1, .int (x1))]) dX8_armGoes_6 (by decide) rfl ?_
  refine g_iload_n O (pc := 7) dX8_armGoes_7 0 rfl ?_
  refine g_if_lt O (pc := 8) 47 dX8_armGoes_8 (by decide) (fun h2 => ?_) (fun h2 => ?_)
  · rw [if_pos h2] at hF
    refine g_aload_n O (pc := 47) dX8_armGoes_47 1 rfl ?_
    refine g_getR O (pc := 48) isC_X8 dX8_armGoes_48 fw_X8_13 (by decide) fd_SMod_0_1 ?_
    refine g_iload_n O (pc := 51) dX8_armGoes_51 2 rfl ?_
    obtain ⟨h3, hF⟩ := gd hF
    refine g_il O (pc := 52) dX8_armGoes_52 ar_SMod_1 h3 ?_
    refine g_if_le O (pc := 53) 91 dX8_armGoes_53 (by decide) (fun h4 => ?_) (fun h4 => ?_)
    · rw [if_pos h4] at hF
      refine g_aload_n O (pc := 91) dX8_armGoes_91 1 rfl ?_
      refine g_iload_n O (pc := 92) dX8_armGoes_92 2 rfl ?_
      obtain ⟨q5, e6, hF⟩ := bnd hF
      refine g_Vi O (pc := 93) (st := []) dX8_armGoes_93 (mc_X8_fullOthers J e6) cb_X8_fullOthers ml_X8_224 isC_X8 ob_SMod (zm0 _ _ _ _ _ _ _) (rmok (Nat.le_of_ble_eq_true rfl) (Nat.le_of_ble_eq_true rfl)) (Nat.le_of_ble_eq_true rfl) rfl ?_
      refine g_if_le O (pc := 96) 112 dX8_armGoes_96 (by decide) (fun h7 => ?_) (fun h7 => ?_)
      · rw [if_pos h7] at hF
        refine g_aload_n O (pc := 112) dX8_armGoes_112 1 rfl ?_
        refine g_getR O (pc := 113) isC_X8 dX8_armGoes_113 fw_X8_23 (by decide) fd_SMod_0_4 ?_
        refine g_iload_n O (pc := 116) dX8_armGoes_116 2 rfl ?_
        refine g_dup2 O (pc := 117) dX8_armGoes_117 rfl rfl ?_
        obtain ⟨h8, hF⟩ := gd hF
        refine g_il O (pc := 118) dX8_armGoes_118 ar_SMod_4 h8 ?_
        refine g_iconst O (pc := 119) dX8_armGoes_119 (ic_1) ?_
        refine g_iadd O (pc := 120) dX8_armGoes_120 ?_
        obtain ⟨h9, hF⟩ := gd hF
        refine g_is O (pc := 121) dX8_armGoes_121 ar_SMod_4 h9 ?_
        obtain rfl := Option.some.inj hF
        exact g_return O (pc := 122) dX8_armGoes_122 rfl
      · rw [if_neg h7] at hF
        refine g_aload_n O (pc := 99) dX8_armGoes_99 1 rfl ?_
        refine g_iload_n O (pc := 100) dX8_armGoes_100 2 rfl ?_
        refine g_aload_n O (pc := 101) dX8_armGoes_101 1 rfl ?_
        refine g_iload_n O (pc := 102) dX8_armGoes_102 2 rfl ?_
        obtain ⟨q10, e11, hF⟩ := bnd hF
        refine g_Vi O (pc := 103) (st := [.int (x1), .ref (0)]) dX8_armGoes_103 (mc_X8_fullOthers J e11) cb_X8_fullOthers ml_X8_224 isC_X8 ob_SMod (zm0 _ _ _ _ _ _ _) (rmok (Nat.le_of_ble_eq_true rfl) (Nat.le_of_ble_eq_true rfl)) (Nat.le_of_ble_eq_true rfl) rfl ?_
        obtain ⟨q12, e13, hF⟩ := bnd hF
        refine g_Vv O (pc := 106) (st := []) dX8_armGoes_106 (mc_X8_steals J e13) cb_X8_steals ml_X8_227 isC_X8 ob_SMod (zm0 _ _ _ _ _ _ _) (rmok (Nat.le_of_ble_eq_true rfl) (Nat.le_of_ble_eq_true rfl)) (Nat.le_of_ble_eq_true rfl) rfl ?_
        refine g_goto O (pc := 109) 122 dX8_armGoes_109 (by decide) ?_
        obtain rfl := Option.some.inj hF
        exact g_return O (pc := 122) dX8_armGoes_122 rfl
    · rw [if_neg h4] at hF
      refine g_aload_n O (pc := 56) dX8_armGoes_56 1 rfl ?_
      refine g_getR O (pc := 57) isC_X8 dX8_armGoes_57 fw_X8_13 (by decide) fd_SMod_0_1 ?_
      refine g_iload_n O (pc := 60) dX8_armGoes_60 2 rfl ?_
      refine g_dup2 O (pc := 61) dX8_armGoes_61 rfl rfl ?_
      obtain ⟨h14, hF⟩ := gd hF
      refine g_il O (pc := 62) dX8_armGoes_62 ar_SMod_1 h14 ?_
      refine g_iconst O (pc := 63) dX8_armGoes_63 (ic_1) ?_
      refine g_isub O (pc := 64) dX8_armGoes_64 ?_
      obtain ⟨h15, hF⟩ := gd hF
      refine g_is O (pc := 65) dX8_armGoes_65 ar_SMod_1 h15 ?_
      refine g_aload_n O (pc := 66) dX8_armGoes_66 1 rfl ?_
      refine g_iload_n O (pc := 67) dX8_armGoes_67 2 rfl ?_
      refine g_aload_n O (pc := 68) dX8_armGoes_68 1 rfl ?_
      refine g_getR O (pc := 69) isC_X8 dX8_armGoes_69 fw_X8_17 (by decide) fd_SMod_0_2 ?_
      refine g_bipush O (pc := 72) dX8_armGoes_72 bp_32 ?_
      refine g_iload_n O (pc := 74) dX8_armGoes_74 2 rfl ?_
      refine g_imul O (pc := 75) dX8_armGoes_75 ?_
      refine g_aload_n O (pc := 76) dX8_armGoes_76 1 rfl ?_
      refine g_getR O (pc := 77) isC_X8 dX8_armGoes_77 fw_X8_13 (by decide) fd_SMod_0_1 ?_
      refine g_iload_n O (pc := 80) dX8_armGoes_80 2 rfl ?_
      obtain ⟨h16, hF⟩ := gd hF
      refine g_il O (pc := 81) dX8_armGoes_81 ar_SMod_1 h16 ?_
      refine g_iadd O (pc := 82) dX8_armGoes_82 ?_
      obtain ⟨h17, hF⟩ := gd hF
      refine g_il O (pc := 83) dX8_armGoes_83 ar_SMod_2 h17 ?_
      refine g_iconst O (pc := 84) dX8_armGoes_84 (ic_0) ?_
      obtain ⟨q18, e19, hF⟩ := bnd hF
      refine g_Vv O (pc := 85) (st := []) dX8_armGoes_85 (mc_X8_worksOn J e19) cb_X8_worksOn ml_X8_218 isC_X8 ob_SMod (zm0 _ _ _ _ _ _ _) (rmok (Nat.le_of_ble_eq_true rfl) (Nat.le_of_ble_eq_true rfl)) (Nat.le_of_ble_eq_true rfl) rfl ?_
      refine g_goto O (pc := 88) 122 dX8_armGoes_88 (by decide) ?_
      obtain rfl := Option.some.inj hF
      exact g_return O (pc := 122) dX8_armGoes_122 rfl
  · rw [if_neg h2] at hF
    refine g_aload_n O (pc := 11) dX8_armGoes_11 1 rfl ?_
    refine g_getR O (pc := 12) isC_X8 dX8_armGoes_12 fw_X8_35 (by decide) fd_SMod_0_9 ?_
    refine g_iload_n O (pc := 15) dX8_armGoes_15 0 rfl ?_
    refine g_dup2 O (pc := 16) dX8_armGoes_16 rfl rfl ?_
    obtain ⟨h20, hF⟩ := gd hF
    refine g_il O (pc := 17) dX8_armGoes_17 ar_SMod_8 h20 ?_
    refine g_iconst O (pc := 18) dX8_armGoes_18 (ic_1) ?_
    refine g_isub O (pc := 19) dX8_armGoes_19 ?_
    obtain ⟨h21, hF⟩ := gd hF
    refine g_is O (pc := 20) dX8_armGoes_20 ar_SMod_8 h21 ?_
    obtain ⟨I22, g23, hF⟩ := bnd hF
    refine g_nmI (Option.some.inj g23) ?_
    refine g_aload_n O (pc := 21) dX8_armGoes_21 1 rfl ?_
    refine g_getR O (pc := 22) isC_X8 dX8_armGoes_22 fw_X8_35 (by decide) fd_SMod_0_9 ?_
    refine g_iload_n O (pc := 25) dX8_armGoes_25 0 rfl ?_
    obtain ⟨h24, hF⟩ := gd hF
    refine g_il O (pc := 26) dX8_armGoes_26 ar_SMod_8 h24 ?_
    refine g_if_ne O (pc := 27) 122 dX8_armGoes_27 (by decide) (fun h25 => ?_) (fun h25 => ?_)
    · rw [if_neg h25] at hF
      obtain rfl := Option.some.inj hF
      exact g_return O (pc := 122) dX8_armGoes_122 rfl
    · rw [if_pos h25] at hF
      refine g_aload_n O (pc := 30) dX8_armGoes_30 1 rfl ?_
      refine g_getR O (pc := 31) isC_X8 dX8_armGoes_31 fw_X8_20 (by decide) fd_SMod_0_3 ?_
      refine g_iload_n O (pc := 34) dX8_armGoes_34 2 rfl ?_
      refine g_bipush O (pc := 35) dX8_armGoes_35 bp_m5 ?_
      obtain ⟨h26, hF⟩ := gd hF
      refine g_is O (pc := 37) dX8_armGoes_37 ar_SMod_3 h26 ?_
      refine g_aload_n O (pc := 38) dX8_armGoes_38 1 rfl ?_
      refine g_iload_n O (pc := 39) dX8_armGoes_39 2 rfl ?_
      refine g_iload_n O (pc := 40) dX8_armGoes_40 0 rfl ?_
      obtain ⟨q27, e28, hF⟩ := bnd hF
      refine g_Vv O (pc := 41) (st := []) dX8_armGoes_41 (mc_X8_isThrough J e28) cb_X8_isThrough ml_X8_221 isC_X8 ob_SMod (zm0 _ _ _ _ _ _ _) (rmok (Nat.le_of_ble_eq_true rfl) (Nat.le_of_ble_eq_true rfl)) (Nat.le_of_ble_eq_true rfl) rfl ?_
      refine g_goto O (pc := 44) 122 dX8_armGoes_44 (by decide) ?_
      obtain rfl := Option.some.inj hF
      exact g_return O (pc := 122) dX8_armGoes_122 rfl

theorem mc_X8_armGoes {x1 : Int32} {I : IS} (J : JS) {q : IS} (hF : f_X8_armGoes x1 I = some q) : MC yX8_armGoes cX8_armGoes 3 none (rm_ 6 137) SMod 36 [.ref (0), .int (x1)] I J (none, q, J) :=
  mc_of pn_X8 (Nat.le_of_ble_eq_true rfl) (fun z O => c_X8_armGoes_e O _ _ _ hF)

def f_X8_roundOn_b2 : Nat → Int32 → IS → Option (IS)
  | 0, _, _ => none
  | fu + 1, x1, I =>
    if (I (0) 0) ≤ x1 then
    (some ((u2 I (0) 15 (((I (0) 15) + (1 : Int32))))))
    else
    ((f_X8_armGoes (x1) I).bind fun q2 =>
    (f_X8_roundOn_b2 fu (x1 + (1 : Int32)) (q2)))
set_option maxHeartbeats 4000000 in
set_option maxRecDepth 100000 in
theorem c_X8_roundOn_b2 {z : CTX} {J : JS} (O : OK z cX8_roundOn RX8 2 SMod 36 (rm_ 7 159) none) : ∀ (fu : Nat) (x1 : Int32) (I : IS) (q : IS), f_X8_roundOn_b2 fu x1 I = some q → G z 2 [(0, .ref (0)), (1, .int (x1))] [] I J (none, q, J) := by
  intro fu
  induction fu with
  | zero =>
    intro x1 I q hF
    cases hF
  | succ fu ih =>
    intro x1 I q hF
    rw [f_X8_roundOn_b2] at hF
    refine g_iload_n O (pc := 2) dX8_roundOn_2 1 rfl ?_
    refine g_aload_n O (pc := 3) dX8_roundOn_3 0 rfl ?_
    refine g_getI O (pc := 4) isC_X8 dX8_roundOn_4 fw_X8_7 (by decide) fd_SMod_0_0 ?_
    refine g_icmp_ge O (pc := 7) 21 dX8_roundOn_7 (by decide) (fun h1 => ?_) (fun h1 => ?_)
    · rw [if_pos h1] at hF
      refine g_aload_n O (pc := 21) dX8_roundOn_21 0 rfl ?_
      refine g_dup O (pc := 22) dX8_roundOn_22 rfl ?_
      refine g_getI O (pc := 23) isC_X8 dX8_roundOn_23 fw_X8_157 (by decide) fd_SMod_0_15 ?_
      refine g_iconst O (pc := 26) dX8_roundOn_26 (ic_1) ?_
      refine g_iadd O (pc := 27) dX8_roundOn_27 ?_
      refine g_putI O (pc := 28) isC_X8 isT_X8 dX8_roundOn_28 fw_X8_157 (by decide) rfl rfl fd_SMod_0_15 ?_
      obtain rfl := Option.some.inj hF
      exact g_return O (pc := 31) dX8_roundOn_31 rfl
    · rw [if_neg h1] at hF
      refine g_aload_n O (pc := 10) dX8_roundOn_10 0 rfl ?_
      refine g_iload_n O (pc := 11) dX8_roundOn_11 1 rfl ?_
      obtain ⟨q2, e3, hF⟩ := bnd hF
      refine g_Vv O (pc := 12) (st := []) dX8_roundOn_12 (mc_X8_armGoes J e3) cb_X8_armGoes ml_X8_230 isC_X8 ob_SMod (zm0 _ _ _ _ _ _ _) (rmok (Nat.le_of_ble_eq_true rfl) (Nat.le_of_ble_eq_true rfl)) (Nat.le_of_ble_eq_true rfl) rfl ?_
      refine g_iinc O (pc := 15) (v := x1 + (1 : Int32)) (L' := [(1, .int (x1 + (1 : Int32))), (0, .ref (0))]) dX8_roundOn_15 1 rfl rfl (by decide) rfl ?_
      refine g_goto O (pc := 18) 2 dX8_roundOn_18 (by decide) ?_
      refine g_sub [1, 0] (L' := [(0, .ref (0)), (1, .int (x1 + (1 : Int32)))]) rfl ?_
      exact ih _ _ _ hF

def f_X8_roundOn (I : IS) : Option (IS) :=
  f_X8_roundOn_b2 LF ((0 : Int32)) (I)
set_option maxHeartbeats 4000000 in
set_option maxRecDepth 100000 in
theorem c_X8_roundOn_e {z : CTX} {J : JS} (O : OK z cX8_roundOn RX8 2 SMod 36 (rm_ 7 159) none) : ∀ (I : IS) (q : IS), f_X8_roundOn I = some q → G z 0 [(0, .ref (0))] [] I J (none, q, J) := by
  intro I q hF
  rw [f_X8_roundOn] at hF
  refine g_iconst O (pc := 0) dX8_roundOn_0 (ic_0) ?_
  refine g_istore_n O (pc := 1) (L' := [(1, .int ((0 : Int32))), (0, .ref (0))]) dX8_roundOn_1 (by decide) rfl ?_
  refine g_sub [1, 0] (L' := [(0, .ref (0)), (1, .int ((0 : Int32)))]) rfl ?_
  exact c_X8_roundOn_b2 O _ _ _ _ hF

theorem mc_X8_roundOn {I : IS} (J : JS) {q : IS} (hF : f_X8_roundOn I = some q) : MC yX8_roundOn cX8_roundOn 2 none (rm_ 7 159) SMod 36 [.ref (0)] I J (none, q, J) :=
  mc_of pn_X8 (Nat.le_of_ble_eq_true rfl) (fun z O => c_X8_roundOn_e O _ _ hF)

def f_X8_allSeen_b107 (s0 : Int32) (I : IS) : Option (Int32 × IS) :=
  (f_X8_again I).bind fun q1 =>
  (if okZ (s0) = true then some (s0, q1) else none)
set_option maxHeartbeats 4000000 in
set_option maxRecDepth 100000 in
theorem c_X8_allSeen_b107 {z : CTX} {J : JS} (O : OK z cX8_allSeen RX8 4 SMod 36 (rm_ 8 180) (some .boolean)) : ∀ (s0 : Int32) (I : IS) (q : Int32 × IS), f_X8_allSeen_b107 s0 I = some q → G z 107 [(0, .ref (0))] [.int (s0)] I J (some (.int q.1), q.2, J) := by
  intro s0 I q hF
  rw [f_X8_allSeen_b107] at hF
  refine g_istore_n O (pc := 107) (L' := [(3, .int (s0)), (0, .ref (0))]) dX8_allSeen_107 (by decide) rfl ?_
  refine g_aload_n O (pc := 108) dX8_allSeen_108 1 rfl ?_
  obtain ⟨q1, e2, hF⟩ := bnd hF
  refine g_Vv O (pc := 109) (st := []) dX8_allSeen_109 (mc_X8_again J e2) cb_X8_again ml_X8_321 isC_X8 ob_SMod (zm0 _ _ _ _ _ _ _) (rmok (Nat.le_of_ble_eq_true rfl) (Nat.le_of_ble_eq_true rfl)) (Nat.le_of_ble_eq_true rfl) rfl ?_
  refine g_iload_n O (pc := 112) dX8_allSeen_112 0 rfl ?_
  obtain ⟨h3, hF⟩ := gd hF
  obtain rfl := Option.some.inj hF
  exact g_zreturn O (pc := 113) dX8_allSeen_113 h3 rfl

def f_X8_allSeen_b106 (I : IS) : Option (Int32 × IS) :=
  f_X8_allSeen_b107 ((0 : Int32)) (I)
set_option maxHeartbeats 4000000 in
set_option maxRecDepth 100000 in
theorem c_X8_allSeen_b106 {z : CTX} {J : JS} (O : OK z cX8_allSeen RX8 4 SMod 36 (rm_ 8 180) (some .boolean)) : ∀ (I : IS) (q : Int32 × IS), f_X8_allSeen_b106 I = some q → G z 106 [(0, .ref (0))] [] I J (some (.int q.1), q.2, J) := by
  intro I q hF
  rw [f_X8_allSeen_b106] at hF
  refine g_iconst O (pc := 106) dX8_allSeen_106 (ic_0) ?_
  refine g_sub [0] (L' := [(0, .ref (0))]) rfl ?_
  exact c_X8_allSeen_b107 O _ _ _ hF

def f_X8_allSeen_b87 (x2 : Int32) (I : IS) : Option (Int32 × IS) :=
  if (I (0) 27) ≤ x2 then
  (f_X8_allSeen_b106 (I))
  else
  (if (I (0) 28) = 0 then
  (f_X8_allSeen_b107 ((1 : Int32)) (I))
  else
  (f_X8_allSeen_b106 (I)))
set_option maxHeartbeats 4000000 in
set_option maxRecDepth 100000 in
theorem c_X8_allSeen_b87 {z : CTX} {J : JS} (O : OK z cX8_allSeen RX8 4 SMod 36 (rm_ 8 180) (some .boolean)) : ∀ (x2 : Int32) (I : IS) (q : Int32 × IS), f_X8_allSeen_b87 x2 I = some q → G z 87 [(0, .ref (0)), (2, .int (x2))] [] I J (some (.int q.1), q.2, J) := by
  intro x2 I q hF
  rw [f_X8_allSeen_b87] at hF
  refine g_aload_n O (pc := 87) dX8_allSeen_87 0 rfl ?_
  refine g_getI O (pc := 88) isC_X8 dX8_allSeen_88 fw_X8_176 (by decide) fd_SMod_0_27 ?_
  refine g_iload_n O (pc := 91) dX8_allSeen_91 1 rfl ?_
  refine g_icmp_le O (pc := 92) 106 dX8_allSeen_92 (by decide) (fun h1 => ?_) (fun h1 => ?_)
  · rw [if_pos h1] at hF
    refine g_sub [0] (L' := [(0, .ref (0))]) rfl ?_
    exact c_X8_allSeen_b106 O _ _ hF
  · rw [if_neg h1] at hF
    refine g_aload_n O (pc := 95) dX8_allSeen_95 0 rfl ?_
    refine g_getI O (pc := 96) isC_X8 dX8_allSeen_96 fw_X8_173 (by decide) fd_SMod_0_28 ?_
    refine g_if_ne O (pc := 99) 106 dX8_allSeen_99 (by decide) (fun h2 => ?_) (fun h2 => ?_)
    · rw [if_neg h2] at hF
      refine g_sub [0] (L' := [(0, .ref (0))]) rfl ?_
      exact c_X8_allSeen_b106 O _ _ hF
    · rw [if_pos h2] at hF
      refine g_iconst O (pc := 102) dX8_allSeen_102 (ic_1) ?_
      refine g_goto O (pc := 103) 107 dX8_allSeen_103 (by decide) ?_
      refine g_sub [0] (L' := [(0, .ref (0))]) rfl ?_
      exact c_X8_allSeen_b107 O _ _ _ hF

def f_X8_allSeen_b56 : Nat → Int32 → Int32 → IS → Option (Int32 × IS)
  | 0, _, _, _ => none
  | fu + 1, x2, x3, I =>
    if (60 : Int32) ≤ x3 then
    (f_X8_allSeen_b87 (x2) (I))
    else
    (if x2 < (I (0) 27) then
    (f_X8_allSeen_b87 (x2) (I))
    else
    (if (I (0) 28) = 0 then
    ((f_X8_roundOn I).bind fun q4 =>
    (f_X8_allSeen_b56 fu (x2) (x3 + (1 : Int32)) (q4)))
    else
    (f_X8_allSeen_b87 (x2) (I))))
set_option maxHeartbeats 4000000 in
set_option maxRecDepth 100000 in
theorem c_X8_allSeen_b56 {z : CTX} {J : JS} (O : OK z cX8_allSeen RX8 4 SMod 36 (rm_ 8 180) (some .boolean)) : ∀ (fu : Nat) (x2 : Int32) (x3 : Int32) (I : IS) (q : Int32 × IS), f_X8_allSeen_b56 fu x2 x3 I = some q → G z 56 [(0, .ref (0)), (2, .int (x2)), (3, .int (x3))] [] I J (some (.int q.1), q.2, J) := by
  intro fu
  induction fu with
  | zero =>
    intro x2 x3 I q hF
    cases hF
  | succ fu ih =>
    intro x2 x3 I q hF
    rw [f_X8_allSeen_b56] at hF
    refine g_iload_n O (pc := 56) dX8_allSeen_56 2 rfl ?_
    refine g_bipush O (pc := 57) dX8_allSeen_57 bp_60 ?_
    refine g_icmp_ge O (pc := 59) 87 dX8_allSeen_59 (by decide) (fun h1 => ?_) (fun h1 => ?_)
    · rw [if_pos h1] at hF
      refine g_sub [0, 1] (L' := [(0, .ref (0)), (2, .int (x2))]) rfl ?_
      exact c_X8_allSeen_b87 O _ _ _ hF
    · rw [if_neg h1] at hF
      refine g_aload_n O (pc := 62) dX8_allSeen_62 0 rfl ?_
      refine g_getI O (pc := 63) isC_X8 dX8_allSeen_63 fw_X8_176 (by decide) fd_SMod_0_27 ?_
      refine g_iload_n O (pc := 66) dX8_allSeen_66 1 rfl ?_
      refine g_icmp_gt O (pc := 67) 87 dX8_allSeen_67 (by decide) (fun h2 => ?_) (fun h2 => ?_)
      · rw [if_pos h2] at hF
        refine g_sub [0, 1] (L' := [(0, .ref (0)), (2, .int (x2))]) rfl ?_
        exact c_X8_allSeen_b87 O _ _ _ hF
      · rw [if_neg h2] at hF
        refine g_aload_n O (pc := 70) dX8_allSeen_70 0 rfl ?_
        refine g_getI O (pc := 71) isC_X8 dX8_allSeen_71 fw_X8_173 (by decide) fd_SMod_0_28 ?_
        refine g_if_ne O (pc := 74) 87 dX8_allSeen_74 (by decide) (fun h3 => ?_) (fun h3 => ?_)
        · rw [if_neg h3] at hF
          refine g_sub [0, 1] (L' := [(0, .ref (0)), (2, .int (x2))]) rfl ?_
          exact c_X8_allSeen_b87 O _ _ _ hF
        · rw [if_pos h3] at hF
          refine g_aload_n O (pc := 77) dX8_allSeen_77 0 rfl ?_
          obtain ⟨q4, e5, hF⟩ := bnd hF
          refine g_Vv O (pc := 78) (st := []) dX8_allSeen_78 (mc_X8_roundOn J e5) cb_X8_roundOn ml_X8_233 isC_X8 ob_SMod (zm0 _ _ _ _ _ _ _) (rmok (Nat.le_of_ble_eq_true rfl) (Nat.le_of_ble_eq_true rfl)) (Nat.le_of_ble_eq_true rfl) rfl ?_
          refine g_iinc O (pc := 81) (v := x3 + (1 : Int32)) (L' := [(3, .int (x3 + (1 : Int32))), (0, .ref (0)), (2, .int (x2))]) dX8_allSeen_81 2 rfl rfl (by decide) rfl ?_
          refine g_goto O (pc := 84) 56 dX8_allSeen_84 (by decide) ?_
          refine g_sub [1, 2, 0] (L' := [(0, .ref (0)), (2, .int (x2)), (3, .int (x3 + (1 : Int32)))]) rfl ?_
          exact ih _ _ _ _ hF

def f_X8_allSeen_b32 (k4 : Int32 → Int32 → Int32 → IS → Option (Int32 × IS)) (x1 : Int32) (x3 : Int32) (s0 : Int32) (I : IS) : Option (Int32 × IS) :=
  k4 (x1) (s0) (x3 + (1 : Int32)) (I)
set_option maxHeartbeats 4000000 in
set_option maxRecDepth 100000 in
theorem c_X8_allSeen_b32 {z : CTX} {J : JS} (O : OK z cX8_allSeen RX8 4 SMod 36 (rm_ 8 180) (some .boolean)) {k4 : Int32 → Int32 → Int32 → IS → Option (Int32 × IS)} (hk4 : ∀ (x1 : Int32) (x2 : Int32) (x3 : Int32) (I : IS) (q : Int32 × IS), k4 x1 x2 x3 I = some q → G z 4 [(0, .ref (0)), (1, .int (x1)), (2, .int (x2)), (3, .int (x3))] [] I J (some (.int q.1), q.2, J)) : ∀ (x1 : Int32) (x3 : Int32) (s0 : Int32) (I : IS) (q : Int32 × IS), f_X8_allSeen_b32 k4 x1 x3 s0 I = some q → G z 32 [(0, .ref (0)), (1, .int (x1)), (3, .int (x3))] [.int (s0)] I J (some (.int q.1), q.2, J) := by
  intro x1 x3 s0 I q hF
  rw [f_X8_allSeen_b32] at hF
  refine g_istore_n O (pc := 32) (L' := [(2, .int (s0)), (0, .ref (0)), (1, .int (x1)), (3, .int (x3))]) dX8_allSeen_32 (by decide) rfl ?_
  refine g_iinc O (pc := 33) (v := x3 + (1 : Int32)) (L' := [(3, .int (x3 + (1 : Int32))), (2, .int (s0)), (0, .ref (0)), (1, .int (x1))]) dX8_allSeen_33 3 rfl rfl (by decide) rfl ?_
  refine g_goto O (pc := 36) 4 dX8_allSeen_36 (by decide) ?_
  refine g_sub [2, 3, 1, 0] (L' := [(0, .ref (0)), (1, .int (x1)), (2, .int (s0)), (3, .int (x3 + (1 : Int32)))]) rfl ?_
  exact hk4 _ _ _ _ _ hF

def f_X8_allSeen_b4 : Nat → Int32 → Int32 → Int32 → IS → Option (Int32 × IS)
  | 0, _, _, _, _ => none
  | fu + 1, x1, x2, x3, I =>
    if (I (0) 18) ≤ x3 then
    (f_X8_allSeen_b56 LF (x2) ((0 : Int32)) ((u2 (u2 (u2 I (0) 14 (x1)) (0) 27 ((0 : Int32))) (0) 28 ((0 : Int32)))))
    else
    (if okI (x3) 5 = true then
    (if (I (15) (x3).toNatClampNeg) ≤ x2 then
    (f_X8_allSeen_b32 (f_X8_allSeen_b4 fu) (x1) (x3) (x2) (I))
    else
    (if okI (x3) 5 = true then
    (f_X8_allSeen_b32 (f_X8_allSeen_b4 fu) (x1) (x3) ((I (15) (x3).toNatClampNeg)) (I))
    else none))
    else none)
set_option maxHeartbeats 4000000 in
set_option maxRecDepth 100000 in
theorem c_X8_allSeen_b4 {z : CTX} {J : JS} (O : OK z cX8_allSeen RX8 4 SMod 36 (rm_ 8 180) (some .boolean)) : ∀ (fu : Nat) (x1 : Int32) (x2 : Int32) (x3 : Int32) (I : IS) (q : Int32 × IS), f_X8_allSeen_b4 fu x1 x2 x3 I = some q → G z 4 [(0, .ref (0)), (1, .int (x1)), (2, .int (x2)), (3, .int (x3))] [] I J (some (.int q.1), q.2, J) := by
  intro fu
  induction fu with
  | zero =>
    intro x1 x2 x3 I q hF
    cases hF
  | succ fu ih =>
    intro x1 x2 x3 I q hF
    rw [f_X8_allSeen_b4] at hF
    refine g_iload_n O (pc := 4) dX8_allSeen_4 3 rfl ?_
    refine g_aload_n O (pc := 5) dX8_allSeen_5 0 rfl ?_
    refine g_getI O (pc := 6) isC_X8 dX8_allSeen_6 fw_X8_144 (by decide) fd_SMod_0_18 ?_
    refine g_icmp_ge O (pc := 9) 39 dX8_allSeen_9 (by decide) (fun h1 => ?_) (fun h1 => ?_)
    · rw [if_pos h1] at hF
      refine g_aload_n O (pc := 39) dX8_allSeen_39 0 rfl ?_
      refine g_iload_n O (pc := 40) dX8_allSeen_40 1 rfl ?_
      refine g_putI O (pc := 41) isC_X8 isT_X8 dX8_allSeen_41 fw_X8_50 (by decide) rfl rfl fd_SMod_0_14 ?_
      refine g_aload_n O (pc := 44) dX8_allSeen_44 0 rfl ?_
      refine g_iconst O (pc := 45) dX8_allSeen_45 (ic_0) ?_
      refine g_putI O (pc := 46) isC_X8 isT_X8 dX8_allSeen_46 fw_X8_176 (by decide) rfl rfl fd_SMod_0_27 ?_
      refine g_aload_n O (pc := 49) dX8_allSeen_49 0 rfl ?_
      refine g_iconst O (pc := 50) dX8_allSeen_50 (ic_0) ?_
      refine g_putZ O (pc := 51) isC_X8 isT_X8 dX8_allSeen_51 fw_X8_173 (by decide) rfl rfl (by decide) fd_SMod_0_28 ?_
      refine g_iconst O (pc := 54) dX8_allSeen_54 (ic_0) ?_
      refine g_istore_n O (pc := 55) (L' := [(3, .int ((0 : Int32))), (0, .ref (0)), (1, .int (x1)), (2, .int (x2))]) dX8_allSeen_55 (by decide) rfl ?_
      refine g_sub [1, 3, 0] (L' := [(0, .ref (0)), (2, .int (x2)), (3, .int ((0 : Int32)))]) rfl ?_
      exact c_X8_allSeen_b56 O _ _ _ _ _ hF
    · rw [if_neg h1] at hF
      refine g_aload_n O (pc := 12) dX8_allSeen_12 0 rfl ?_
      refine g_getR O (pc := 13) isC_X8 dX8_allSeen_13 fw_X8_59 (by decide) fd_SMod_0_20 ?_
      refine g_iload_n O (pc := 16) dX8_allSeen_16 3 rfl ?_
      obtain ⟨h2, hF⟩ := gd hF
      refine g_il O (pc := 17) dX8_allSeen_17 ar_SMod_15 h2 ?_
      refine g_iload_n O (pc := 18) dX8_allSeen_18 2 rfl ?_
      refine g_icmp_le O (pc := 19) 31 dX8_allSeen_19 (by decide) (fun h3 => ?_) (fun h3 => ?_)
      · rw [if_pos h3] at hF
        refine g_iload_n O (pc := 31) dX8_allSeen_31 2 rfl ?_
        refine g_sub [0, 1, 3] (L' := [(0, .ref (0)), (1, .int (x1)), (3, .int (x3))]) rfl ?_
        exact c_X8_allSeen_b32 O ih _ _ _ _ _ hF
      · rw [if_neg h3] at hF
        refine g_aload_n O (pc := 22) dX8_allSeen_22 0 rfl ?_
        refine g_getR O (pc := 23) isC_X8 dX8_allSeen_23 fw_X8_59 (by decide) fd_SMod_0_20 ?_
        refine g_iload_n O (pc := 26) dX8_allSeen_26 3 rfl ?_
        obtain ⟨h4, hF⟩ := gd hF
        refine g_il O (pc := 27) dX8_allSeen_27 ar_SMod_15 h4 ?_
        refine g_goto O (pc := 28) 32 dX8_allSeen_28 (by decide) ?_
        refine g_sub [0, 1, 3] (L' := [(0, .ref (0)), (1, .int (x1)), (3, .int (x3))]) rfl ?_
        exact c_X8_allSeen_b32 O ih _ _ _ _ _ hF

def f_X8_allSeen (x1 : Int32) (I : IS) : Option (Int32 × IS) :=
  f_X8_allSeen_b4 LF (x1) ((-1 : Int32)) ((0 : Int32)) (I)
set_option maxHeartbeats 4000000 in
set_option maxRecDepth 100000 in
theorem c_X8_allSeen_e {z : CTX} {J : JS} (O : OK z cX8_allSeen RX8 4 SMod 36 (rm_ 8 180) (some .boolean)) : ∀ (x1 : Int32) (I : IS) (q : Int32 × IS), f_X8_allSeen x1 I = some q → G z 0 [(0, .ref (0)), (1, .int (x1))] [] I J (some (.int q.1), q.2, J) := by
  intro x1 I q hF
  rw [f_X8_allSeen] at hF
  refine g_iconst O (pc := 0) dX8_allSeen_0 (ic_m1) ?_
  refine g_istore_n O (pc := 1) (L' := [(2, .int ((-1 : Int32))), (0, .ref (0)), (1, .int (x1))]) dX8_allSeen_1 (by decide) rfl ?_
  refine g_iconst O (pc := 2) dX8_allSeen_2 (ic_0) ?_
  refine g_istore_n O (pc := 3) (L' := [(3, .int ((0 : Int32))), (2, .int ((-1 : Int32))), (0, .ref (0)), (1, .int (x1))]) dX8_allSeen_3 (by decide) rfl ?_
  refine g_sub [2, 3, 1, 0] (L' := [(0, .ref (0)), (1, .int (x1)), (2, .int ((-1 : Int32))), (3, .int ((0 : Int32)))]) rfl ?_
  exact c_X8_allSeen_b4 O _ _ _ _ _ _ hF

theorem mc_X8_allSeen {x1 : Int32} {I : IS} (J : JS) {q : Int32 × IS} (hF : f_X8_allSeen x1 I = some q) : MC yX8_allSeen cX8_allSeen 4 (some .boolean) (rm_ 8 180) SMod 36 [.ref (0), .int (x1)] I J (some (.int q.1), q.2, J) :=
  mc_of pn_X8 (Nat.le_of_ble_eq_true rfl) (fun z O => c_X8_allSeen_e O _ _ _ hF)

def f_X8_in_b18 (s0 : Int32) : Option (Int32) :=
  if okZ (s0) = true then some (s0) else none
set_option maxHeartbeats 4000000 in
set_option maxRecDepth 100000 in
theorem c_X8_in_b18 {z : CTX} {I : IS} {J : JS} (O : OK z cX8_in RX8 6 SArm 0 (rm_ 0 0) (some .boolean)) : ∀ (s0 : Int32) (q : Int32), f_X8_in_b18 s0 = some q → G z 18 [] [.int (s0)] I J (some (.int q), I, J) := by
  intro s0 q hF
  rw [f_X8_in_b18] at hF
  obtain ⟨h1, hF⟩ := gd hF
  obtain rfl := Option.some.inj hF
  exact g_zreturn O (pc := 18) dX8_in_18 h1 rfl

def f_X8_in_b17  : Option (Int32) :=
  f_X8_in_b18 ((0 : Int32))
set_option maxHeartbeats 4000000 in
set_option maxRecDepth 100000 in
theorem c_X8_in_b17 {z : CTX} {I : IS} {J : JS} (O : OK z cX8_in RX8 6 SArm 0 (rm_ 0 0) (some .boolean)) : ∀  (q : Int32), f_X8_in_b17 = some q → G z 17 [] [] I J (some (.int q), I, J) := by
  intro  q hF
  rw [f_X8_in_b17] at hF
  refine g_iconst O (pc := 17) dX8_in_17 (ic_0) ?_
  refine g_sub [] (L' := []) rfl ?_
  exact c_X8_in_b18 O _ _ hF

def f_X8_in (w0 : Int64) (w2 : Int64) (w4 : Int64) : Option (Int32) :=
  if (lg_cmp w0 w2) < 0 then
  (f_X8_in_b17)
  else
  (if 0 < (lg_cmp w0 w4) then
  (f_X8_in_b17)
  else
  (f_X8_in_b18 ((1 : Int32))))
set_option maxHeartbeats 4000000 in
set_option maxRecDepth 100000 in
theorem c_X8_in_e {z : CTX} {I : IS} {J : JS} (O : OK z cX8_in RX8 6 SArm 0 (rm_ 0 0) (some .boolean)) : ∀ (w0 : Int64) (w2 : Int64) (w4 : Int64) (q : Int32), f_X8_in w0 w2 w4 = some q → G z 0 [(0, .long (w0)), (2, .long (w2)), (4, .long (w4))] [] I J (some (.int q), I, J) := by
  intro w0 w2 w4 q hF
  rw [f_X8_in] at hF
  refine g_lload_n O (pc := 0) dX8_in_0 0 rfl ?_
  refine g_lload_n O (pc := 1) dX8_in_1 1 rfl ?_
  refine g_lcmp O (pc := 2) dX8_in_2 ?_
  refine g_if_lt O (pc := 3) 17 dX8_in_3 (by decide) (fun h1 => ?_) (fun h1 => ?_)
  · rw [if_pos h1] at hF
    refine g_sub [] (L' := []) rfl ?_
    exact c_X8_in_b17 O  _ hF
  · rw [if_neg h1] at hF
    refine g_lload_n O (pc := 6) dX8_in_6 0 rfl ?_
    refine g_lload O (pc := 7) dX8_in_7 2 rfl ?_
    refine g_lcmp O (pc := 9) dX8_in_9 ?_
    refine g_if_gt O (pc := 10) 17 dX8_in_10 (by decide) (fun h2 => ?_) (fun h2 => ?_)
    · rw [if_pos h2] at hF
      refine g_sub [] (L' := []) rfl ?_
      exact c_X8_in_b17 O  _ hF
    · rw [if_neg h2] at hF
      refine g_iconst O (pc := 13) dX8_in_13 (ic_1) ?_
      refine g_goto O (pc := 14) 18 dX8_in_14 (by decide) ?_
      refine g_sub [] (L' := []) rfl ?_
      exact c_X8_in_b18 O _ _ hF

theorem mc_X8_in {w0 : Int64} {w2 : Int64} {w4 : Int64} (I : IS) (J : JS) {q : Int32} (hF : f_X8_in w0 w2 w4 = some q) : MC yX8_in cX8_in 6 (some .boolean) (rm_ 0 0) SArm 0 [.long (w0), .long (w2), .long (w4)] I J (some (.int q), I, J) :=
  mc_of pn_X8 (Nat.le_of_ble_eq_true rfl) (fun z O => c_X8_in_e O _ _ _ _ hF)

def f_X8_isArm (x1 : Int32) (I : IS) : Option (Int32) :=
  (f_X8_in ((x1).toInt64) ((0 : Int64)) ((((I (0) 0) - (1 : Int32))).toInt64)).bind fun q1 =>
  (if okZ (q1) = true then some (q1) else none)
set_option maxHeartbeats 4000000 in
set_option maxRecDepth 100000 in
theorem c_X8_isArm_e {z : CTX} {J : JS} (O : OK z cX8_isArm RX8 2 SMod 36 (rm_ 1 25) (some .boolean)) : ∀ (x1 : Int32) (I : IS) (q : Int32), f_X8_isArm x1 I = some q → G z 0 [(0, .ref (0)), (1, .int (x1))] [] I J (some (.int q), I, J) := by
  intro x1 I q hF
  rw [f_X8_isArm] at hF
  refine g_iload_n O (pc := 0) dX8_isArm_0 1 rfl ?_
  refine g_i2l O (pc := 1) dX8_isArm_1 ?_
  refine g_lconst O (pc := 2) dX8_isArm_2 lc_0 ?_
  refine g_aload_n O (pc := 3) dX8_isArm_3 0 rfl ?_
  refine g_getI O (pc := 4) isC_X8 dX8_isArm_4 fw_X8_7 (by decide) fd_SMod_0_0 ?_
  refine g_iconst O (pc := 7) dX8_isArm_7 (ic_1) ?_
  refine g_isub O (pc := 8) dX8_isArm_8 ?_
  refine g_i2l O (pc := 9) dX8_isArm_9 ?_
  obtain ⟨q1, e2, hF⟩ := bnd hF
  refine g_Si O (pc := 10) (st := []) dX8_isArm_10 (mc_X8_in I J e2) cs_X8_in ml_X8_130 rfl (rmok (Nat.le_of_ble_eq_true rfl) (Nat.le_of_ble_eq_true rfl)) (Nat.le_of_ble_eq_true rfl) (fun _ => rfl) rfl ?_
  obtain ⟨h3, hF⟩ := gd hF
  obtain rfl := Option.some.inj hF
  exact g_zreturn O (pc := 13) dX8_isArm_13 h3 rfl

theorem mc_X8_isArm {x1 : Int32} {I : IS} (J : JS) {q : Int32} (hF : f_X8_isArm x1 I = some q) : MC yX8_isArm cX8_isArm 2 (some .boolean) (rm_ 1 25) SMod 36 [.ref (0), .int (x1)] I J (some (.int q), I, J) :=
  mc_of pn_X8 (Nat.le_of_ble_eq_true rfl) (fun z O => c_X8_isArm_e O _ _ _ hF)

def f_X8_arm_b31 (I : IS) : Option (Int32 × IS) :=
  some ((-1 : Int32), I)
set_option maxHeartbeats 4000000 in
set_option maxRecDepth 100000 in
theorem c_X8_arm_b31 {z : CTX} {J : JS} (O : OK z cX8_arm RX8 3 SMod 36 (rm_ 2 46) (some .int)) : ∀ (I : IS) (q : Int32 × IS), f_X8_arm_b31 I = some q → G z 31 [] [] I J (some (.int q.1), q.2, J) := by
  intro I q hF
  rw [f_X8_arm_b31] at hF
  refine g_iconst O (pc := 31) dX8_arm_31 (ic_m1) ?_
  obtain rfl := Option.some.inj hF
  exact g_ireturn O (pc := 32) dX8_arm_32 rfl

def f_X8_arm_b124 (s0 : Int32) (I : IS) : Option (Int32 × IS) :=
  some (s0, I)
set_option maxHeartbeats 4000000 in
set_option maxRecDepth 100000 in
theorem c_X8_arm_b124 {z : CTX} {J : JS} (O : OK z cX8_arm RX8 3 SMod 36 (rm_ 2 46) (some .int)) : ∀ (s0 : Int32) (I : IS) (q : Int32 × IS), f_X8_arm_b124 s0 I = some q → G z 124 [] [.int (s0)] I J (some (.int q.1), q.2, J) := by
  intro s0 I q hF
  rw [f_X8_arm_b124] at hF
  obtain rfl := Option.some.inj hF
  exact g_ireturn O (pc := 124) dX8_arm_124 rfl

def f_X8_arm_b33 (x1 : Int32) (x2 : Int32) (I : IS) : Option (Int32 × IS) :=
  if x2 = 0 then
  (if okI (x1) 4 = true then
  (some ((I (1) (x1).toNatClampNeg), I))
  else none)
  else if x2 = 1 then
  (if okI (x1) 4 = true then
  (some ((I (3) (x1).toNatClampNeg), I))
  else none)
  else if x2 = 2 then
  (if okI (x1) 4 = true then
  (some ((I (4) (x1).toNatClampNeg), I))
  else none)
  else if x2 = 3 then
  (if okI (x1) 4 = true then
  (some ((I (5) (x1).toNatClampNeg), I))
  else none)
  else (if okI (x1) 4 = true then
  (if ((10 : Int32) + (I (1) (x1).toNatClampNeg)) ≤ x2 then
  (f_X8_arm_b124 ((-5 : Int32)) (I))
  else
  (if okI (((((32 : Int32) * x1) + x2) - (10 : Int32))) 128 = true then
  (f_X8_arm_b124 ((I (2) (((((32 : Int32) * x1) + x2) - (10 : Int32))).toNatClampNeg)) (I))
  else none))
  else none)
set_option maxHeartbeats 4000000 in
set_option maxRecDepth 100000 in
theorem c_X8_arm_b33 {z : CTX} {J : JS} (O : OK z cX8_arm RX8 3 SMod 36 (rm_ 2 46) (some .int)) : ∀ (x1 : Int32) (x2 : Int32) (I : IS) (q : Int32 × IS), f_X8_arm_b33 x1 x2 I = some q → G z 33 [(0, .ref (0)), (1, .int (x1)), (2, .int (x2))] [] I J (some (.int q.1), q.2, J) := by
  intro x1 x2 I q hF
  rw [f_X8_arm_b33] at hF
  refine g_iload_n O (pc := 33) dX8_arm_33 2 rfl ?_
  by_cases h1 : x2 = 0
  · rw [if_pos h1] at hF
    refine g_tabIn O (pc := 34) (30) 64 dX8_arm_34 h1 (by decide) (by decide) rfl (by decide) ?_
    refine g_aload_n O (pc := 64) dX8_arm_64 0 rfl ?_
    refine g_getR O (pc := 65) isC_X8 dX8_arm_65 fw_X8_13 (by decide) fd_SMod_0_1 ?_
    refine g_iload_n O (pc := 68) dX8_arm_68 1 rfl ?_
    obtain ⟨h2, hF⟩ := gd hF
    refine g_il O (pc := 69) dX8_arm_69 ar_SMod_1 h2 ?_
    obtain rfl := Option.some.inj hF
    exact g_ireturn O (pc := 70) dX8_arm_70 rfl
  rw [if_neg h1] at hF
  by_cases h3 : x2 = 1
  · rw [if_pos h3] at hF
    refine g_tabIn O (pc := 34) (37) 71 dX8_arm_34 h3 (by decide) (by decide) rfl (by decide) ?_
    refine g_aload_n O (pc := 71) dX8_arm_71 0 rfl ?_
    refine g_getR O (pc := 72) isC_X8 dX8_arm_72 fw_X8_20 (by decide) fd_SMod_0_3 ?_
    refine g_iload_n O (pc := 75) dX8_arm_75 1 rfl ?_
    obtain ⟨h4, hF⟩ := gd hF
    refine g_il O (pc := 76) dX8_arm_76 ar_SMod_3 h4 ?_
    obtain rfl := Option.some.inj hF
    exact g_ireturn O (pc := 77) dX8_arm_77 rfl
  rw [if_neg h3] at hF
  by_cases h5 : x2 = 2
  · rw [if_pos h5] at hF
    refine g_tabIn O (pc := 34) (44) 78 dX8_arm_34 h5 (by decide) (by decide) rfl (by decide) ?_
    refine g_aload_n O (pc := 78) dX8_arm_78 0 rfl ?_
    refine g_getR O (pc := 79) isC_X8 dX8_arm_79 fw_X8_23 (by decide) fd_SMod_0_4 ?_
    refine g_iload_n O (pc := 82) dX8_arm_82 1 rfl ?_
    obtain ⟨h6, hF⟩ := gd hF
    refine g_il O (pc := 83) dX8_arm_83 ar_SMod_4 h6 ?_
    obtain rfl := Option.some.inj hF
    exact g_ireturn O (pc := 84) dX8_arm_84 rfl
  rw [if_neg h5] at hF
  by_cases h7 : x2 = 3
  · rw [if_pos h7] at hF
    refine g_tabIn O (pc := 34) (51) 85 dX8_arm_34 h7 (by decide) (by decide) rfl (by decide) ?_
    refine g_aload_n O (pc := 85) dX8_arm_85 0 rfl ?_
    refine g_getR O (pc := 86) isC_X8 dX8_arm_86 fw_X8_26 (by decide) fd_SMod_0_5 ?_
    refine g_iload_n O (pc := 89) dX8_arm_89 1 rfl ?_
    obtain ⟨h8, hF⟩ := gd hF
    refine g_il O (pc := 90) dX8_arm_90 ar_SMod_5 h8 ?_
    obtain rfl := Option.some.inj hF
    exact g_ireturn O (pc := 91) dX8_arm_91 rfl
  rw [if_neg h7] at hF
  have ih1 : ¬ (x2).toInt = 0 := fun q => h1 (Int32.toInt_inj.mp q)
  have ih3 : ¬ (x2).toInt = 1 := fun q => h3 (Int32.toInt_inj.mp q)
  have ih5 : ¬ (x2).toInt = 2 := fun q => h5 (Int32.toInt_inj.mp q)
  have ih7 : ¬ (x2).toInt = 3 := fun q => h7 (Int32.toInt_inj.mp q)
  refine g_tabOut O (pc := 34) 92 dX8_arm_34 (by omega) (by decide) ?_
  refine g_iload_n O (pc := 92) dX8_arm_92 2 rfl ?_
  refine g_bipush O (pc := 93) dX8_arm_93 bp_10 ?_
  refine g_aload_n O (pc := 95) dX8_arm_95 0 rfl ?_
  refine g_getR O (pc := 96) isC_X8 dX8_arm_96 fw_X8_13 (by decide) fd_SMod_0_1 ?_
  refine g_iload_n O (pc := 99) dX8_arm_99 1 rfl ?_
  obtain ⟨h9, hF⟩ := gd hF
  refine g_il O (pc := 100) dX8_arm_100 ar_SMod_1 h9 ?_
  refine g_iadd O (pc := 101) dX8_arm_101 ?_
  refine g_icmp_ge O (pc := 102) 122 dX8_arm_102 (by decide) (fun h10 => ?_) (fun h10 => ?_)
  · rw [if_pos h10] at hF
    refine g_bipush O (pc := 122) dX8_arm_122 bp_m5 ?_
    refine g_sub [] (L' := []) rfl ?_
    exact c_X8_arm_b124 O _ _ _ hF
  · rw [if_neg h10] at hF
    refine g_aload_n O (pc := 105) dX8_arm_105 0 rfl ?_
    refine g_getR O (pc := 106) isC_X8 dX8_arm_106 fw_X8_17 (by decide) fd_SMod_0_2 ?_
    refine g_bipush O (pc := 109) dX8_arm_109 bp_32 ?_
    refine g_iload_n O (pc := 111) dX8_arm_111 1 rfl ?_
    refine g_imul O (pc := 112) dX8_arm_112 ?_
    refine g_iload_n O (pc := 113) dX8_arm_113 2 rfl ?_
    refine g_iadd O (pc := 114) dX8_arm_114 ?_
    refine g_bipush O (pc := 115) dX8_arm_115 bp_10 ?_
    refine g_isub O (pc := 117) dX8_arm_117 ?_
    obtain ⟨h11, hF⟩ := gd hF
    refine g_il O (pc := 118) dX8_arm_118 ar_SMod_2 h11 ?_
    refine g_goto O (pc := 119) 124 dX8_arm_119 (by decide) ?_
    refine g_sub [] (L' := []) rfl ?_
    exact c_X8_arm_b124 O _ _ _ hF

def f_X8_arm (x1 : Int32) (x2 : Int32) (I : IS) : Option (Int32 × IS) :=
  (f_X8_isArm (x1) (u2 I (0) 29 ((0 : Int32)))).bind fun q1 =>
  (if q1 = 0 then
  (f_X8_arm_b31 ((u2 I (0) 29 ((0 : Int32)))))
  else
  ((f_X8_in ((x2).toInt64) ((0 : Int64)) ((3 : Int64))).bind fun q4 =>
  (if q4 = 0 then
  (if (10 : Int32) ≤ x2 then
  (f_X8_arm_b33 (x1) (x2) ((u2 I (0) 29 ((0 : Int32)))))
  else
  (f_X8_arm_b31 ((u2 I (0) 29 ((0 : Int32))))))
  else
  (f_X8_arm_b33 (x1) (x2) ((u2 I (0) 29 ((0 : Int32))))))))
set_option maxHeartbeats 4000000 in
set_option maxRecDepth 100000 in
theorem c_X8_arm_e {z : CTX} {J : JS} (O : OK z cX8_arm RX8 3 SMod 36 (rm_ 2 46) (some .int)) : ∀ (x1 : Int32) (x2 : Int32) (I : IS) (q : Int32 × IS), f_X8_arm x1 x2 I = some q → G z 0 [(0, .ref (0)), (1, .int (x1)), (2, .int (x2))] [] I J (some (.int q.1), q.2, J) := by
  intro x1 x2 I q hF
  rw [f_X8_arm] at hF
  refine g_aload_n O (pc := 0) dX8_arm_0 0 rfl ?_
  refine g_iconst O (pc := 1) dX8_arm_1 (ic_0) ?_
  refine g_putI O (pc := 2) isC_X8 isT_X8 dX8_arm_2 fw_X8_124 (by decide) rfl rfl fd_SMod_0_29 ?_
  refine g_aload_n O (pc := 5) dX8_arm_5 0 rfl ?_
  refine g_iload_n O (pc := 6) dX8_arm_6 1 rfl ?_
  obtain ⟨q1, e2, hF⟩ := bnd hF
  refine g_Vi O (pc := 7) (st := []) dX8_arm_7 (mc_X8_isArm J e2) cb_X8_isArm ml_X8_272 isC_X8 ob_SMod (zm0 _ _ _ _ _ _ _) (rmok (Nat.le_of_ble_eq_true rfl) (Nat.le_of_ble_eq_true rfl)) (Nat.le_of_ble_eq_true rfl) rfl ?_
  refine g_if_eq O (pc := 10) 31 dX8_arm_10 (by decide) (fun h3 => ?_) (fun h3 => ?_)
  · rw [if_pos h3] at hF
    refine g_sub [] (L' := []) rfl ?_
    exact c_X8_arm_b31 O _ _ hF
  · rw [if_neg h3] at hF
    refine g_iload_n O (pc := 13) dX8_arm_13 2 rfl ?_
    refine g_i2l O (pc := 14) dX8_arm_14 ?_
    refine g_lconst O (pc := 15) dX8_arm_15 lc_0 ?_
    refine g_ldc2 O (pc := 16) kw_X8_302 dX8_arm_16 ?_
    obtain ⟨q4, e5, hF⟩ := bnd hF
    refine g_Si O (pc := 19) (st := []) dX8_arm_19 (mc_X8_in (u2 I (0) 29 ((0 : Int32))) J e5) cs_X8_in ml_X8_130 rfl (rmok (Nat.le_of_ble_eq_true rfl) (Nat.le_of_ble_eq_true rfl)) (Nat.le_of_ble_eq_true rfl) (fun _ => rfl) rfl ?_
    refine g_if_ne O (pc := 22) 33 dX8_arm_22 (by decide) (fun h6 => ?_) (fun h6 => ?_)
    · rw [if_neg h6] at hF
      refine g_sub [0, 1, 2] (L' := [(0, .ref (0)), (1, .int (x1)), (2, .int (x2))]) rfl ?_
      exact c_X8_arm_b33 O _ _ _ _ hF
    · rw [if_pos h6] at hF
      refine g_iload_n O (pc := 25) dX8_arm_25 2 rfl ?_
      refine g_bipush O (pc := 26) dX8_arm_26 bp_10 ?_
      refine g_icmp_ge O (pc := 28) 33 dX8_arm_28 (by decide) (fun h7 => ?_) (fun h7 => ?_)
      · rw [if_pos h7] at hF
        refine g_sub [0, 1, 2] (L' := [(0, .ref (0)), (1, .int (x1)), (2, .int (x2))]) rfl ?_
        exact c_X8_arm_b33 O _ _ _ _ hF
      · rw [if_neg h7] at hF
        refine g_sub [] (L' := []) rfl ?_
        exact c_X8_arm_b31 O _ _ hF

theorem mc_X8_arm {x1 : Int32} {x2 : Int32} {I : IS} (J : JS) {q : Int32 × IS} (hF : f_X8_arm x1 x2 I = some q) : MC yX8_arm cX8_arm 3 (some .int) (rm_ 2 46) SMod 36 [.ref (0), .int (x1), .int (x2)] I J (some (.int q.1), q.2, J) :=
  mc_of pn_X8 (Nat.le_of_ble_eq_true rfl) (fun z O => c_X8_arm_e O _ _ _ _ hF)

def f_X8_becomeArms_b97 (k47 : Int32 → Int32 → IS → Option (IS)) : Nat → Int32 → Int32 → Int32 → IS → Option (IS)
  | 0, _, _, _, _ => none
  | fu + 1, x1, x2, x3, I =>
    if okI (x2) 4 = true then
    (if (I (1) (x2).toNatClampNeg) ≤ x3 then
    (if okI (x2) 4 = true then
    (k47 (x1) (x2 + (1 : Int32)) ((u2 I (1) (x2).toNatClampNeg ((0 : Int32)))))
    else none)
    else
    (if okI ((((32 : Int32) * x2) + x3)) 128 = true then
    ((f_X8_comesTo ((0 : Int32)) ((I (2) ((((32 : Int32) * x2) + x3)).toNatClampNeg)) I).bind fun q5 =>
    (f_X8_becomeArms_b97 k47 fu (x1) (x2) (x3 + (1 : Int32)) (q5)))
    else none))
    else none
set_option maxHeartbeats 4000000 in
set_option maxRecDepth 100000 in
theorem c_X8_becomeArms_b97 {z : CTX} {J : JS} (O : OK z cX8_becomeArms RX8 4 SMod 36 (rm_ 1 22) none) {k47 : Int32 → Int32 → IS → Option (IS)} (hk47 : ∀ (x1 : Int32) (x2 : Int32) (I : IS) (q : IS), k47 x1 x2 I = some q → G z 47 [(0, .ref (0)), (1, .int (x1)), (2, .int (x2))] [] I J (none, q, J)) : ∀ (fu : Nat) (x1 : Int32) (x2 : Int32) (x3 : Int32) (I : IS) (q : IS), f_X8_becomeArms_b97 k47 fu x1 x2 x3 I = some q → G z 97 [(0, .ref (0)), (1, .int (x1)), (2, .int (x2)), (3, .int (x3))] [] I J (none, q, J) := by
  intro fu
  induction fu with
  | zero =>
    intro x1 x2 x3 I q hF
    cases hF
  | succ fu ih =>
    intro x1 x2 x3 I q hF
    rw [f_X8_becomeArms_b97] at hF
    refine g_iload_n O (pc := 97) dX8_becomeArms_97 3 rfl ?_
    refine g_aload_n O (pc := 98) dX8_becomeArms_98 0 rfl ?_
    refine g_getR O (pc := 99) isC_X8 dX8_becomeArms_99 fw_X8_13 (by decide) fd_SMod_0_1 ?_
    refine g_iload_n O (pc := 102) dX8_becomeArms_102 2 rfl ?_
    obtain ⟨h1, hF⟩ := gd hF
    refine g_il O (pc := 103) dX8_becomeArms_103 ar_SMod_1 h1 ?_
    refine g_icmp_ge O (pc := 104) 129 dX8_becomeArms_104 (by decide) (fun h2 => ?_) (fun h2 => ?_)
    · rw [if_pos h2] at hF
      refine g_aload_n O (pc := 129) dX8_becomeArms_129 0 rfl ?_
      refine g_getR O (pc := 130) isC_X8 dX8_becomeArms_130 fw_X8_13 (by decide) fd_SMod_0_1 ?_
      refine g_iload_n O (pc := 133) dX8_becomeArms_133 2 rfl ?_
      refine g_iconst O (pc := 134) dX8_becomeArms_134 (ic_0) ?_
      obtain ⟨h3, hF⟩ := gd hF
      refine g_is O (pc := 135) dX8_becomeArms_135 ar_SMod_1 h3 ?_
      refine g_iinc O (pc := 136) (v := x2 + (1 : Int32)) (L' := [(2, .int (x2 + (1 : Int32))), (0, .ref (0)), (1, .int (x1)), (3, .int (x3))]) dX8_becomeArms_136 2 rfl rfl (by decide) rfl ?_
      refine g_goto O (pc := 139) 47 dX8_becomeArms_139 (by decide) ?_
      refine g_sub [1, 2, 0] (L' := [(0, .ref (0)), (1, .int (x1)), (2, .int (x2 + (1 : Int32)))]) rfl ?_
      exact hk47 _ _ _ _ hF
    · rw [if_neg h2] at hF
      refine g_aload_n O (pc := 107) dX8_becomeArms_107 0 rfl ?_
      refine g_iconst O (pc := 108) dX8_becomeArms_108 (ic_0) ?_
      refine g_aload_n O (pc := 109) dX8_becomeArms_109 0 rfl ?_
      refine g_getR O (pc := 110) isC_X8 dX8_becomeArms_110 fw_X8_17 (by decide) fd_SMod_0_2 ?_
      refine g_bipush O (pc := 113) dX8_becomeArms_113 bp_32 ?_
      refine g_iload_n O (pc := 115) dX8_becomeArms_115 2 rfl ?_
      refine g_imul O (pc := 116) dX8_becomeArms_116 ?_
      refine g_iload_n O (pc := 117) dX8_becomeArms_117 3 rfl ?_
      refine g_iadd O (pc := 118) dX8_becomeArms_118 ?_
      obtain ⟨h4, hF⟩ := gd hF
      refine g_il O (pc := 119) dX8_becomeArms_119 ar_SMod_2 h4 ?_
      obtain ⟨q5, e6, hF⟩ := bnd hF
      refine g_Vv O (pc := 120) (st := []) dX8_becomeArms_120 (mc_X8_comesTo J e6) cb_X8_comesTo ml_X8_210 isC_X8 ob_SMod (zm0 _ _ _ _ _ _ _) (rmok (Nat.le_of_ble_eq_true rfl) (Nat.le_of_ble_eq_true rfl)) (Nat.le_of_ble_eq_true rfl) rfl ?_
      refine g_iinc O (pc := 123) (v := x3 + (1 : Int32)) (L' := [(3, .int (x3 + (1 : Int32))), (0, .ref (0)), (1, .int (x1)), (2, .int (x2))]) dX8_becomeArms_123 3 rfl rfl (by decide) rfl ?_
      refine g_goto O (pc := 126) 97 dX8_becomeArms_126 (by decide) ?_
      refine g_sub [1, 2, 3, 0] (L' := [(0, .ref (0)), (1, .int (x1)), (2, .int (x2)), (3, .int (x3 + (1 : Int32)))]) rfl ?_
      exact ih _ _ _ _ _ hF

def f_X8_becomeArms_b95 (k47 : Int32 → Int32 → IS → Option (IS)) (x1 : Int32) (x2 : Int32) (I : IS) : Option (IS) :=
  f_X8_becomeArms_b97 k47 LF (x1) (x2) ((0 : Int32)) (I)
set_option maxHeartbeats 4000000 in
set_option maxRecDepth 100000 in
theorem c_X8_becomeArms_b95 {z : CTX} {J : JS} (O : OK z cX8_becomeArms RX8 4 SMod 36 (rm_ 1 22) none) {k47 : Int32 → Int32 → IS → Option (IS)} (hk47 : ∀ (x1 : Int32) (x2 : Int32) (I : IS) (q : IS), k47 x1 x2 I = some q → G z 47 [(0, .ref (0)), (1, .int (x1)), (2, .int (x2))] [] I J (none, q, J)) : ∀ (x1 : Int32) (x2 : Int32) (I : IS) (q : IS), f_X8_becomeArms_b95 k47 x1 x2 I = some q → G z 95 [(0, .ref (0)), (1, .int (x1)), (2, .int (x2))] [] I J (none, q, J) := by
  intro x1 x2 I q hF
  rw [f_X8_becomeArms_b95] at hF
  refine g_iconst O (pc := 95) dX8_becomeArms_95 (ic_0) ?_
  refine g_istore_n O (pc := 96) (L' := [(3, .int ((0 : Int32))), (0, .ref (0)), (1, .int (x1)), (2, .int (x2))]) dX8_becomeArms_96 (by decide) rfl ?_
  refine g_sub [1, 2, 3, 0] (L' := [(0, .ref (0)), (1, .int (x1)), (2, .int (x2)), (3, .int ((0 : Int32)))]) rfl ?_
  exact c_X8_becomeArms_b97 O hk47 _ _ _ _ _ _ hF

def f_X8_becomeArms_b47 : Nat → Int32 → Int32 → IS → Option (IS)
  | 0, _, _, _ => none
  | fu + 1, x1, x2, I =>
    if (I (0) 0) ≤ x2 then
    (some ((u2 I (0) 0 (x1))))
    else
    (if okI (x2) 4 = true then
    (if (I (3) (x2).toNatClampNeg) < 0 then
    (f_X8_becomeArms_b95 (f_X8_becomeArms_b47 fu) (x1) (x2) (I))
    else
    (if okI (x2) 4 = true then
    (if okI ((I (3) (x2).toNatClampNeg)) 32 = true then
    (if okI (x2) 4 = true then
    ((f_X8_comesTo ((0 : Int32)) (((u2 I (6) ((I (3) (x2).toNatClampNeg)).toNatClampNeg ((0 : Int32))) (3) (x2).toNatClampNeg)) (u2 I (6) ((I (3) (x2).toNatClampNeg)).toNatClampNeg ((0 : Int32)))).bind fun q7 =>
    (if okI (x2) 4 = true then
    (f_X8_becomeArms_b95 (f_X8_becomeArms_b47 fu) (x1) (x2) ((u2 q7 (3) (x2).toNatClampNeg ((-5 : Int32)))))
    else none))
    else none)
    else none)
    else none))
    else none)
set_option maxHeartbeats 4000000 in
set_option maxRecDepth 100000 in
theorem c_X8_becomeArms_b47 {z : CTX} {J : JS} (O : OK z cX8_becomeArms RX8 4 SMod 36 (rm_ 1 22) none) : ∀ (fu : Nat) (x1 : Int32) (x2 : Int32) (I : IS) (q : IS), f_X8_becomeArms_b47 fu x1 x2 I = some q → G z 47 [(0, .ref (0)), (1, .int (x1)), (2, .int (x2))] [] I J (none, q, J) := by
  intro fu
  induction fu with
  | zero =>
    intro x1 x2 I q hF
    cases hF
  | succ fu ih =>
    intro x1 x2 I q hF
    rw [f_X8_becomeArms_b47] at hF
    refine g_iload_n O (pc := 47) dX8_becomeArms_47 2 rfl ?_
    refine g_aload_n O (pc := 48) dX8_becomeArms_48 0 rfl ?_
    refine g_getI O (pc := 49) isC_X8 dX8_becomeArms_49 fw_X8_7 (by decide) fd_SMod_0_0 ?_
    refine g_icmp_ge O (pc := 52) 142 dX8_becomeArms_52 (by decide) (fun h1 => ?_) (fun h1 => ?_)
    · rw [if_pos h1] at hF
      refine g_aload_n O (pc := 142) dX8_becomeArms_142 0 rfl ?_
      refine g_iload_n O (pc := 143) dX8_becomeArms_143 1 rfl ?_
      refine g_putI O (pc := 144) isC_X8 isT_X8 dX8_becomeArms_144 fw_X8_7 (by decide) rfl rfl fd_SMod_0_0 ?_
      obtain rfl := Option.some.inj hF
      exact g_return O (pc := 147) dX8_becomeArms_147 rfl
    · rw [if_neg h1] at hF
      refine g_aload_n O (pc := 55) dX8_becomeArms_55 0 rfl ?_
      refine g_getR O (pc := 56) isC_X8 dX8_becomeArms_56 fw_X8_20 (by decide) fd_SMod_0_3 ?_
      refine g_iload_n O (pc := 59) dX8_becomeArms_59 2 rfl ?_
      obtain ⟨h2, hF⟩ := gd hF
      refine g_il O (pc := 60) dX8_becomeArms_60 ar_SMod_3 h2 ?_
      refine g_if_lt O (pc := 61) 95 dX8_becomeArms_61 (by decide) (fun h3 => ?_) (fun h3 => ?_)
      · rw [if_pos h3] at hF
        refine g_sub [0, 1, 2] (L' := [(0, .ref (0)), (1, .int (x1)), (2, .int (x2))]) rfl ?_
        exact c_X8_becomeArms_b95 O ih _ _ _ _ hF
      · rw [if_neg h3] at hF
        refine g_aload_n O (pc := 64) dX8_becomeArms_64 0 rfl ?_
        refine g_getR O (pc := 65) isC_X8 dX8_becomeArms_65 fw_X8_29 (by decide) fd_SMod_0_7 ?_
        refine g_aload_n O (pc := 68) dX8_becomeArms_68 0 rfl ?_
        refine g_getR O (pc := 69) isC_X8 dX8_becomeArms_69 fw_X8_20 (by decide) fd_SMod_0_3 ?_
        refine g_iload_n O (pc := 72) dX8_becomeArms_72 2 rfl ?_
        obtain ⟨h4, hF⟩ := gd hF
        refine g_il O (pc := 73) dX8_becomeArms_73 ar_SMod_3 h4 ?_
        refine g_iconst O (pc := 74) dX8_becomeArms_74 (ic_0) ?_
        obtain ⟨h5, hF⟩ := gd hF
        refine g_is O (pc := 75) dX8_becomeArms_75 ar_SMod_6 h5 ?_
        refine g_aload_n O (pc := 76) dX8_becomeArms_76 0 rfl ?_
        refine g_iconst O (pc := 77) dX8_becomeArms_77 (ic_0) ?_
        refine g_aload_n O (pc := 78) dX8_becomeArms_78 0 rfl ?_
        refine g_getR O (pc := 79) isC_X8 dX8_becomeArms_79 fw_X8_20 (by decide) fd_SMod_0_3 ?_
        refine g_iload_n O (pc := 82) dX8_becomeArms_82 2 rfl ?_
        obtain ⟨h6, hF⟩ := gd hF
        refine g_il O (pc := 83) dX8_becomeArms_83 ar_SMod_3 h6 ?_
        obtain ⟨q7, e8, hF⟩ := bnd hF
        refine g_Vv O (pc := 84) (st := []) dX8_becomeArms_84 (mc_X8_comesTo J e8) cb_X8_comesTo ml_X8_210 isC_X8 ob_SMod (zm0 _ _ _ _ _ _ _) (rmok (Nat.le_of_ble_eq_true rfl) (Nat.le_of_ble_eq_true rfl)) (Nat.le_of_ble_eq_true rfl) rfl ?_
        refine g_aload_n O (pc := 87) dX8_becomeArms_87 0 rfl ?_
        refine g_getR O (pc := 88) isC_X8 dX8_becomeArms_88 fw_X8_20 (by decide) fd_SMod_0_3 ?_
        refine g_iload_n O (pc := 91) dX8_becomeArms_91 2 rfl ?_
        refine g_bipush O (pc := 92) dX8_becomeArms_92 bp_m5 ?_
        obtain ⟨h9, hF⟩ := gd hF
        refine g_is O (pc := 94) dX8_becomeArms_94 ar_SMod_3 h9 ?_
        refine g_sub [0, 1, 2] (L' := [(0, .ref (0)), (1, .int (x1)), (2, .int (x2))]) rfl ?_
        exact c_X8_becomeArms_b95 O ih _ _ _ _ hF

def f_X8_becomeArms_b5 : Nat → Int32 → Int32 → IS → Option (IS)
  | 0, _, _, _ => none
  | fu + 1, x1, x2, I =>
    if x1 ≤ x2 then
    (f_X8_becomeArms_b47 LF (x1) (x1) (I))
    else
    (if okI (x2) 4 = true then
    (if okI (x2) 4 = true then
    (if okI (x2) 4 = true then
    ((some (u2 (u2 (u2 I (1) (x2).toNatClampNeg ((0 : Int32))) (3) (x2).toNatClampNeg ((-5 : Int32))) (4) (x2).toNatClampNeg ((0 : Int32)))).bind fun I5 =>
    (if okI (x2) 4 = true then
    (f_X8_becomeArms_b5 fu (x1) (x2 + (1 : Int32)) ((u2 I5 (5) (x2).toNatClampNeg ((0 : Int32)))))
    else none))
    else none)
    else none)
    else none)
set_option maxHeartbeats 4000000 in
set_option maxRecDepth 100000 in
theorem c_X8_becomeArms_b5 {z : CTX} {J : JS} (O : OK z cX8_becomeArms RX8 4 SMod 36 (rm_ 1 22) none) : ∀ (fu : Nat) (x1 : Int32) (x2 : Int32) (I : IS) (q : IS), f_X8_becomeArms_b5 fu x1 x2 I = some q → G z 5 [(0, .ref (0)), (1, .int (x1)), (2, .int (x2))] [] I J (none, q, J) := by
  intro fu
  induction fu with
  | zero =>
    intro x1 x2 I q hF
    cases hF
  | succ fu ih =>
    intro x1 x2 I q hF
    rw [f_X8_becomeArms_b5] at hF
    refine g_iload_n O (pc := 5) dX8_becomeArms_5 2 rfl ?_
    refine g_iload_n O (pc := 6) dX8_becomeArms_6 1 rfl ?_
    refine g_icmp_ge O (pc := 7) 45 dX8_becomeArms_7 (by decide) (fun h1 => ?_) (fun h1 => ?_)
    · rw [if_pos h1] at hF
      refine g_iload_n O (pc := 45) dX8_becomeArms_45 1 rfl ?_
      refine g_istore_n O (pc := 46) (L' := [(2, .int (x1)), (0, .ref (0)), (1, .int (x1))]) dX8_becomeArms_46 (by decide) rfl ?_
      refine g_sub [1, 2, 0] (L' := [(0, .ref (0)), (1, .int (x1)), (2, .int (x1))]) rfl ?_
      exact c_X8_becomeArms_b47 O _ _ _ _ _ hF
    · rw [if_neg h1] at hF
      refine g_aload_n O (pc := 10) dX8_becomeArms_10 0 rfl ?_
      refine g_getR O (pc := 11) isC_X8 dX8_becomeArms_11 fw_X8_13 (by decide) fd_SMod_0_1 ?_
      refine g_iload_n O (pc := 14) dX8_becomeArms_14 2 rfl ?_
      refine g_iconst O (pc := 15) dX8_becomeArms_15 (ic_0) ?_
      obtain ⟨h2, hF⟩ := gd hF
      refine g_is O (pc := 16) dX8_becomeArms_16 ar_SMod_1 h2 ?_
      refine g_aload_n O (pc := 17) dX8_becomeArms_17 0 rfl ?_
      refine g_getR O (pc := 18) isC_X8 dX8_becomeArms_18 fw_X8_20 (by decide) fd_SMod_0_3 ?_
      refine g_iload_n O (pc := 21) dX8_becomeArms_21 2 rfl ?_
      refine g_bipush O (pc := 22) dX8_becomeArms_22 bp_m5 ?_
      obtain ⟨h3, hF⟩ := gd hF
      refine g_is O (pc := 24) dX8_becomeArms_24 ar_SMod_3 h3 ?_
      refine g_aload_n O (pc := 25) dX8_becomeArms_25 0 rfl ?_
      refine g_getR O (pc := 26) isC_X8 dX8_becomeArms_26 fw_X8_23 (by decide) fd_SMod_0_4 ?_
      refine g_iload_n O (pc := 29) dX8_becomeArms_29 2 rfl ?_
      refine g_iconst O (pc := 30) dX8_becomeArms_30 (ic_0) ?_
      obtain ⟨h4, hF⟩ := gd hF
      refine g_is O (pc := 31) dX8_becomeArms_31 ar_SMod_4 h4 ?_
      obtain ⟨I5, g6, hF⟩ := bnd hF
      refine g_nmI (Option.some.inj g6) ?_
      refine g_aload_n O (pc := 32) dX8_becomeArms_32 0 rfl ?_
      refine g_getR O (pc := 33) isC_X8 dX8_becomeArms_33 fw_X8_26 (by decide) fd_SMod_0_5 ?_
      refine g_iload_n O (pc := 36) dX8_becomeArms_36 2 rfl ?_
      refine g_iconst O (pc := 37) dX8_becomeArms_37 (ic_0) ?_
      obtain ⟨h7, hF⟩ := gd hF
      refine g_is O (pc := 38) dX8_becomeArms_38 ar_SMod_5 h7 ?_
      refine g_iinc O (pc := 39) (v := x2 + (1 : Int32)) (L' := [(2, .int (x2 + (1 : Int32))), (0, .ref (0)), (1, .int (x1))]) dX8_becomeArms_39 2 rfl rfl (by decide) rfl ?_
      refine g_goto O (pc := 42) 5 dX8_becomeArms_42 (by decide) ?_
      refine g_sub [1, 2, 0] (L' := [(0, .ref (0)), (1, .int (x1)), (2, .int (x2 + (1 : Int32)))]) rfl ?_
      exact ih _ _ _ _ hF

def f_X8_becomeArms (x1 : Int32) (I : IS) : Option (IS) :=
  f_X8_becomeArms_b5 LF (x1) ((I (0) 0)) (I)
set_option maxHeartbeats 4000000 in
set_option maxRecDepth 100000 in
theorem c_X8_becomeArms_e {z : CTX} {J : JS} (O : OK z cX8_becomeArms RX8 4 SMod 36 (rm_ 1 22) none) : ∀ (x1 : Int32) (I : IS) (q : IS), f_X8_becomeArms x1 I = some q → G z 0 [(0, .ref (0)), (1, .int (x1))] [] I J (none, q, J) := by
  intro x1 I q hF
  rw [f_X8_becomeArms] at hF
  refine g_aload_n O (pc := 0) dX8_becomeArms_0 0 rfl ?_
  refine g_getI O (pc := 1) isC_X8 dX8_becomeArms_1 fw_X8_7 (by decide) fd_SMod_0_0 ?_
  refine g_istore_n O (pc := 4) (L' := [(2, .int ((I (0) 0))), (0, .ref (0)), (1, .int (x1))]) dX8_becomeArms_4 (by decide) rfl ?_
  refine g_sub [1, 2, 0] (L' := [(0, .ref (0)), (1, .int (x1)), (2, .int ((I (0) 0)))]) rfl ?_
  exact c_X8_becomeArms_b5 O _ _ _ _ _ hF

theorem mc_X8_becomeArms {x1 : Int32} {I : IS} (J : JS) {q : IS} (hF : f_X8_becomeArms x1 I = some q) : MC yX8_becomeArms cX8_becomeArms 4 none (rm_ 1 22) SMod 36 [.ref (0), .int (x1)] I J (none, q, J) :=
  mc_of pn_X8 (Nat.le_of_ble_eq_true rfl) (fun z O => c_X8_becomeArms_e O _ _ _ hF)

def f_X8_arms (x1 : Int32) (I : IS) : Option (Int32 × IS) :=
  (f_X8_in ((x1).toInt64) ((1 : Int64)) ((4 : Int64))).bind fun q1 =>
  (if q1 = 0 then
  (some ((-2 : Int32), (u2 I (0) 29 ((0 : Int32)))))
  else
  ((f_X8_becomeArms (x1) (u2 I (0) 29 ((0 : Int32)))).bind fun q4 =>
  (some (((u2 I (0) 29 ((0 : Int32))) (0) 0), q4))))
set_option maxHeartbeats 4000000 in
set_option maxRecDepth 100000 in
theorem c_X8_arms_e {z : CTX} {J : JS} (O : OK z cX8_arms RX8 3 SMod 36 (rm_ 2 45) (some .int)) : ∀ (x1 : Int32) (I : IS) (q : Int32 × IS), f_X8_arms x1 I = some q → G z 0 [(0, .ref (0)), (1, .int (x1))] [] I J (some (.int q.1), q.2, J) := by
  intro x1 I q hF
  rw [f_X8_arms] at hF
  refine g_aload_n O (pc := 0) dX8_arms_0 0 rfl ?_
  refine g_iconst O (pc := 1) dX8_arms_1 (ic_0) ?_
  refine g_putI O (pc := 2) isC_X8 isT_X8 dX8_arms_2 fw_X8_124 (by decide) rfl rfl fd_SMod_0_29 ?_
  refine g_iload_n O (pc := 5) dX8_arms_5 1 rfl ?_
  refine g_i2l O (pc := 6) dX8_arms_6 ?_
  refine g_lconst O (pc := 7) dX8_arms_7 lc_1 ?_
  refine g_ldc2 O (pc := 8) kw_X8_236 dX8_arms_8 ?_
  obtain ⟨q1, e2, hF⟩ := bnd hF
  refine g_Si O (pc := 11) (st := []) dX8_arms_11 (mc_X8_in (u2 I (0) 29 ((0 : Int32))) J e2) cs_X8_in ml_X8_130 rfl (rmok (Nat.le_of_ble_eq_true rfl) (Nat.le_of_ble_eq_true rfl)) (Nat.le_of_ble_eq_true rfl) (fun _ => rfl) rfl ?_
  refine g_if_ne O (pc := 14) 20 dX8_arms_14 (by decide) (fun h3 => ?_) (fun h3 => ?_)
  · rw [if_neg h3] at hF
    refine g_aload_n O (pc := 20) dX8_arms_20 0 rfl ?_
    refine g_getI O (pc := 21) isC_X8 dX8_arms_21 fw_X8_7 (by decide) fd_SMod_0_0 ?_
    refine g_istore_n O (pc := 24) (L' := [(2, .int (((u2 I (0) 29 ((0 : Int32))) (0) 0))), (0, .ref (0)), (1, .int (x1))]) dX8_arms_24 (by decide) rfl ?_
    refine g_aload_n O (pc := 25) dX8_arms_25 1 rfl ?_
    refine g_iload_n O (pc := 26) dX8_arms_26 2 rfl ?_
    obtain ⟨q4, e5, hF⟩ := bnd hF
    refine g_Vv O (pc := 27) (st := []) dX8_arms_27 (mc_X8_becomeArms J e5) cb_X8_becomeArms ml_X8_238 isC_X8 ob_SMod (zm0 _ _ _ _ _ _ _) (rmok (Nat.le_of_ble_eq_true rfl) (Nat.le_of_ble_eq_true rfl)) (Nat.le_of_ble_eq_true rfl) rfl ?_
    refine g_iload_n O (pc := 30) dX8_arms_30 0 rfl ?_
    obtain rfl := Option.some.inj hF
    exact g_ireturn O (pc := 31) dX8_arms_31 rfl
  · rw [if_pos h3] at hF
    refine g_bipush O (pc := 17) dX8_arms_17 bp_m2 ?_
    obtain rfl := Option.some.inj hF
    exact g_ireturn O (pc := 19) dX8_arms_19 rfl

theorem mc_X8_arms {x1 : Int32} {I : IS} (J : JS) {q : Int32 × IS} (hF : f_X8_arms x1 I = some q) : MC yX8_arms cX8_arms 3 (some .int) (rm_ 2 45) SMod 36 [.ref (0), .int (x1)] I J (some (.int q.1), q.2, J) :=
  mc_of pn_X8 (Nat.le_of_ble_eq_true rfl) (fun z O => c_X8_arms_e O _ _ _ hF)

def f_X8_open (I : IS) : Option (IS) :=
  (f_X8_carryAll (20) ((1 : Int32)) I).bind fun q1 =>
  (some (q1))
set_option maxHeartbeats 4000000 in
set_option maxRecDepth 100000 in
theorem c_X8_open_e {z : CTX} {J : JS} (O : OK z cX8_open RX8 1 SMod 36 (rm_ 3 65) none) : ∀ (I : IS) (q : IS), f_X8_open I = some q → G z 0 [(0, .ref (0))] [] I J (none, q, J) := by
  intro I q hF
  rw [f_X8_open] at hF
  refine g_aload_n O (pc := 0) dX8_open_0 0 rfl ?_
  refine g_aload_n O (pc := 1) dX8_open_1 0 rfl ?_
  refine g_getR O (pc := 2) isC_X8 dX8_open_2 fw_X8_74 (by decide) fd_SMod_0_30 ?_
  refine g_iconst O (pc := 5) dX8_open_5 (ic_1) ?_
  obtain ⟨q1, e2, hF⟩ := bnd hF
  refine g_Vv O (pc := 6) (st := []) dX8_open_6 (mc_X8_carryAll J e2) cb_X8_carryAll ml_X8_166 isC_X8 ob_SMod (zm0 _ _ _ _ _ _ _) (rmok (Nat.le_of_ble_eq_true rfl) (Nat.le_of_ble_eq_true rfl)) (Nat.le_of_ble_eq_true rfl) rfl ?_
  obtain rfl := Option.some.inj hF
  exact g_return O (pc := 9) dX8_open_9 rfl

theorem mc_X8_open {I : IS} (J : JS) {q : IS} (hF : f_X8_open I = some q) : MC yX8_open cX8_open 1 none (rm_ 3 65) SMod 36 [.ref (0)] I J (none, q, J) :=
  mc_of pn_X8 (Nat.le_of_ble_eq_true rfl) (fun z O => c_X8_open_e O _ _ hF)

def f_X8_isOver_b76 (k50 : Int32 → Int32 → IS → Option (Int32)) (x2 : Int32) (s0 : Int32) (I : IS) : Option (Int32) :=
  k50 (s0) (x2 + (1 : Int32)) (I)
set_option maxHeartbeats 4000000 in
set_option maxRecDepth 100000 in
theorem c_X8_isOver_b76 {z : CTX} {J : JS} (O : OK z cX8_isOver RX8 3 SMod 36 (rm_ 0 0) (some .boolean)) {k50 : Int32 → Int32 → IS → Option (Int32)} (hk50 : ∀ (x1 : Int32) (x2 : Int32) (I : IS) (q : Int32), k50 x1 x2 I = some q → G z 50 [(0, .ref (0)), (1, .int (x1)), (2, .int (x2))] [] I J (some (.int q), I, J)) : ∀ (x2 : Int32) (s0 : Int32) (I : IS) (q : Int32), f_X8_isOver_b76 k50 x2 s0 I = some q → G z 76 [(0, .ref (0)), (2, .int (x2))] [.int (s0)] I J (some (.int q), I, J) := by
  intro x2 s0 I q hF
  rw [f_X8_isOver_b76] at hF
  refine g_istore_n O (pc := 76) (L' := [(1, .int (s0)), (0, .ref (0)), (2, .int (x2))]) dX8_isOver_76 (by decide) rfl ?_
  refine g_iinc O (pc := 77) (v := x2 + (1 : Int32)) (L' := [(2, .int (x2 + (1 : Int32))), (1, .int (s0)), (0, .ref (0))]) dX8_isOver_77 2 rfl rfl (by decide) rfl ?_
  refine g_goto O (pc := 80) 50 dX8_isOver_80 (by decide) ?_
  refine g_sub [2, 1, 0] (L' := [(0, .ref (0)), (1, .int (s0)), (2, .int (x2 + (1 : Int32)))]) rfl ?_
  exact hk50 _ _ _ _ hF

def f_X8_isOver_b75 (k50 : Int32 → Int32 → IS → Option (Int32)) (x2 : Int32) (I : IS) : Option (Int32) :=
  f_X8_isOver_b76 k50 (x2) ((0 : Int32)) (I)
set_option maxHeartbeats 4000000 in
set_option maxRecDepth 100000 in
theorem c_X8_isOver_b75 {z : CTX} {J : JS} (O : OK z cX8_isOver RX8 3 SMod 36 (rm_ 0 0) (some .boolean)) {k50 : Int32 → Int32 → IS → Option (Int32)} (hk50 : ∀ (x1 : Int32) (x2 : Int32) (I : IS) (q : Int32), k50 x1 x2 I = some q → G z 50 [(0, .ref (0)), (1, .int (x1)), (2, .int (x2))] [] I J (some (.int q), I, J)) : ∀ (x2 : Int32) (I : IS) (q : Int32), f_X8_isOver_b75 k50 x2 I = some q → G z 75 [(0, .ref (0)), (2, .int (x2))] [] I J (some (.int q), I, J) := by
  intro x2 I q hF
  rw [f_X8_isOver_b75] at hF
  refine g_iconst O (pc := 75) dX8_isOver_75 (ic_0) ?_
  refine g_sub [0, 1] (L' := [(0, .ref (0)), (2, .int (x2))]) rfl ?_
  exact c_X8_isOver_b76 O hk50 _ _ _ _ hF

def f_X8_isOver_b50 : Nat → Int32 → Int32 → IS → Option (Int32)
  | 0, _, _, _ => none
  | fu + 1, x1, x2, I =>
    if (I (0) 0) ≤ x2 then
    (if okZ (x1) = true then some (x1) else none)
    else
    (if x1 = 0 then
    (f_X8_isOver_b75 (f_X8_isOver_b50 fu) (x2) (I))
    else
    (if okI (x2) 4 = true then
    (if (I (1) (x2).toNatClampNeg) = 0 then
    (f_X8_isOver_b76 (f_X8_isOver_b50 fu) (x2) ((1 : Int32)) (I))
    else
    (f_X8_isOver_b75 (f_X8_isOver_b50 fu) (x2) (I)))
    else none))
set_option maxHeartbeats 4000000 in
set_option maxRecDepth 100000 in
theorem c_X8_isOver_b50 {z : CTX} {J : JS} (O : OK z cX8_isOver RX8 3 SMod 36 (rm_ 0 0) (some .boolean)) : ∀ (fu : Nat) (x1 : Int32) (x2 : Int32) (I : IS) (q : Int32), f_X8_isOver_b50 fu x1 x2 I = some q → G z 50 [(0, .ref (0)), (1, .int (x1)), (2, .int (x2))] [] I J (some (.int q), I, J) := by
  intro fu
  induction fu with
  | zero =>
    intro x1 x2 I q hF
    cases hF
  | succ fu ih =>
    intro x1 x2 I q hF
    rw [f_X8_isOver_b50] at hF
    refine g_iload_n O (pc := 50) dX8_isOver_50 2 rfl ?_
    refine g_aload_n O (pc := 51) dX8_isOver_51 0 rfl ?_
    refine g_getI O (pc := 52) isC_X8 dX8_isOver_52 fw_X8_7 (by decide) fd_SMod_0_0 ?_
    refine g_icmp_ge O (pc := 55) 83 dX8_isOver_55 (by decide) (fun h1 => ?_) (fun h1 => ?_)
    · rw [if_pos h1] at hF
      refine g_iload_n O (pc := 83) dX8_isOver_83 1 rfl ?_
      obtain ⟨h2, hF⟩ := gd hF
      obtain rfl := Option.some.inj hF
      exact g_zreturn O (pc := 84) dX8_isOver_84 h2 rfl
    · rw [if_neg h1] at hF
      refine g_iload_n O (pc := 58) dX8_isOver_58 1 rfl ?_
      refine g_if_eq O (pc := 59) 75 dX8_isOver_59 (by decide) (fun h3 => ?_) (fun h3 => ?_)
      · rw [if_pos h3] at hF
        refine g_sub [0, 2] (L' := [(0, .ref (0)), (2, .int (x2))]) rfl ?_
        exact c_X8_isOver_b75 O ih _ _ _ hF
      · rw [if_neg h3] at hF
        refine g_aload_n O (pc := 62) dX8_isOver_62 0 rfl ?_
        refine g_getR O (pc := 63) isC_X8 dX8_isOver_63 fw_X8_13 (by decide) fd_SMod_0_1 ?_
        refine g_iload_n O (pc := 66) dX8_isOver_66 2 rfl ?_
        obtain ⟨h4, hF⟩ := gd hF
        refine g_il O (pc := 67) dX8_isOver_67 ar_SMod_1 h4 ?_
        refine g_if_ne O (pc := 68) 75 dX8_isOver_68 (by decide) (fun h5 => ?_) (fun h5 => ?_)
        · rw [if_neg h5] at hF
          refine g_sub [0, 2] (L' := [(0, .ref (0)), (2, .int (x2))]) rfl ?_
          exact c_X8_isOver_b75 O ih _ _ _ hF
        · rw [if_pos h5] at hF
          refine g_iconst O (pc := 71) dX8_isOver_71 (ic_1) ?_
          refine g_goto O (pc := 72) 76 dX8_isOver_72 (by decide) ?_
          refine g_sub [0, 2] (L' := [(0, .ref (0)), (2, .int (x2))]) rfl ?_
          exact c_X8_isOver_b76 O ih _ _ _ _ hF

def f_X8_isOver_b41 (k4 : Int32 → Int32 → IS → Option (Int32)) (x2 : Int32) (s0 : Int32) (I : IS) : Option (Int32) :=
  k4 (s0) (x2 + (1 : Int32)) (I)
set_option maxHeartbeats 4000000 in
set_option maxRecDepth 100000 in
theorem c_X8_isOver_b41 {z : CTX} {J : JS} (O : OK z cX8_isOver RX8 3 SMod 36 (rm_ 0 0) (some .boolean)) {k4 : Int32 → Int32 → IS → Option (Int32)} (hk4 : ∀ (x1 : Int32) (x2 : Int32) (I : IS) (q : Int32), k4 x1 x2 I = some q → G z 4 [(0, .ref (0)), (1, .int (x1)), (2, .int (x2))] [] I J (some (.int q), I, J)) : ∀ (x2 : Int32) (s0 : Int32) (I : IS) (q : Int32), f_X8_isOver_b41 k4 x2 s0 I = some q → G z 41 [(0, .ref (0)), (2, .int (x2))] [.int (s0)] I J (some (.int q), I, J) := by
  intro x2 s0 I q hF
  rw [f_X8_isOver_b41] at hF
  refine g_istore_n O (pc := 41) (L' := [(1, .int (s0)), (0, .ref (0)), (2, .int (x2))]) dX8_isOver_41 (by decide) rfl ?_
  refine g_iinc O (pc := 42) (v := x2 + (1 : Int32)) (L' := [(2, .int (x2 + (1 : Int32))), (1, .int (s0)), (0, .ref (0))]) dX8_isOver_42 2 rfl rfl (by decide) rfl ?_
  refine g_goto O (pc := 45) 4 dX8_isOver_45 (by decide) ?_
  refine g_sub [2, 1, 0] (L' := [(0, .ref (0)), (1, .int (s0)), (2, .int (x2 + (1 : Int32)))]) rfl ?_
  exact hk4 _ _ _ _ hF

def f_X8_isOver_b40 (k4 : Int32 → Int32 → IS → Option (Int32)) (x2 : Int32) (I : IS) : Option (Int32) :=
  f_X8_isOver_b41 k4 (x2) ((0 : Int32)) (I)
set_option maxHeartbeats 4000000 in
set_option maxRecDepth 100000 in
theorem c_X8_isOver_b40 {z : CTX} {J : JS} (O : OK z cX8_isOver RX8 3 SMod 36 (rm_ 0 0) (some .boolean)) {k4 : Int32 → Int32 → IS → Option (Int32)} (hk4 : ∀ (x1 : Int32) (x2 : Int32) (I : IS) (q : Int32), k4 x1 x2 I = some q → G z 4 [(0, .ref (0)), (1, .int (x1)), (2, .int (x2))] [] I J (some (.int q), I, J)) : ∀ (x2 : Int32) (I : IS) (q : Int32), f_X8_isOver_b40 k4 x2 I = some q → G z 40 [(0, .ref (0)), (2, .int (x2))] [] I J (some (.int q), I, J) := by
  intro x2 I q hF
  rw [f_X8_isOver_b40] at hF
  refine g_iconst O (pc := 40) dX8_isOver_40 (ic_0) ?_
  refine g_sub [0, 1] (L' := [(0, .ref (0)), (2, .int (x2))]) rfl ?_
  exact c_X8_isOver_b41 O hk4 _ _ _ _ hF

def f_X8_isOver_b4 : Nat → Int32 → Int32 → IS → Option (Int32)
  | 0, _, _, _ => none
  | fu + 1, x1, x2, I =>
    if (I (0) 6) ≤ x2 then
    (f_X8_isOver_b50 LF (x1) ((0 : Int32)) (I))
    else
    (if x1 = 0 then
    (f_X8_isOver_b40 (f_X8_isOver_b4 fu) (x2) (I))
    else
    (if okI (x2) 32 = true then
    (if (I (6) (x2).toNatClampNeg) = (1 : Int32) then
    (f_X8_isOver_b40 (f_X8_isOver_b4 fu) (x2) (I))
    else
    (if okI (x2) 32 = true then
    (if (I (6) (x2).toNatClampNeg) = (2 : Int32) then
    (f_X8_isOver_b40 (f_X8_isOver_b4 fu) (x2) (I))
    else
    (f_X8_isOver_b41 (f_X8_isOver_b4 fu) (x2) ((1 : Int32)) (I)))
    else none))
    else none))
set_option maxHeartbeats 4000000 in
set_option maxRecDepth 100000 in
theorem c_X8_isOver_b4 {z : CTX} {J : JS} (O : OK z cX8_isOver RX8 3 SMod 36 (rm_ 0 0) (some .boolean)) : ∀ (fu : Nat) (x1 : Int32) (x2 : Int32) (I : IS) (q : Int32), f_X8_isOver_b4 fu x1 x2 I = some q → G z 4 [(0, .ref (0)), (1, .int (x1)), (2, .int (x2))] [] I J (some (.int q), I, J) := by
  intro fu
  induction fu with
  | zero =>
    intro x1 x2 I q hF
    cases hF
  | succ fu ih =>
    intro x1 x2 I q hF
    rw [f_X8_isOver_b4] at hF
    refine g_iload_n O (pc := 4) dX8_isOver_4 2 rfl ?_
    refine g_aload_n O (pc := 5) dX8_isOver_5 0 rfl ?_
    refine g_getI O (pc := 6) isC_X8 dX8_isOver_6 fw_X8_127 (by decide) fd_SMod_0_6 ?_
    refine g_icmp_ge O (pc := 9) 48 dX8_isOver_9 (by decide) (fun h1 => ?_) (fun h1 => ?_)
    · rw [if_pos h1] at hF
      refine g_iconst O (pc := 48) dX8_isOver_48 (ic_0) ?_
      refine g_istore_n O (pc := 49) (L' := [(2, .int ((0 : Int32))), (0, .ref (0)), (1, .int (x1))]) dX8_isOver_49 (by decide) rfl ?_
      refine g_sub [1, 2, 0] (L' := [(0, .ref (0)), (1, .int (x1)), (2, .int ((0 : Int32)))]) rfl ?_
      exact c_X8_isOver_b50 O _ _ _ _ _ hF
    · rw [if_neg h1] at hF
      refine g_iload_n O (pc := 12) dX8_isOver_12 1 rfl ?_
      refine g_if_eq O (pc := 13) 40 dX8_isOver_13 (by decide) (fun h2 => ?_) (fun h2 => ?_)
      · rw [if_pos h2] at hF
        refine g_sub [0, 2] (L' := [(0, .ref (0)), (2, .int (x2))]) rfl ?_
        exact c_X8_isOver_b40 O ih _ _ _ hF
      · rw [if_neg h2] at hF
        refine g_aload_n O (pc := 16) dX8_isOver_16 0 rfl ?_
        refine g_getR O (pc := 17) isC_X8 dX8_isOver_17 fw_X8_29 (by decide) fd_SMod_0_7 ?_
        refine g_iload_n O (pc := 20) dX8_isOver_20 2 rfl ?_
        obtain ⟨h3, hF⟩ := gd hF
        refine g_il O (pc := 21) dX8_isOver_21 ar_SMod_6 h3 ?_
        refine g_iconst O (pc := 22) dX8_isOver_22 (ic_1) ?_
        refine g_icmp_eq O (pc := 23) 40 dX8_isOver_23 (by decide) (fun h4 => ?_) (fun h4 => ?_)
        · rw [if_pos h4] at hF
          refine g_sub [0, 2] (L' := [(0, .ref (0)), (2, .int (x2))]) rfl ?_
          exact c_X8_isOver_b40 O ih _ _ _ hF
        · rw [if_neg h4] at hF
          refine g_aload_n O (pc := 26) dX8_isOver_26 0 rfl ?_
          refine g_getR O (pc := 27) isC_X8 dX8_isOver_27 fw_X8_29 (by decide) fd_SMod_0_7 ?_
          refine g_iload_n O (pc := 30) dX8_isOver_30 2 rfl ?_
          obtain ⟨h5, hF⟩ := gd hF
          refine g_il O (pc := 31) dX8_isOver_31 ar_SMod_6 h5 ?_
          refine g_iconst O (pc := 32) dX8_isOver_32 (ic_2) ?_
          refine g_icmp_eq O (pc := 33) 40 dX8_isOver_33 (by decide) (fun h6 => ?_) (fun h6 => ?_)
          · rw [if_pos h6] at hF
            refine g_sub [0, 2] (L' := [(0, .ref (0)), (2, .int (x2))]) rfl ?_
            exact c_X8_isOver_b40 O ih _ _ _ hF
          · rw [if_neg h6] at hF
            refine g_iconst O (pc := 36) dX8_isOver_36 (ic_1) ?_
            refine g_goto O (pc := 37) 41 dX8_isOver_37 (by decide) ?_
            refine g_sub [0, 2] (L' := [(0, .ref (0)), (2, .int (x2))]) rfl ?_
            exact c_X8_isOver_b41 O ih _ _ _ _ hF

def f_X8_isOver (I : IS) : Option (Int32) :=
  f_X8_isOver_b4 LF ((1 : Int32)) ((0 : Int32)) (I)
set_option maxHeartbeats 4000000 in
set_option maxRecDepth 100000 in
theorem c_X8_isOver_e {z : CTX} {J : JS} (O : OK z cX8_isOver RX8 3 SMod 36 (rm_ 0 0) (some .boolean)) : ∀ (I : IS) (q : Int32), f_X8_isOver I = some q → G z 0 [(0, .ref (0))] [] I J (some (.int q), I, J) := by
  intro I q hF
  rw [f_X8_isOver] at hF
  refine g_iconst O (pc := 0) dX8_isOver_0 (ic_1) ?_
  refine g_istore_n O (pc := 1) (L' := [(1, .int ((1 : Int32))), (0, .ref (0))]) dX8_isOver_1 (by decide) rfl ?_
  refine g_iconst O (pc := 2) dX8_isOver_2 (ic_0) ?_
  refine g_istore_n O (pc := 3) (L' := [(2, .int ((0 : Int32))), (1, .int ((1 : Int32))), (0, .ref (0))]) dX8_isOver_3 (by decide) rfl ?_
  refine g_sub [2, 1, 0] (L' := [(0, .ref (0)), (1, .int ((1 : Int32))), (2, .int ((0 : Int32)))]) rfl ?_
  exact c_X8_isOver_b4 O _ _ _ _ _ hF

theorem mc_X8_isOver {I : IS} (J : JS) {q : Int32} (hF : f_X8_isOver I = some q) : MC yX8_isOver cX8_isOver 3 (some .boolean) (rm_ 0 0) SMod 36 [.ref (0)] I J (some (.int q), I, J) :=
  mc_of pn_X8 (Nat.le_of_ble_eq_true rfl) (fun z O => c_X8_isOver_e O _ _ hF)

def f_X8_tillOver_b39 (s0 : Int32) (I : IS) : Option (Int32 × IS) :=
  some (s0, I)
set_option maxHeartbeats 4000000 in
set_option maxRecDepth 100000 in
theorem c_X8_tillOver_b39 {z : CTX} {J : JS} (O : OK z cX8_tillOver RX8 2 SMod 36 (rm_ 8 180) (some .int)) : ∀ (s0 : Int32) (I : IS) (q : Int32 × IS), f_X8_tillOver_b39 s0 I = some q → G z 39 [] [.int (s0)] I J (some (.int q.1), q.2, J) := by
  intro s0 I q hF
  rw [f_X8_tillOver_b39] at hF
  obtain rfl := Option.some.inj hF
  exact g_ireturn O (pc := 39) dX8_tillOver_39 rfl

def f_X8_tillOver_b26 (x1 : Int32) (I : IS) : Option (Int32 × IS) :=
  if x1 ≤ (300 : Int32) then
  (f_X8_tillOver_b39 (x1) (I))
  else
  (f_X8_tillOver_b39 ((-5 : Int32)) (I))
set_option maxHeartbeats 4000000 in
set_option maxRecDepth 100000 in
theorem c_X8_tillOver_b26 {z : CTX} {J : JS} (O : OK z cX8_tillOver RX8 2 SMod 36 (rm_ 8 180) (some .int)) : ∀ (x1 : Int32) (I : IS) (q : Int32 × IS), f_X8_tillOver_b26 x1 I = some q → G z 26 [(1, .int (x1))] [] I J (some (.int q.1), q.2, J) := by
  intro x1 I q hF
  rw [f_X8_tillOver_b26] at hF
  refine g_iload_n O (pc := 26) dX8_tillOver_26 0 rfl ?_
  refine g_sipush O (pc := 27) dX8_tillOver_27 sp_300 ?_
  refine g_icmp_le O (pc := 30) 38 dX8_tillOver_30 (by decide) (fun h1 => ?_) (fun h1 => ?_)
  · rw [if_pos h1] at hF
    refine g_iload_n O (pc := 38) dX8_tillOver_38 0 rfl ?_
    refine g_sub [] (L' := []) rfl ?_
    exact c_X8_tillOver_b39 O _ _ _ hF
  · rw [if_neg h1] at hF
    refine g_bipush O (pc := 33) dX8_tillOver_33 bp_m5 ?_
    refine g_goto O (pc := 35) 39 dX8_tillOver_35 (by decide) ?_
    refine g_sub [] (L' := []) rfl ?_
    exact c_X8_tillOver_b39 O _ _ _ hF

def f_X8_tillOver_b2 : Nat → Int32 → IS → Option (Int32 × IS)
  | 0, _, _ => none
  | fu + 1, x1, I =>
    if (300 : Int32) < x1 then
    (f_X8_tillOver_b26 (x1) (I))
    else
    ((f_X8_isOver I).bind fun q2 =>
    (if q2 = 0 then
    ((f_X8_roundOn I).bind fun q5 =>
    (f_X8_tillOver_b2 fu (x1 + (1 : Int32)) (q5)))
    else
    (f_X8_tillOver_b26 (x1) (I))))
set_option maxHeartbeats 4000000 in
set_option maxRecDepth 100000 in
theorem c_X8_tillOver_b2 {z : CTX} {J : JS} (O : OK z cX8_tillOver RX8 2 SMod 36 (rm_ 8 180) (some .int)) : ∀ (fu : Nat) (x1 : Int32) (I : IS) (q : Int32 × IS), f_X8_tillOver_b2 fu x1 I = some q → G z 2 [(0, .ref (0)), (1, .int (x1))] [] I J (some (.int q.1), q.2, J) := by
  intro fu
  induction fu with
  | zero =>
    intro x1 I q hF
    cases hF
  | succ fu ih =>
    intro x1 I q hF
    rw [f_X8_tillOver_b2] at hF
    refine g_iload_n O (pc := 2) dX8_tillOver_2 1 rfl ?_
    refine g_sipush O (pc := 3) dX8_tillOver_3 sp_300 ?_
    refine g_icmp_gt O (pc := 6) 26 dX8_tillOver_6 (by decide) (fun h1 => ?_) (fun h1 => ?_)
    · rw [if_pos h1] at hF
      refine g_sub [1] (L' := [(1, .int (x1))]) rfl ?_
      exact c_X8_tillOver_b26 O _ _ _ hF
    · rw [if_neg h1] at hF
      refine g_aload_n O (pc := 9) dX8_tillOver_9 0 rfl ?_
      obtain ⟨q2, e3, hF⟩ := bnd hF
      refine g_Vi O (pc := 10) (st := []) dX8_tillOver_10 (mc_X8_isOver J e3) cb_X8_isOver ml_X8_312 isC_X8 ob_SMod (zm0 _ _ _ _ _ _ _) (rmok (Nat.le_of_ble_eq_true rfl) (Nat.le_of_ble_eq_true rfl)) (Nat.le_of_ble_eq_true rfl) rfl ?_
      refine g_if_ne O (pc := 13) 26 dX8_tillOver_13 (by decide) (fun h4 => ?_) (fun h4 => ?_)
      · rw [if_neg h4] at hF
        refine g_sub [1] (L' := [(1, .int (x1))]) rfl ?_
        exact c_X8_tillOver_b26 O _ _ _ hF
      · rw [if_pos h4] at hF
        refine g_aload_n O (pc := 16) dX8_tillOver_16 0 rfl ?_
        obtain ⟨q5, e6, hF⟩ := bnd hF
        refine g_Vv O (pc := 17) (st := []) dX8_tillOver_17 (mc_X8_roundOn J e6) cb_X8_roundOn ml_X8_233 isC_X8 ob_SMod (zm0 _ _ _ _ _ _ _) (rmok (Nat.le_of_ble_eq_true rfl) (Nat.le_of_ble_eq_true rfl)) (Nat.le_of_ble_eq_true rfl) rfl ?_
        refine g_iinc O (pc := 20) (v := x1 + (1 : Int32)) (L' := [(1, .int (x1 + (1 : Int32))), (0, .ref (0))]) dX8_tillOver_20 1 rfl rfl (by decide) rfl ?_
        refine g_goto O (pc := 23) 2 dX8_tillOver_23 (by decide) ?_
        refine g_sub [1, 0] (L' := [(0, .ref (0)), (1, .int (x1 + (1 : Int32)))]) rfl ?_
        exact ih _ _ _ hF

def f_X8_tillOver (I : IS) : Option (Int32 × IS) :=
  f_X8_tillOver_b2 LF ((0 : Int32)) (I)
set_option maxHeartbeats 4000000 in
set_option maxRecDepth 100000 in
theorem c_X8_tillOver_e {z : CTX} {J : JS} (O : OK z cX8_tillOver RX8 2 SMod 36 (rm_ 8 180) (some .int)) : ∀ (I : IS) (q : Int32 × IS), f_X8_tillOver I = some q → G z 0 [(0, .ref (0))] [] I J (some (.int q.1), q.2, J) := by
  intro I q hF
  rw [f_X8_tillOver] at hF
  refine g_iconst O (pc := 0) dX8_tillOver_0 (ic_0) ?_
  refine g_istore_n O (pc := 1) (L' := [(1, .int ((0 : Int32))), (0, .ref (0))]) dX8_tillOver_1 (by decide) rfl ?_
  refine g_sub [1, 0] (L' := [(0, .ref (0)), (1, .int ((0 : Int32)))]) rfl ?_
  exact c_X8_tillOver_b2 O _ _ _ _ hF

theorem mc_X8_tillOver {I : IS} (J : JS) {q : Int32 × IS} (hF : f_X8_tillOver I = some q) : MC yX8_tillOver cX8_tillOver 2 (some .int) (rm_ 8 180) SMod 36 [.ref (0)] I J (some (.int q.1), q.2, J) :=
  mc_of pn_X8 (Nat.le_of_ble_eq_true rfl) (fun z O => c_X8_tillOver_e O _ _ hF)

def f_X8_tillBy (x1 : Int32) (I : IS) : Option (Int32 × IS) :=
  (f_X8_open I).bind fun q1 =>
  ((f_X8_becomeArms (x1) q1).bind fun q3 =>
  ((f_X8_tillOver q3).bind fun q5 =>
  ((f_X8_again q5.2).bind fun q7 =>
  (some (q5.1, q7)))))
set_option maxHeartbeats 4000000 in
set_option maxRecDepth 100000 in
theorem c_X8_tillBy_e {z : CTX} {J : JS} (O : OK z cX8_tillBy RX8 3 SMod 36 (rm_ 9 201) (some .int)) : ∀ (x1 : Int32) (I : IS) (q : Int32 × IS), f_X8_tillBy x1 I = some q → G z 0 [(0, .ref (0)), (1, .int (x1))] [] I J (some (.int q.1), q.2, J) := by
  intro x1 I q hF
  rw [f_X8_tillBy] at hF
  refine g_aload_n O (pc := 0) dX8_tillBy_0 0 rfl ?_
  obtain ⟨q1, e2, hF⟩ := bnd hF
  refine g_Vv O (pc := 1) (st := []) dX8_tillBy_1 (mc_X8_open J e2) cb_X8_open ml_X8_315 isC_X8 ob_SMod (zm0 _ _ _ _ _ _ _) (rmok (Nat.le_of_ble_eq_true rfl) (Nat.le_of_ble_eq_true rfl)) (Nat.le_of_ble_eq_true rfl) rfl ?_
  refine g_aload_n O (pc := 4) dX8_tillBy_4 0 rfl ?_
  refine g_iload_n O (pc := 5) dX8_tillBy_5 1 rfl ?_
  obtain ⟨q3, e4, hF⟩ := bnd hF
  refine g_Vv O (pc := 6) (st := []) dX8_tillBy_6 (mc_X8_becomeArms J e4) cb_X8_becomeArms ml_X8_238 isC_X8 ob_SMod (zm0 _ _ _ _ _ _ _) (rmok (Nat.le_of_ble_eq_true rfl) (Nat.le_of_ble_eq_true rfl)) (Nat.le_of_ble_eq_true rfl) rfl ?_
  refine g_aload_n O (pc := 9) dX8_tillBy_9 0 rfl ?_
  obtain ⟨q5, e6, hF⟩ := bnd hF
  refine g_Vi O (pc := 10) (st := []) dX8_tillBy_10 (mc_X8_tillOver J e6) cb_X8_tillOver ml_X8_318 isC_X8 ob_SMod (zm0 _ _ _ _ _ _ _) (rmok (Nat.le_of_ble_eq_true rfl) (Nat.le_of_ble_eq_true rfl)) (Nat.le_of_ble_eq_true rfl) rfl ?_
  refine g_istore_n O (pc := 13) (L' := [(2, .int (q5.1)), (0, .ref (0)), (1, .int (x1))]) dX8_tillBy_13 (by decide) rfl ?_
  refine g_aload_n O (pc := 14) dX8_tillBy_14 1 rfl ?_
  obtain ⟨q7, e8, hF⟩ := bnd hF
  refine g_Vv O (pc := 15) (st := []) dX8_tillBy_15 (mc_X8_again J e8) cb_X8_again ml_X8_321 isC_X8 ob_SMod (zm0 _ _ _ _ _ _ _) (rmok (Nat.le_of_ble_eq_true rfl) (Nat.le_of_ble_eq_true rfl)) (Nat.le_of_ble_eq_true rfl) rfl ?_
  refine g_iload_n O (pc := 18) dX8_tillBy_18 0 rfl ?_
  obtain rfl := Option.some.inj hF
  exact g_ireturn O (pc := 19) dX8_tillBy_19 rfl

theorem mc_X8_tillBy {x1 : Int32} {I : IS} (J : JS) {q : Int32 × IS} (hF : f_X8_tillBy x1 I = some q) : MC yX8_tillBy cX8_tillBy 3 (some .int) (rm_ 9 201) SMod 36 [.ref (0), .int (x1)] I J (some (.int q.1), q.2, J) :=
  mc_of pn_X8 (Nat.le_of_ble_eq_true rfl) (fun z O => c_X8_tillBy_e O _ _ _ hF)

def f_X8_bestArms_b55 (k9 : Int32 → Int32 → Int32 → IS → Option (Int32 × IS)) (x1 : Int32) (x3 : Int32) (s0 : Int32) (I : IS) : Option (Int32 × IS) :=
  k9 (x1) (s0) (x3 + (1 : Int32)) (I)
set_option maxHeartbeats 4000000 in
set_option maxRecDepth 100000 in
theorem c_X8_bestArms_b55 {z : CTX} {J : JS} (O : OK z cX8_bestArms RX8 5 SMod 36 (rm_ 10 223) (some .int)) {k9 : Int32 → Int32 → Int32 → IS → Option (Int32 × IS)} (hk9 : ∀ (x1 : Int32) (x2 : Int32) (x3 : Int32) (I : IS) (q : Int32 × IS), k9 x1 x2 x3 I = some q → G z 9 [(0, .ref (0)), (1, .int (x1)), (2, .int (x2)), (3, .int (x3))] [] I J (some (.int q.1), q.2, J)) : ∀ (x1 : Int32) (x3 : Int32) (s0 : Int32) (I : IS) (q : Int32 × IS), f_X8_bestArms_b55 k9 x1 x3 s0 I = some q → G z 55 [(0, .ref (0)), (1, .int (x1)), (3, .int (x3))] [.int (s0)] I J (some (.int q.1), q.2, J) := by
  intro x1 x3 s0 I q hF
  rw [f_X8_bestArms_b55] at hF
  refine g_istore_n O (pc := 55) (L' := [(2, .int (s0)), (0, .ref (0)), (1, .int (x1)), (3, .int (x3))]) dX8_bestArms_55 (by decide) rfl ?_
  refine g_iinc O (pc := 56) (v := x3 + (1 : Int32)) (L' := [(3, .int (x3 + (1 : Int32))), (2, .int (s0)), (0, .ref (0)), (1, .int (x1))]) dX8_bestArms_56 3 rfl rfl (by decide) rfl ?_
  refine g_goto O (pc := 59) 9 dX8_bestArms_59 (by decide) ?_
  refine g_sub [2, 3, 1, 0] (L' := [(0, .ref (0)), (1, .int (x1)), (2, .int (s0)), (3, .int (x3 + (1 : Int32)))]) rfl ?_
  exact hk9 _ _ _ _ _ hF

def f_X8_bestArms_b54 (k9 : Int32 → Int32 → Int32 → IS → Option (Int32 × IS)) (x1 : Int32) (x2 : Int32) (x3 : Int32) (I : IS) : Option (Int32 × IS) :=
  f_X8_bestArms_b55 k9 (x1) (x3) (x2) (I)
set_option maxHeartbeats 4000000 in
set_option maxRecDepth 100000 in
theorem c_X8_bestArms_b54 {z : CTX} {J : JS} (O : OK z cX8_bestArms RX8 5 SMod 36 (rm_ 10 223) (some .int)) {k9 : Int32 → Int32 → Int32 → IS → Option (Int32 × IS)} (hk9 : ∀ (x1 : Int32) (x2 : Int32) (x3 : Int32) (I : IS) (q : Int32 × IS), k9 x1 x2 x3 I = some q → G z 9 [(0, .ref (0)), (1, .int (x1)), (2, .int (x2)), (3, .int (x3))] [] I J (some (.int q.1), q.2, J)) : ∀ (x1 : Int32) (x2 : Int32) (x3 : Int32) (I : IS) (q : Int32 × IS), f_X8_bestArms_b54 k9 x1 x2 x3 I = some q → G z 54 [(0, .ref (0)), (1, .int (x1)), (2, .int (x2)), (3, .int (x3))] [] I J (some (.int q.1), q.2, J) := by
  intro x1 x2 x3 I q hF
  rw [f_X8_bestArms_b54] at hF
  refine g_iload_n O (pc := 54) dX8_bestArms_54 2 rfl ?_
  refine g_sub [0, 1, 3] (L' := [(0, .ref (0)), (1, .int (x1)), (3, .int (x3))]) rfl ?_
  exact c_X8_bestArms_b55 O hk9 _ _ _ _ _ hF

def f_X8_bestArms_b37 (k9 : Int32 → Int32 → Int32 → IS → Option (Int32 × IS)) (x2 : Int32) (x3 : Int32) (x4 : Int32) (s0 : Int32) (I : IS) : Option (Int32 × IS) :=
  if x4 < 0 then
  (f_X8_bestArms_b54 k9 (s0) (x2) (x3) (I))
  else
  (if x2 ≤ x4 then
  (f_X8_bestArms_b54 k9 (s0) (x2) (x3) (I))
  else
  (f_X8_bestArms_b55 k9 (s0) (x3) (x4) (I)))
set_option maxHeartbeats 4000000 in
set_option maxRecDepth 100000 in
theorem c_X8_bestArms_b37 {z : CTX} {J : JS} (O : OK z cX8_bestArms RX8 5 SMod 36 (rm_ 10 223) (some .int)) {k9 : Int32 → Int32 → Int32 → IS → Option (Int32 × IS)} (hk9 : ∀ (x1 : Int32) (x2 : Int32) (x3 : Int32) (I : IS) (q : Int32 × IS), k9 x1 x2 x3 I = some q → G z 9 [(0, .ref (0)), (1, .int (x1)), (2, .int (x2)), (3, .int (x3))] [] I J (some (.int q.1), q.2, J)) : ∀ (x2 : Int32) (x3 : Int32) (x4 : Int32) (s0 : Int32) (I : IS) (q : Int32 × IS), f_X8_bestArms_b37 k9 x2 x3 x4 s0 I = some q → G z 37 [(0, .ref (0)), (2, .int (x2)), (3, .int (x3)), (4, .int (x4))] [.int (s0)] I J (some (.int q.1), q.2, J) := by
  intro x2 x3 x4 s0 I q hF
  rw [f_X8_bestArms_b37] at hF
  refine g_istore_n O (pc := 37) (L' := [(1, .int (s0)), (0, .ref (0)), (2, .int (x2)), (3, .int (x3)), (4, .int (x4))]) dX8_bestArms_37 (by decide) rfl ?_
  refine g_iload O (pc := 38) dX8_bestArms_38 4 rfl ?_
  refine g_if_lt O (pc := 40) 54 dX8_bestArms_40 (by decide) (fun h1 => ?_) (fun h1 => ?_)
  · rw [if_pos h1] at hF
    refine g_sub [1, 0, 2, 3] (L' := [(0, .ref (0)), (1, .int (s0)), (2, .int (x2)), (3, .int (x3))]) rfl ?_
    exact c_X8_bestArms_b54 O hk9 _ _ _ _ _ hF
  · rw [if_neg h1] at hF
    refine g_iload O (pc := 43) dX8_bestArms_43 4 rfl ?_
    refine g_iload_n O (pc := 45) dX8_bestArms_45 2 rfl ?_
    refine g_icmp_ge O (pc := 46) 54 dX8_bestArms_46 (by decide) (fun h2 => ?_) (fun h2 => ?_)
    · rw [if_pos h2] at hF
      refine g_sub [1, 0, 2, 3] (L' := [(0, .ref (0)), (1, .int (s0)), (2, .int (x2)), (3, .int (x3))]) rfl ?_
      exact c_X8_bestArms_b54 O hk9 _ _ _ _ _ hF
    · rw [if_neg h2] at hF
      refine g_iload O (pc := 49) dX8_bestArms_49 4 rfl ?_
      refine g_goto O (pc := 51) 55 dX8_bestArms_51 (by decide) ?_
      refine g_sub [1, 0, 3] (L' := [(0, .ref (0)), (1, .int (s0)), (3, .int (x3))]) rfl ?_
      exact c_X8_bestArms_b55 O hk9 _ _ _ _ _ hF

def f_X8_bestArms_b36 (k9 : Int32 → Int32 → Int32 → IS → Option (Int32 × IS)) (x1 : Int32) (x2 : Int32) (x3 : Int32) (x4 : Int32) (I : IS) : Option (Int32 × IS) :=
  f_X8_bestArms_b37 k9 (x2) (x3) (x4) (x1) (I)
set_option maxHeartbeats 4000000 in
set_option maxRecDepth 100000 in
theorem c_X8_bestArms_b36 {z : CTX} {J : JS} (O : OK z cX8_bestArms RX8 5 SMod 36 (rm_ 10 223) (some .int)) {k9 : Int32 → Int32 → Int32 → IS → Option (Int32 × IS)} (hk9 : ∀ (x1 : Int32) (x2 : Int32) (x3 : Int32) (I : IS) (q : Int32 × IS), k9 x1 x2 x3 I = some q → G z 9 [(0, .ref (0)), (1, .int (x1)), (2, .int (x2)), (3, .int (x3))] [] I J (some (.int q.1), q.2, J)) : ∀ (x1 : Int32) (x2 : Int32) (x3 : Int32) (x4 : Int32) (I : IS) (q : Int32 × IS), f_X8_bestArms_b36 k9 x1 x2 x3 x4 I = some q → G z 36 [(0, .ref (0)), (1, .int (x1)), (2, .int (x2)), (3, .int (x3)), (4, .int (x4))] [] I J (some (.int q.1), q.2, J) := by
  intro x1 x2 x3 x4 I q hF
  rw [f_X8_bestArms_b36] at hF
  refine g_iload_n O (pc := 36) dX8_bestArms_36 1 rfl ?_
  refine g_sub [0, 2, 3, 4] (L' := [(0, .ref (0)), (2, .int (x2)), (3, .int (x3)), (4, .int (x4))]) rfl ?_
  exact c_X8_bestArms_b37 O hk9 _ _ _ _ _ _ hF

def f_X8_bestArms_b9 : Nat → Int32 → Int32 → Int32 → IS → Option (Int32 × IS)
  | 0, _, _, _, _ => none
  | fu + 1, x1, x2, x3, I =>
    if (4 : Int32) < x3 then
    (some (x1, I))
    else
    ((f_X8_tillBy (x3) I).bind fun q2 =>
    (if q2.1 < 0 then
    (f_X8_bestArms_b36 (f_X8_bestArms_b9 fu) (x1) (x2) (x3) (q2.1) (q2.2))
    else
    (if x2 ≤ q2.1 then
    (f_X8_bestArms_b36 (f_X8_bestArms_b9 fu) (x1) (x2) (x3) (q2.1) (q2.2))
    else
    (f_X8_bestArms_b37 (f_X8_bestArms_b9 fu) (x2) (x3) (q2.1) (x3) (q2.2)))))
set_option maxHeartbeats 4000000 in
set_option maxRecDepth 100000 in
theorem c_X8_bestArms_b9 {z : CTX} {J : JS} (O : OK z cX8_bestArms RX8 5 SMod 36 (rm_ 10 223) (some .int)) : ∀ (fu : Nat) (x1 : Int32) (x2 : Int32) (x3 : Int32) (I : IS) (q : Int32 × IS), f_X8_bestArms_b9 fu x1 x2 x3 I = some q → G z 9 [(0, .ref (0)), (1, .int (x1)), (2, .int (x2)), (3, .int (x3))] [] I J (some (.int q.1), q.2, J) := by
  intro fu
  induction fu with
  | zero =>
    intro x1 x2 x3 I q hF
    cases hF
  | succ fu ih =>
    intro x1 x2 x3 I q hF
    rw [f_X8_bestArms_b9] at hF
    refine g_iload_n O (pc := 9) dX8_bestArms_9 3 rfl ?_
    refine g_iconst O (pc := 10) dX8_bestArms_10 (ic_4) ?_
    refine g_icmp_gt O (pc := 11) 62 dX8_bestArms_11 (by decide) (fun h1 => ?_) (fun h1 => ?_)
    · rw [if_pos h1] at hF
      refine g_iload_n O (pc := 62) dX8_bestArms_62 1 rfl ?_
      obtain rfl := Option.some.inj hF
      exact g_ireturn O (pc := 63) dX8_bestArms_63 rfl
    · rw [if_neg h1] at hF
      refine g_aload_n O (pc := 14) dX8_bestArms_14 0 rfl ?_
      refine g_iload_n O (pc := 15) dX8_bestArms_15 3 rfl ?_
      obtain ⟨q2, e3, hF⟩ := bnd hF
      refine g_Vi O (pc := 16) (st := []) dX8_bestArms_16 (mc_X8_tillBy J e3) cb_X8_tillBy ml_X8_324 isC_X8 ob_SMod (zm0 _ _ _ _ _ _ _) (rmok (Nat.le_of_ble_eq_true rfl) (Nat.le_of_ble_eq_true rfl)) (Nat.le_of_ble_eq_true rfl) rfl ?_
      refine g_istore O (pc := 19) (L' := [(4, .int (q2.1)), (0, .ref (0)), (1, .int (x1)), (2, .int (x2)), (3, .int (x3))]) dX8_bestArms_19 (by decide) rfl ?_
      refine g_iload O (pc := 21) dX8_bestArms_21 0 rfl ?_
      refine g_if_lt O (pc := 23) 36 dX8_bestArms_23 (by decide) (fun h4 => ?_) (fun h4 => ?_)
      · rw [if_pos h4] at hF
        refine g_sub [1, 2, 3, 4, 0] (L' := [(0, .ref (0)), (1, .int (x1)), (2, .int (x2)), (3, .int (x3)), (4, .int (q2.1))]) rfl ?_
        exact c_X8_bestArms_b36 O ih _ _ _ _ _ _ hF
      · rw [if_neg h4] at hF
        refine g_iload O (pc := 26) dX8_bestArms_26 0 rfl ?_
        refine g_iload_n O (pc := 28) dX8_bestArms_28 3 rfl ?_
        refine g_icmp_ge O (pc := 29) 36 dX8_bestArms_29 (by decide) (fun h5 => ?_) (fun h5 => ?_)
        · rw [if_pos h5] at hF
          refine g_sub [1, 2, 3, 4, 0] (L' := [(0, .ref (0)), (1, .int (x1)), (2, .int (x2)), (3, .int (x3)), (4, .int (q2.1))]) rfl ?_
          exact c_X8_bestArms_b36 O ih _ _ _ _ _ _ hF
        · rw [if_neg h5] at hF
          refine g_iload_n O (pc := 32) dX8_bestArms_32 4 rfl ?_
          refine g_goto O (pc := 33) 37 dX8_bestArms_33 (by decide) ?_
          refine g_sub [1, 3, 4, 0] (L' := [(0, .ref (0)), (2, .int (x2)), (3, .int (x3)), (4, .int (q2.1))]) rfl ?_
          exact c_X8_bestArms_b37 O ih _ _ _ _ _ _ hF

def f_X8_bestArms (I : IS) : Option (Int32 × IS) :=
  f_X8_bestArms_b9 LF ((-5 : Int32)) ((301 : Int32)) ((1 : Int32)) (I)
set_option maxHeartbeats 4000000 in
set_option maxRecDepth 100000 in
theorem c_X8_bestArms_e {z : CTX} {J : JS} (O : OK z cX8_bestArms RX8 5 SMod 36 (rm_ 10 223) (some .int)) : ∀ (I : IS) (q : Int32 × IS), f_X8_bestArms I = some q → G z 0 [(0, .ref (0))] [] I J (some (.int q.1), q.2, J) := by
  intro I q hF
  rw [f_X8_bestArms] at hF
  refine g_bipush O (pc := 0) dX8_bestArms_0 bp_m5 ?_
  refine g_istore_n O (pc := 2) (L' := [(1, .int ((-5 : Int32))), (0, .ref (0))]) dX8_bestArms_2 (by decide) rfl ?_
  refine g_sipush O (pc := 3) dX8_bestArms_3 sp_301 ?_
  refine g_istore_n O (pc := 6) (L' := [(2, .int ((301 : Int32))), (1, .int ((-5 : Int32))), (0, .ref (0))]) dX8_bestArms_6 (by decide) rfl ?_
  refine g_iconst O (pc := 7) dX8_bestArms_7 (ic_1) ?_
  refine g_istore_n O (pc := 8) (L' := [(3, .int ((1 : Int32))), (2, .int ((301 : Int32))), (1, .int ((-5 : Int32))), (0, .ref (0))]) dX8_bestArms_8 (by decide) rfl ?_
  refine g_sub [3, 2, 1, 0] (L' := [(0, .ref (0)), (1, .int ((-5 : Int32))), (2, .int ((301 : Int32))), (3, .int ((1 : Int32)))]) rfl ?_
  exact c_X8_bestArms_b9 O _ _ _ _ _ _ hF

theorem mc_X8_bestArms {I : IS} (J : JS) {q : Int32 × IS} (hF : f_X8_bestArms I = some q) : MC yX8_bestArms cX8_bestArms 5 (some .int) (rm_ 10 223) SMod 36 [.ref (0)] I J (some (.int q.1), q.2, J) :=
  mc_of pn_X8 (Nat.le_of_ble_eq_true rfl) (fun z O => c_X8_bestArms_e O _ _ hF)

def f_X8_isTask (x1 : Int32) (I : IS) : Option (Int32) :=
  (f_X8_in ((x1).toInt64) ((0 : Int64)) ((((I (0) 6) - (1 : Int32))).toInt64)).bind fun q1 =>
  (if okZ (q1) = true then some (q1) else none)
set_option maxHeartbeats 4000000 in
set_option maxRecDepth 100000 in
theorem c_X8_isTask_e {z : CTX} {J : JS} (O : OK z cX8_isTask RX8 2 SMod 36 (rm_ 1 25) (some .boolean)) : ∀ (x1 : Int32) (I : IS) (q : Int32), f_X8_isTask x1 I = some q → G z 0 [(0, .ref (0)), (1, .int (x1))] [] I J (some (.int q), I, J) := by
  intro x1 I q hF
  rw [f_X8_isTask] at hF
  refine g_iload_n O (pc := 0) dX8_isTask_0 1 rfl ?_
  refine g_i2l O (pc := 1) dX8_isTask_1 ?_
  refine g_lconst O (pc := 2) dX8_isTask_2 lc_0 ?_
  refine g_aload_n O (pc := 3) dX8_isTask_3 0 rfl ?_
  refine g_getI O (pc := 4) isC_X8 dX8_isTask_4 fw_X8_127 (by decide) fd_SMod_0_6 ?_
  refine g_iconst O (pc := 7) dX8_isTask_7 (ic_1) ?_
  refine g_isub O (pc := 8) dX8_isTask_8 ?_
  refine g_i2l O (pc := 9) dX8_isTask_9 ?_
  obtain ⟨q1, e2, hF⟩ := bnd hF
  refine g_Si O (pc := 10) (st := []) dX8_isTask_10 (mc_X8_in I J e2) cs_X8_in ml_X8_130 rfl (rmok (Nat.le_of_ble_eq_true rfl) (Nat.le_of_ble_eq_true rfl)) (Nat.le_of_ble_eq_true rfl) (fun _ => rfl) rfl ?_
  obtain ⟨h3, hF⟩ := gd hF
  obtain rfl := Option.some.inj hF
  exact g_zreturn O (pc := 13) dX8_isTask_13 h3 rfl

theorem mc_X8_isTask {x1 : Int32} {I : IS} (J : JS) {q : Int32} (hF : f_X8_isTask x1 I = some q) : MC yX8_isTask cX8_isTask 2 (some .boolean) (rm_ 1 25) SMod 36 [.ref (0), .int (x1)] I J (some (.int q), I, J) :=
  mc_of pn_X8 (Nat.le_of_ble_eq_true rfl) (fun z O => c_X8_isTask_e O _ _ _ hF)

def f_X8_book (x1 : Int32) (x2 : Int32) (I : IS) : Option (Int32 × IS) :=
  if x1 = (-1 : Int32) then
  (some ((0 : Int32), (u2 (u2 I (0) 29 ((0 : Int32))) (0) 24 ((0 : Int32)))))
  else
  ((f_X8_isTask (x1) (u2 I (0) 29 ((0 : Int32)))).bind fun q2 =>
  (if q2 = 0 then
  (some ((-1 : Int32), (u2 I (0) 29 ((0 : Int32)))))
  else
  ((f_X8_in ((x2).toInt64) ((0 : Int64)) ((5 : Int64))).bind fun q5 =>
  (if q5 = 0 then
  (some ((-2 : Int32), (u2 I (0) 29 ((0 : Int32)))))
  else
  (if ((u2 I (0) 29 ((0 : Int32))) (0) 24) = (8 : Int32) then
  (some ((-4 : Int32), (u2 I (0) 29 ((0 : Int32)))))
  else
  (if okI (((u2 I (0) 29 ((0 : Int32))) (0) 24)) 8 = true then
  (if okI (((u2 (u2 I (0) 29 ((0 : Int32))) (18) (((u2 I (0) 29 ((0 : Int32))) (0) 24)).toNatClampNeg (x1)) (0) 24)) 8 = true then
  ((some (u2 (u2 (u2 I (0) 29 ((0 : Int32))) (18) (((u2 I (0) 29 ((0 : Int32))) (0) 24)).toNatClampNeg (x1)) (19) (((u2 (u2 I (0) 29 ((0 : Int32))) (18) (((u2 I (0) 29 ((0 : Int32))) (0) 24)).toNatClampNeg (x1)) (0) 24)).toNatClampNeg (x2))).bind fun I11 =>
  (some (((u2 I11 (0) 24 (((I11 (0) 24) + (1 : Int32)))) (0) 24), (u2 I11 (0) 24 (((I11 (0) 24) + (1 : Int32)))))))
  else none)
  else none))))))
set_option maxHeartbeats 4000000 in
set_option maxRecDepth 100000 in
theorem c_X8_book_e {z : CTX} {J : JS} (O : OK z cX8_book RX8 3 SMod 36 (rm_ 2 46) (some .int)) : ∀ (x1 : Int32) (x2 : Int32) (I : IS) (q : Int32 × IS), f_X8_book x1 x2 I = some q → G z 0 [(0, .ref (0)), (1, .int (x1)), (2, .int (x2))] [] I J (some (.int q.1), q.2, J) := by
  intro x1 x2 I q hF
  rw [f_X8_book] at hF
  refine g_aload_n O (pc := 0) dX8_book_0 0 rfl ?_
  refine g_iconst O (pc := 1) dX8_book_1 (ic_0) ?_
  refine g_putI O (pc := 2) isC_X8 isT_X8 dX8_book_2 fw_X8_124 (by decide) rfl rfl fd_SMod_0_29 ?_
  refine g_iload_n O (pc := 5) dX8_book_5 1 rfl ?_
  refine g_iconst O (pc := 6) dX8_book_6 (ic_m1) ?_
  refine g_icmp_ne O (pc := 7) 17 dX8_book_7 (by decide) (fun h1 => ?_) (fun h1 => ?_)
  · rw [if_neg h1] at hF
    refine g_aload_n O (pc := 17) dX8_book_17 0 rfl ?_
    refine g_iload_n O (pc := 18) dX8_book_18 1 rfl ?_
    obtain ⟨q2, e3, hF⟩ := bnd hF
    refine g_Vi O (pc := 19) (st := []) dX8_book_19 (mc_X8_isTask J e3) cb_X8_isTask ml_X8_290 isC_X8 ob_SMod (zm0 _ _ _ _ _ _ _) (rmok (Nat.le_of_ble_eq_true rfl) (Nat.le_of_ble_eq_true rfl)) (Nat.le_of_ble_eq_true rfl) rfl ?_
    refine g_if_ne O (pc := 22) 27 dX8_book_22 (by decide) (fun h4 => ?_) (fun h4 => ?_)
    · rw [if_neg h4] at hF
      refine g_iload_n O (pc := 27) dX8_book_27 2 rfl ?_
      refine g_i2l O (pc := 28) dX8_book_28 ?_
      refine g_lconst O (pc := 29) dX8_book_29 lc_0 ?_
      refine g_ldc2 O (pc := 30) kw_X8_364 dX8_book_30 ?_
      obtain ⟨q5, e6, hF⟩ := bnd hF
      refine g_Si O (pc := 33) (st := []) dX8_book_33 (mc_X8_in (u2 I (0) 29 ((0 : Int32))) J e6) cs_X8_in ml_X8_130 rfl (rmok (Nat.le_of_ble_eq_true rfl) (Nat.le_of_ble_eq_true rfl)) (Nat.le_of_ble_eq_true rfl) (fun _ => rfl) rfl ?_
      refine g_if_ne O (pc := 36) 42 dX8_book_36 (by decide) (fun h7 => ?_) (fun h7 => ?_)
      · rw [if_neg h7] at hF
        refine g_aload_n O (pc := 42) dX8_book_42 0 rfl ?_
        refine g_getI O (pc := 43) isC_X8 dX8_book_43 fw_X8_154 (by decide) fd_SMod_0_24 ?_
        refine g_bipush O (pc := 46) dX8_book_46 bp_8 ?_
        refine g_icmp_ne O (pc := 48) 54 dX8_book_48 (by decide) (fun h8 => ?_) (fun h8 => ?_)
        · rw [if_neg h8] at hF
          refine g_aload_n O (pc := 54) dX8_book_54 0 rfl ?_
          refine g_getR O (pc := 55) isC_X8 dX8_book_55 fw_X8_68 (by decide) fd_SMod_0_25 ?_
          refine g_aload_n O (pc := 58) dX8_book_58 0 rfl ?_
          refine g_getI O (pc := 59) isC_X8 dX8_book_59 fw_X8_154 (by decide) fd_SMod_0_24 ?_
          refine g_iload_n O (pc := 62) dX8_book_62 1 rfl ?_
          obtain ⟨h9, hF⟩ := gd hF
          refine g_is O (pc := 63) dX8_book_63 ar_SMod_18 h9 ?_
          refine g_aload_n O (pc := 64) dX8_book_64 0 rfl ?_
          refine g_getR O (pc := 65) isC_X8 dX8_book_65 fw_X8_71 (by decide) fd_SMod_0_26 ?_
          refine g_aload_n O (pc := 68) dX8_book_68 0 rfl ?_
          refine g_getI O (pc := 69) isC_X8 dX8_book_69 fw_X8_154 (by decide) fd_SMod_0_24 ?_
          refine g_iload_n O (pc := 72) dX8_book_72 2 rfl ?_
          obtain ⟨h10, hF⟩ := gd hF
          refine g_is O (pc := 73) dX8_book_73 ar_SMod_19 h10 ?_
          obtain ⟨I11, g12, hF⟩ := bnd hF
          refine g_nmI (Option.some.inj g12) ?_
          refine g_aload_n O (pc := 74) dX8_book_74 0 rfl ?_
          refine g_dup O (pc := 75) dX8_book_75 rfl ?_
          refine g_getI O (pc := 76) isC_X8 dX8_book_76 fw_X8_154 (by decide) fd_SMod_0_24 ?_
          refine g_iconst O (pc := 79) dX8_book_79 (ic_1) ?_
          refine g_iadd O (pc := 80) dX8_book_80 ?_
          refine g_putI O (pc := 81) isC_X8 isT_X8 dX8_book_81 fw_X8_154 (by decide) rfl rfl fd_SMod_0_24 ?_
          refine g_aload_n O (pc := 84) dX8_book_84 0 rfl ?_
          refine g_getI O (pc := 85) isC_X8 dX8_book_85 fw_X8_154 (by decide) fd_SMod_0_24 ?_
          obtain rfl := Option.some.inj hF
          exact g_ireturn O (pc := 88) dX8_book_88 rfl
        · rw [if_pos h8] at hF
          refine g_bipush O (pc := 51) dX8_book_51 bp_m4 ?_
          obtain rfl := Option.some.inj hF
          exact g_ireturn O (pc := 53) dX8_book_53 rfl
      · rw [if_pos h7] at hF
        refine g_bipush O (pc := 39) dX8_book_39 bp_m2 ?_
        obtain rfl := Option.some.inj hF
        exact g_ireturn O (pc := 41) dX8_book_41 rfl
    · rw [if_pos h4] at hF
      refine g_iconst O (pc := 25) dX8_book_25 (ic_m1) ?_
      obtain rfl := Option.some.inj hF
      exact g_ireturn O (pc := 26) dX8_book_26 rfl
  · rw [if_pos h1] at hF
    refine g_aload_n O (pc := 10) dX8_book_10 0 rfl ?_
    refine g_iconst O (pc := 11) dX8_book_11 (ic_0) ?_
    refine g_putI O (pc := 12) isC_X8 isT_X8 dX8_book_12 fw_X8_154 (by decide) rfl rfl fd_SMod_0_24 ?_
    refine g_iconst O (pc := 15) dX8_book_15 (ic_0) ?_
    obtain rfl := Option.some.inj hF
    exact g_ireturn O (pc := 16) dX8_book_16 rfl

theorem mc_X8_book {x1 : Int32} {x2 : Int32} {I : IS} (J : JS) {q : Int32 × IS} (hF : f_X8_book x1 x2 I = some q) : MC yX8_book cX8_book 3 (some .int) (rm_ 2 46) SMod 36 [.ref (0), .int (x1), .int (x2)] I J (some (.int q.1), q.2, J) :=
  mc_of pn_X8 (Nat.le_of_ble_eq_true rfl) (fun z O => c_X8_book_e O _ _ _ _ hF)

def f_X8_cancelOne_b25 (k2 : Int32 → Int32 → IS → Option (Int32 × IS)) (x1 : Int32) (x2 : Int32) (s1 : Int32) (s2 : Int32) (I : IS) : Option (Int32 × IS) :=
  if okI (s1) 32 = true then
  (if okZ (s2) = true then
  (k2 (x1) (x2 + (1 : Int32)) ((u2 I (22) (s1).toNatClampNeg (s2))))
  else none)
  else none
set_option maxHeartbeats 4000000 in
set_option maxRecDepth 100000 in
theorem c_X8_cancelOne_b25 {z : CTX} {J : JS} (O : OK z cX8_cancelOne RX8 3 SMod 36 (rm_ 3 68) (some .int)) {k2 : Int32 → Int32 → IS → Option (Int32 × IS)} (hk2 : ∀ (x1 : Int32) (x2 : Int32) (I : IS) (q : Int32 × IS), k2 x1 x2 I = some q → G z 2 [(0, .ref (0)), (1, .int (x1)), (2, .int (x2))] [] I J (some (.int q.1), q.2, J)) : ∀ (x1 : Int32) (x2 : Int32) (s1 : Int32) (s2 : Int32) (I : IS) (q : Int32 × IS), f_X8_cancelOne_b25 k2 x1 x2 s1 s2 I = some q → G z 25 [(0, .ref (0)), (1, .int (x1)), (2, .int (x2))] [.int (s2), .int (s1), .ref (22)] I J (some (.int q.1), q.2, J) := by
  intro x1 x2 s1 s2 I q hF
  rw [f_X8_cancelOne_b25] at hF
  obtain ⟨h1, hF⟩ := gd hF
  obtain ⟨h2, hF⟩ := gd hF
  refine g_zs O (pc := 25) dX8_cancelOne_25 ar_SMod_22 h1 h2 ?_
  refine g_iinc O (pc := 26) (v := x2 + (1 : Int32)) (L' := [(2, .int (x2 + (1 : Int32))), (0, .ref (0)), (1, .int (x1))]) dX8_cancelOne_26 2 rfl rfl (by decide) rfl ?_
  refine g_goto O (pc := 29) 2 dX8_cancelOne_29 (by decide) ?_
  refine g_sub [1, 2, 0] (L' := [(0, .ref (0)), (1, .int (x1)), (2, .int (x2 + (1 : Int32)))]) rfl ?_
  exact hk2 _ _ _ _ hF

def f_X8_cancelOne_b2 : Nat → Int32 → Int32 → IS → Option (Int32 × IS)
  | 0, _, _, _ => none
  | fu + 1, x1, x2, I =>
    if (I (0) 6) ≤ x2 then
    ((f_X8_cancelMarked I).bind fun q2 =>
    (some (q2.1, q2.2)))
    else
    (if x2 = x1 then
    (f_X8_cancelOne_b25 (f_X8_cancelOne_b2 fu) (x1) (x2) (x2) ((1 : Int32)) (I))
    else
    (f_X8_cancelOne_b25 (f_X8_cancelOne_b2 fu) (x1) (x2) (x2) ((0 : Int32)) (I)))
set_option maxHeartbeats 4000000 in
set_option maxRecDepth 100000 in
theorem c_X8_cancelOne_b2 {z : CTX} {J : JS} (O : OK z cX8_cancelOne RX8 3 SMod 36 (rm_ 3 68) (some .int)) : ∀ (fu : Nat) (x1 : Int32) (x2 : Int32) (I : IS) (q : Int32 × IS), f_X8_cancelOne_b2 fu x1 x2 I = some q → G z 2 [(0, .ref (0)), (1, .int (x1)), (2, .int (x2))] [] I J (some (.int q.1), q.2, J) := by
  intro fu
  induction fu with
  | zero =>
    intro x1 x2 I q hF
    cases hF
  | succ fu ih =>
    intro x1 x2 I q hF
    rw [f_X8_cancelOne_b2] at hF
    refine g_iload_n O (pc := 2) dX8_cancelOne_2 2 rfl ?_
    refine g_aload_n O (pc := 3) dX8_cancelOne_3 0 rfl ?_
    refine g_getI O (pc := 4) isC_X8 dX8_cancelOne_4 fw_X8_127 (by decide) fd_SMod_0_6 ?_
    refine g_icmp_ge O (pc := 7) 32 dX8_cancelOne_7 (by decide) (fun h1 => ?_) (fun h1 => ?_)
    · rw [if_pos h1] at hF
      refine g_aload_n O (pc := 32) dX8_cancelOne_32 0 rfl ?_
      obtain ⟨q2, e3, hF⟩ := bnd hF
      refine g_Vi O (pc := 33) (st := []) dX8_cancelOne_33 (mc_X8_cancelMarked J e3) cb_X8_cancelMarked ml_X8_194 isC_X8 ob_SMod (zm0 _ _ _ _ _ _ _) (rmok (Nat.le_of_ble_eq_true rfl) (Nat.le_of_ble_eq_true rfl)) (Nat.le_of_ble_eq_true rfl) rfl ?_
      obtain rfl := Option.some.inj hF
      exact g_ireturn O (pc := 36) dX8_cancelOne_36 rfl
    · rw [if_neg h1] at hF
      refine g_aload_n O (pc := 10) dX8_cancelOne_10 0 rfl ?_
      refine g_getR O (pc := 11) isC_X8 dX8_cancelOne_11 fw_X8_80 (by decide) fd_SMod_0_36 ?_
      refine g_iload_n O (pc := 14) dX8_cancelOne_14 2 rfl ?_
      refine g_iload_n O (pc := 15) dX8_cancelOne_15 2 rfl ?_
      refine g_iload_n O (pc := 16) dX8_cancelOne_16 1 rfl ?_
      refine g_icmp_ne O (pc := 17) 24 dX8_cancelOne_17 (by decide) (fun h4 => ?_) (fun h4 => ?_)
      · rw [if_neg h4] at hF
        refine g_iconst O (pc := 24) dX8_cancelOne_24 (ic_0) ?_
        refine g_sub [0, 1, 2] (L' := [(0, .ref (0)), (1, .int (x1)), (2, .int (x2))]) rfl ?_
        exact c_X8_cancelOne_b25 O ih _ _ _ _ _ _ hF
      · rw [if_pos h4] at hF
        refine g_iconst O (pc := 20) dX8_cancelOne_20 (ic_1) ?_
        refine g_goto O (pc := 21) 25 dX8_cancelOne_21 (by decide) ?_
        refine g_sub [0, 1, 2] (L' := [(0, .ref (0)), (1, .int (x1)), (2, .int (x2))]) rfl ?_
        exact c_X8_cancelOne_b25 O ih _ _ _ _ _ _ hF

def f_X8_cancelOne (x1 : Int32) (I : IS) : Option (Int32 × IS) :=
  f_X8_cancelOne_b2 LF (x1) ((0 : Int32)) (I)
set_option maxHeartbeats 4000000 in
set_option maxRecDepth 100000 in
theorem c_X8_cancelOne_e {z : CTX} {J : JS} (O : OK z cX8_cancelOne RX8 3 SMod 36 (rm_ 3 68) (some .int)) : ∀ (x1 : Int32) (I : IS) (q : Int32 × IS), f_X8_cancelOne x1 I = some q → G z 0 [(0, .ref (0)), (1, .int (x1))] [] I J (some (.int q.1), q.2, J) := by
  intro x1 I q hF
  rw [f_X8_cancelOne] at hF
  refine g_iconst O (pc := 0) dX8_cancelOne_0 (ic_0) ?_
  refine g_istore_n O (pc := 1) (L' := [(2, .int ((0 : Int32))), (0, .ref (0)), (1, .int (x1))]) dX8_cancelOne_1 (by decide) rfl ?_
  refine g_sub [1, 2, 0] (L' := [(0, .ref (0)), (1, .int (x1)), (2, .int ((0 : Int32)))]) rfl ?_
  exact c_X8_cancelOne_b2 O _ _ _ _ _ hF

theorem mc_X8_cancelOne {x1 : Int32} {I : IS} (J : JS) {q : Int32 × IS} (hF : f_X8_cancelOne x1 I = some q) : MC yX8_cancelOne cX8_cancelOne 3 (some .int) (rm_ 3 68) SMod 36 [.ref (0), .int (x1)] I J (some (.int q.1), q.2, J) :=
  mc_of pn_X8 (Nat.le_of_ble_eq_true rfl) (fun z O => c_X8_cancelOne_e O _ _ _ hF)

def f_X8_cancel (x1 : Int32) (I : IS) : Option (Int32 × IS) :=
  (f_X8_isTask (x1) (u2 I (0) 29 ((0 : Int32)))).bind fun q1 =>
  (if q1 = 0 then
  (some ((-1 : Int32), (u2 I (0) 29 ((0 : Int32)))))
  else
  ((f_X8_isEnded (x1) (u2 I (0) 29 ((0 : Int32)))).bind fun q4 =>
  (if q4 = 0 then
  ((f_X8_cancelOne (x1) (u2 I (0) 29 ((0 : Int32)))).bind fun q7 =>
  ((f_X8_goesUp (x1) q7.2).bind fun q9 =>
  (some (q7.1, q9))))
  else
  (some ((-3 : Int32), (u2 I (0) 29 ((0 : Int32))))))))
set_option maxHeartbeats 4000000 in
set_option maxRecDepth 100000 in
theorem c_X8_cancel_e {z : CTX} {J : JS} (O : OK z cX8_cancel RX8 3 SMod 36 (rm_ 5 114) (some .int)) : ∀ (x1 : Int32) (I : IS) (q : Int32 × IS), f_X8_cancel x1 I = some q → G z 0 [(0, .ref (0)), (1, .int (x1))] [] I J (some (.int q.1), q.2, J) := by
  intro x1 I q hF
  rw [f_X8_cancel] at hF
  refine g_aload_n O (pc := 0) dX8_cancel_0 0 rfl ?_
  refine g_iconst O (pc := 1) dX8_cancel_1 (ic_0) ?_
  refine g_putI O (pc := 2) isC_X8 isT_X8 dX8_cancel_2 fw_X8_124 (by decide) rfl rfl fd_SMod_0_29 ?_
  refine g_aload_n O (pc := 5) dX8_cancel_5 0 rfl ?_
  refine g_iload_n O (pc := 6) dX8_cancel_6 1 rfl ?_
  obtain ⟨q1, e2, hF⟩ := bnd hF
  refine g_Vi O (pc := 7) (st := []) dX8_cancel_7 (mc_X8_isTask J e2) cb_X8_isTask ml_X8_290 isC_X8 ob_SMod (zm0 _ _ _ _ _ _ _) (rmok (Nat.le_of_ble_eq_true rfl) (Nat.le_of_ble_eq_true rfl)) (Nat.le_of_ble_eq_true rfl) rfl ?_
  refine g_if_ne O (pc := 10) 15 dX8_cancel_10 (by decide) (fun h3 => ?_) (fun h3 => ?_)
  · rw [if_neg h3] at hF
    refine g_aload_n O (pc := 15) dX8_cancel_15 0 rfl ?_
    refine g_iload_n O (pc := 16) dX8_cancel_16 1 rfl ?_
    obtain ⟨q4, e5, hF⟩ := bnd hF
    refine g_Vi O (pc := 17) (st := []) dX8_cancel_17 (mc_X8_isEnded J e5) cb_X8_isEnded ml_X8_183 isC_X8 ob_SMod (zm0 _ _ _ _ _ _ _) (rmok (Nat.le_of_ble_eq_true rfl) (Nat.le_of_ble_eq_true rfl)) (Nat.le_of_ble_eq_true rfl) rfl ?_
    refine g_if_eq O (pc := 20) 26 dX8_cancel_20 (by decide) (fun h6 => ?_) (fun h6 => ?_)
    · rw [if_pos h6] at hF
      refine g_aload_n O (pc := 26) dX8_cancel_26 0 rfl ?_
      refine g_iload_n O (pc := 27) dX8_cancel_27 1 rfl ?_
      obtain ⟨q7, e8, hF⟩ := bnd hF
      refine g_Vi O (pc := 28) (st := []) dX8_cancel_28 (mc_X8_cancelOne J e8) cb_X8_cancelOne ml_X8_309 isC_X8 ob_SMod (zm0 _ _ _ _ _ _ _) (rmok (Nat.le_of_ble_eq_true rfl) (Nat.le_of_ble_eq_true rfl)) (Nat.le_of_ble_eq_true rfl) rfl ?_
      refine g_istore_n O (pc := 31) (L' := [(2, .int (q7.1)), (0, .ref (0)), (1, .int (x1))]) dX8_cancel_31 (by decide) rfl ?_
      refine g_aload_n O (pc := 32) dX8_cancel_32 1 rfl ?_
      refine g_iload_n O (pc := 33) dX8_cancel_33 2 rfl ?_
      obtain ⟨q9, e10, hF⟩ := bnd hF
      refine g_Vv O (pc := 34) (st := []) dX8_cancel_34 (mc_X8_goesUp J e10) cb_X8_goesUp ml_X8_207 isC_X8 ob_SMod (zm0 _ _ _ _ _ _ _) (rmok (Nat.le_of_ble_eq_true rfl) (Nat.le_of_ble_eq_true rfl)) (Nat.le_of_ble_eq_true rfl) rfl ?_
      refine g_iload_n O (pc := 37) dX8_cancel_37 0 rfl ?_
      obtain rfl := Option.some.inj hF
      exact g_ireturn O (pc := 38) dX8_cancel_38 rfl
    · rw [if_neg h6] at hF
      refine g_bipush O (pc := 23) dX8_cancel_23 bp_m3 ?_
      obtain rfl := Option.some.inj hF
      exact g_ireturn O (pc := 25) dX8_cancel_25 rfl
  · rw [if_pos h3] at hF
    refine g_iconst O (pc := 13) dX8_cancel_13 (ic_m1) ?_
    obtain rfl := Option.some.inj hF
    exact g_ireturn O (pc := 14) dX8_cancel_14 rfl

theorem mc_X8_cancel {x1 : Int32} {I : IS} (J : JS) {q : Int32 × IS} (hF : f_X8_cancel x1 I = some q) : MC yX8_cancel cX8_cancel 3 (some .int) (rm_ 5 114) SMod 36 [.ref (0), .int (x1)] I J (some (.int q.1), q.2, J) :=
  mc_of pn_X8 (Nat.le_of_ble_eq_true rfl) (fun z O => c_X8_cancel_e O _ _ _ hF)

def f_X8_cause_b17 (I : IS) : Option (Int32 × IS) :=
  some ((-1 : Int32), I)
set_option maxHeartbeats 4000000 in
set_option maxRecDepth 100000 in
theorem c_X8_cause_b17 {z : CTX} {J : JS} (O : OK z cX8_cause RX8 5 SMod 36 (rm_ 2 46) (some .int)) : ∀ (I : IS) (q : Int32 × IS), f_X8_cause_b17 I = some q → G z 17 [] [] I J (some (.int q.1), q.2, J) := by
  intro I q hF
  rw [f_X8_cause_b17] at hF
  refine g_iconst O (pc := 17) dX8_cause_17 (ic_m1) ?_
  obtain rfl := Option.some.inj hF
  exact g_ireturn O (pc := 18) dX8_cause_18 rfl

def f_X8_cause_b62 (x3 : Int32) (I : IS) : Option (Int32 × IS) :=
  some (x3, I)
set_option maxHeartbeats 4000000 in
set_option maxRecDepth 100000 in
theorem c_X8_cause_b62 {z : CTX} {J : JS} (O : OK z cX8_cause RX8 5 SMod 36 (rm_ 2 46) (some .int)) : ∀ (x3 : Int32) (I : IS) (q : Int32 × IS), f_X8_cause_b62 x3 I = some q → G z 62 [(3, .int (x3))] [] I J (some (.int q.1), q.2, J) := by
  intro x3 I q hF
  rw [f_X8_cause_b62] at hF
  refine g_iload_n O (pc := 62) dX8_cause_62 0 rfl ?_
  obtain rfl := Option.some.inj hF
  exact g_ireturn O (pc := 63) dX8_cause_63 rfl

def f_X8_cause_b39 : Nat → Int32 → Int32 → Int32 → IS → Option (Int32 × IS)
  | 0, _, _, _, _ => none
  | fu + 1, x2, x3, x4, I =>
    if x2 ≤ x4 then
    (f_X8_cause_b62 (x3) (I))
    else
    (if x3 < 0 then
    (f_X8_cause_b62 (x3) (I))
    else
    (if okI (x3) 32 = true then
    (f_X8_cause_b39 fu (x2) ((I (12) (x3).toNatClampNeg)) (x4 + (1 : Int32)) (I))
    else none))
set_option maxHeartbeats 4000000 in
set_option maxRecDepth 100000 in
theorem c_X8_cause_b39 {z : CTX} {J : JS} (O : OK z cX8_cause RX8 5 SMod 36 (rm_ 2 46) (some .int)) : ∀ (fu : Nat) (x2 : Int32) (x3 : Int32) (x4 : Int32) (I : IS) (q : Int32 × IS), f_X8_cause_b39 fu x2 x3 x4 I = some q → G z 39 [(0, .ref (0)), (2, .int (x2)), (3, .int (x3)), (4, .int (x4))] [] I J (some (.int q.1), q.2, J) := by
  intro fu
  induction fu with
  | zero =>
    intro x2 x3 x4 I q hF
    cases hF
  | succ fu ih =>
    intro x2 x3 x4 I q hF
    rw [f_X8_cause_b39] at hF
    refine g_iload O (pc := 39) dX8_cause_39 3 rfl ?_
    refine g_iload_n O (pc := 41) dX8_cause_41 1 rfl ?_
    refine g_icmp_ge O (pc := 42) 62 dX8_cause_42 (by decide) (fun h1 => ?_) (fun h1 => ?_)
    · rw [if_pos h1] at hF
      refine g_sub [2] (L' := [(3, .int (x3))]) rfl ?_
      exact c_X8_cause_b62 O _ _ _ hF
    · rw [if_neg h1] at hF
      refine g_iload_n O (pc := 45) dX8_cause_45 2 rfl ?_
      refine g_if_lt O (pc := 46) 62 dX8_cause_46 (by decide) (fun h2 => ?_) (fun h2 => ?_)
      · rw [if_pos h2] at hF
        refine g_sub [2] (L' := [(3, .int (x3))]) rfl ?_
        exact c_X8_cause_b62 O _ _ _ hF
      · rw [if_neg h2] at hF
        refine g_aload_n O (pc := 49) dX8_cause_49 0 rfl ?_
        refine g_getR O (pc := 50) isC_X8 dX8_cause_50 fw_X8_47 (by decide) fd_SMod_0_13 ?_
        refine g_iload_n O (pc := 53) dX8_cause_53 2 rfl ?_
        obtain ⟨h3, hF⟩ := gd hF
        refine g_il O (pc := 54) dX8_cause_54 ar_SMod_12 h3 ?_
        refine g_istore_n O (pc := 55) (L' := [(3, .int ((I (12) (x3).toNatClampNeg))), (0, .ref (0)), (2, .int (x2)), (4, .int (x4))]) dX8_cause_55 (by decide) rfl ?_
        refine g_iinc O (pc := 56) (v := x4 + (1 : Int32)) (L' := [(4, .int (x4 + (1 : Int32))), (3, .int ((I (12) (x3).toNatClampNeg))), (0, .ref (0)), (2, .int (x2))]) dX8_cause_56 3 rfl rfl (by decide) rfl ?_
        refine g_goto O (pc := 59) 39 dX8_cause_59 (by decide) ?_
        refine g_sub [2, 3, 1, 0] (L' := [(0, .ref (0)), (2, .int (x2)), (3, .int ((I (12) (x3).toNatClampNeg))), (4, .int (x4 + (1 : Int32)))]) rfl ?_
        exact ih _ _ _ _ _ hF

def f_X8_cause_b35 (x2 : Int32) (s0 : Int32) (I : IS) : Option (Int32 × IS) :=
  f_X8_cause_b39 LF (x2) (s0) ((0 : Int32)) (I)
set_option maxHeartbeats 4000000 in
set_option maxRecDepth 100000 in
theorem c_X8_cause_b35 {z : CTX} {J : JS} (O : OK z cX8_cause RX8 5 SMod 36 (rm_ 2 46) (some .int)) : ∀ (x2 : Int32) (s0 : Int32) (I : IS) (q : Int32 × IS), f_X8_cause_b35 x2 s0 I = some q → G z 35 [(0, .ref (0)), (2, .int (x2))] [.int (s0)] I J (some (.int q.1), q.2, J) := by
  intro x2 s0 I q hF
  rw [f_X8_cause_b35] at hF
  refine g_istore_n O (pc := 35) (L' := [(3, .int (s0)), (0, .ref (0)), (2, .int (x2))]) dX8_cause_35 (by decide) rfl ?_
  refine g_iconst O (pc := 36) dX8_cause_36 (ic_0) ?_
  refine g_istore O (pc := 37) (L' := [(4, .int ((0 : Int32))), (3, .int (s0)), (0, .ref (0)), (2, .int (x2))]) dX8_cause_37 (by decide) rfl ?_
  refine g_sub [2, 3, 1, 0] (L' := [(0, .ref (0)), (2, .int (x2)), (3, .int (s0)), (4, .int ((0 : Int32)))]) rfl ?_
  exact c_X8_cause_b39 O _ _ _ _ _ _ hF

def f_X8_cause (x1 : Int32) (x2 : Int32) (I : IS) : Option (Int32 × IS) :=
  (f_X8_isTask (x1) (u2 I (0) 29 ((0 : Int32)))).bind fun q1 =>
  (if q1 = 0 then
  (f_X8_cause_b17 ((u2 I (0) 29 ((0 : Int32)))))
  else
  (if 0 ≤ x2 then
  (if okI (x1) 32 = true then
  (if ((u2 I (0) 29 ((0 : Int32))) (6) (x1).toNatClampNeg) = (4 : Int32) then
  (f_X8_cause_b35 (x2) (x1) ((u2 I (0) 29 ((0 : Int32)))))
  else
  (f_X8_cause_b35 (x2) ((-5 : Int32)) ((u2 I (0) 29 ((0 : Int32))))))
  else none)
  else
  (f_X8_cause_b17 ((u2 I (0) 29 ((0 : Int32)))))))
set_option maxHeartbeats 4000000 in
set_option maxRecDepth 100000 in
theorem c_X8_cause_e {z : CTX} {J : JS} (O : OK z cX8_cause RX8 5 SMod 36 (rm_ 2 46) (some .int)) : ∀ (x1 : Int32) (x2 : Int32) (I : IS) (q : Int32 × IS), f_X8_cause x1 x2 I = some q → G z 0 [(0, .ref (0)), (1, .int (x1)), (2, .int (x2))] [] I J (some (.int q.1), q.2, J) := by
  intro x1 x2 I q hF
  rw [f_X8_cause] at hF
  refine g_aload_n O (pc := 0) dX8_cause_0 0 rfl ?_
  refine g_iconst O (pc := 1) dX8_cause_1 (ic_0) ?_
  refine g_putI O (pc := 2) isC_X8 isT_X8 dX8_cause_2 fw_X8_124 (by decide) rfl rfl fd_SMod_0_29 ?_
  refine g_aload_n O (pc := 5) dX8_cause_5 0 rfl ?_
  refine g_iload_n O (pc := 6) dX8_cause_6 1 rfl ?_
  obtain ⟨q1, e2, hF⟩ := bnd hF
  refine g_Vi O (pc := 7) (st := []) dX8_cause_7 (mc_X8_isTask J e2) cb_X8_isTask ml_X8_290 isC_X8 ob_SMod (zm0 _ _ _ _ _ _ _) (rmok (Nat.le_of_ble_eq_true rfl) (Nat.le_of_ble_eq_true rfl)) (Nat.le_of_ble_eq_true rfl) rfl ?_
  refine g_if_eq O (pc := 10) 17 dX8_cause_10 (by decide) (fun h3 => ?_) (fun h3 => ?_)
  · rw [if_pos h3] at hF
    refine g_sub [] (L' := []) rfl ?_
    exact c_X8_cause_b17 O _ _ hF
  · rw [if_neg h3] at hF
    refine g_iload_n O (pc := 13) dX8_cause_13 2 rfl ?_
    refine g_if_ge O (pc := 14) 19 dX8_cause_14 (by decide) (fun h4 => ?_) (fun h4 => ?_)
    · rw [if_pos h4] at hF
      refine g_aload_n O (pc := 19) dX8_cause_19 0 rfl ?_
      refine g_getR O (pc := 20) isC_X8 dX8_cause_20 fw_X8_29 (by decide) fd_SMod_0_7 ?_
      refine g_iload_n O (pc := 23) dX8_cause_23 1 rfl ?_
      obtain ⟨h5, hF⟩ := gd hF
      refine g_il O (pc := 24) dX8_cause_24 ar_SMod_6 h5 ?_
      refine g_iconst O (pc := 25) dX8_cause_25 (ic_4) ?_
      refine g_icmp_ne O (pc := 26) 33 dX8_cause_26 (by decide) (fun h6 => ?_) (fun h6 => ?_)
      · rw [if_neg h6] at hF
        refine g_bipush O (pc := 33) dX8_cause_33 bp_m5 ?_
        refine g_sub [0, 2] (L' := [(0, .ref (0)), (2, .int (x2))]) rfl ?_
        exact c_X8_cause_b35 O _ _ _ _ hF
      · rw [if_pos h6] at hF
        refine g_iload_n O (pc := 29) dX8_cause_29 1 rfl ?_
        refine g_goto O (pc := 30) 35 dX8_cause_30 (by decide) ?_
        refine g_sub [0, 2] (L' := [(0, .ref (0)), (2, .int (x2))]) rfl ?_
        exact c_X8_cause_b35 O _ _ _ _ hF
    · rw [if_neg h4] at hF
      refine g_sub [] (L' := []) rfl ?_
      exact c_X8_cause_b17 O _ _ hF

theorem mc_X8_cause {x1 : Int32} {x2 : Int32} {I : IS} (J : JS) {q : Int32 × IS} (hF : f_X8_cause x1 x2 I = some q) : MC yX8_cause cX8_cause 5 (some .int) (rm_ 2 46) SMod 36 [.ref (0), .int (x1), .int (x2)] I J (some (.int q.1), q.2, J) :=
  mc_of pn_X8 (Nat.le_of_ble_eq_true rfl) (fun z O => c_X8_cause_e O _ _ _ _ hF)

def f_X8_endedMany_b26 (k4 : Int32 → Int32 → IS → Option (Int32)) (x2 : Int32) (s0 : Int32) (s1 : Int32) (I : IS) : Option (Int32) :=
  k4 ((s0 + s1)) (x2 + (1 : Int32)) (I)
set_option maxHeartbeats 4000000 in
set_option maxRecDepth 100000 in
theorem c_X8_endedMany_b26 {z : CTX} {J : JS} (O : OK z cX8_endedMany RX8 3 SMod 36 (rm_ 1 21) (some .int)) {k4 : Int32 → Int32 → IS → Option (Int32)} (hk4 : ∀ (x1 : Int32) (x2 : Int32) (I : IS) (q : Int32), k4 x1 x2 I = some q → G z 4 [(0, .ref (0)), (1, .int (x1)), (2, .int (x2))] [] I J (some (.int q), I, J)) : ∀ (x2 : Int32) (s0 : Int32) (s1 : Int32) (I : IS) (q : Int32), f_X8_endedMany_b26 k4 x2 s0 s1 I = some q → G z 26 [(0, .ref (0)), (2, .int (x2))] [.int (s1), .int (s0)] I J (some (.int q), I, J) := by
  intro x2 s0 s1 I q hF
  rw [f_X8_endedMany_b26] at hF
  refine g_iadd O (pc := 26) dX8_endedMany_26 ?_
  refine g_istore_n O (pc := 27) (L' := [(1, .int ((s0 + s1))), (0, .ref (0)), (2, .int (x2))]) dX8_endedMany_27 (by decide) rfl ?_
  refine g_iinc O (pc := 28) (v := x2 + (1 : Int32)) (L' := [(2, .int (x2 + (1 : Int32))), (1, .int ((s0 + s1))), (0, .ref (0))]) dX8_endedMany_28 2 rfl rfl (by decide) rfl ?_
  refine g_goto O (pc := 31) 4 dX8_endedMany_31 (by decide) ?_
  refine g_sub [2, 1, 0] (L' := [(0, .ref (0)), (1, .int ((s0 + s1))), (2, .int (x2 + (1 : Int32)))]) rfl ?_
  exact hk4 _ _ _ _ hF

def f_X8_endedMany_b4 : Nat → Int32 → Int32 → IS → Option (Int32)
  | 0, _, _, _ => none
  | fu + 1, x1, x2, I =>
    if (I (0) 6) ≤ x2 then
    (some (x1))
    else
    ((f_X8_isEnded (x2) I).bind fun q2 =>
    (if q2 = 0 then
    (f_X8_endedMany_b26 (f_X8_endedMany_b4 fu) (x2) (x1) ((0 : Int32)) (I))
    else
    (f_X8_endedMany_b26 (f_X8_endedMany_b4 fu) (x2) (x1) ((1 : Int32)) (I))))
set_option maxHeartbeats 4000000 in
set_option maxRecDepth 100000 in
theorem c_X8_endedMany_b4 {z : CTX} {J : JS} (O : OK z cX8_endedMany RX8 3 SMod 36 (rm_ 1 21) (some .int)) : ∀ (fu : Nat) (x1 : Int32) (x2 : Int32) (I : IS) (q : Int32), f_X8_endedMany_b4 fu x1 x2 I = some q → G z 4 [(0, .ref (0)), (1, .int (x1)), (2, .int (x2))] [] I J (some (.int q), I, J) := by
  intro fu
  induction fu with
  | zero =>
    intro x1 x2 I q hF
    cases hF
  | succ fu ih =>
    intro x1 x2 I q hF
    rw [f_X8_endedMany_b4] at hF
    refine g_iload_n O (pc := 4) dX8_endedMany_4 2 rfl ?_
    refine g_aload_n O (pc := 5) dX8_endedMany_5 0 rfl ?_
    refine g_getI O (pc := 6) isC_X8 dX8_endedMany_6 fw_X8_127 (by decide) fd_SMod_0_6 ?_
    refine g_icmp_ge O (pc := 9) 34 dX8_endedMany_9 (by decide) (fun h1 => ?_) (fun h1 => ?_)
    · rw [if_pos h1] at hF
      refine g_iload_n O (pc := 34) dX8_endedMany_34 1 rfl ?_
      obtain rfl := Option.some.inj hF
      exact g_ireturn O (pc := 35) dX8_endedMany_35 rfl
    · rw [if_neg h1] at hF
      refine g_iload_n O (pc := 12) dX8_endedMany_12 1 rfl ?_
      refine g_aload_n O (pc := 13) dX8_endedMany_13 0 rfl ?_
      refine g_iload_n O (pc := 14) dX8_endedMany_14 2 rfl ?_
      obtain ⟨q2, e3, hF⟩ := bnd hF
      refine g_Vi O (pc := 15) (st := [.int (x1)]) dX8_endedMany_15 (mc_X8_isEnded J e3) cb_X8_isEnded ml_X8_183 isC_X8 ob_SMod (zm0 _ _ _ _ _ _ _) (rmok (Nat.le_of_ble_eq_true rfl) (Nat.le_of_ble_eq_true rfl)) (Nat.le_of_ble_eq_true rfl) rfl ?_
      refine g_if_eq O (pc := 18) 25 dX8_endedMany_18 (by decide) (fun h4 => ?_) (fun h4 => ?_)
      · rw [if_pos h4] at hF
        refine g_iconst O (pc := 25) dX8_endedMany_25 (ic_0) ?_
        refine g_sub [0, 2] (L' := [(0, .ref (0)), (2, .int (x2))]) rfl ?_
        exact c_X8_endedMany_b26 O ih _ _ _ _ _ hF
      · rw [if_neg h4] at hF
        refine g_iconst O (pc := 21) dX8_endedMany_21 (ic_1) ?_
        refine g_goto O (pc := 22) 26 dX8_endedMany_22 (by decide) ?_
        refine g_sub [0, 2] (L' := [(0, .ref (0)), (2, .int (x2))]) rfl ?_
        exact c_X8_endedMany_b26 O ih _ _ _ _ _ hF

def f_X8_endedMany (I : IS) : Option (Int32) :=
  f_X8_endedMany_b4 LF ((0 : Int32)) ((0 : Int32)) (I)
set_option maxHeartbeats 4000000 in
set_option maxRecDepth 100000 in
theorem c_X8_endedMany_e {z : CTX} {J : JS} (O : OK z cX8_endedMany RX8 3 SMod 36 (rm_ 1 21) (some .int)) : ∀ (I : IS) (q : Int32), f_X8_endedMany I = some q → G z 0 [(0, .ref (0))] [] I J (some (.int q), I, J) := by
  intro I q hF
  rw [f_X8_endedMany] at hF
  refine g_iconst O (pc := 0) dX8_endedMany_0 (ic_0) ?_
  refine g_istore_n O (pc := 1) (L' := [(1, .int ((0 : Int32))), (0, .ref (0))]) dX8_endedMany_1 (by decide) rfl ?_
  refine g_iconst O (pc := 2) dX8_endedMany_2 (ic_0) ?_
  refine g_istore_n O (pc := 3) (L' := [(2, .int ((0 : Int32))), (1, .int ((0 : Int32))), (0, .ref (0))]) dX8_endedMany_3 (by decide) rfl ?_
  refine g_sub [2, 1, 0] (L' := [(0, .ref (0)), (1, .int ((0 : Int32))), (2, .int ((0 : Int32)))]) rfl ?_
  exact c_X8_endedMany_b4 O _ _ _ _ _ hF

theorem mc_X8_endedMany {I : IS} (J : JS) {q : Int32} (hF : f_X8_endedMany I = some q) : MC yX8_endedMany cX8_endedMany 3 (some .int) (rm_ 1 21) SMod 36 [.ref (0)] I J (some (.int q), I, J) :=
  mc_of pn_X8 (Nat.le_of_ble_eq_true rfl) (fun z O => c_X8_endedMany_e O _ _ hF)

def f_X8_count (x1 : Int32) (I : IS) : Option (Int32 × IS) :=
  if x1 = 0 then
  (some (((u2 I (0) 29 ((0 : Int32))) (0) 6), (u2 I (0) 29 ((0 : Int32)))))
  else if x1 = 1 then
  ((f_X8_endedMany (u2 I (0) 29 ((0 : Int32)))).bind fun q3 =>
  (some (q3, (u2 I (0) 29 ((0 : Int32))))))
  else if x1 = 2 then
  (some (((u2 I (0) 29 ((0 : Int32))) (0) 18), (u2 I (0) 29 ((0 : Int32)))))
  else if x1 = 3 then
  (some (((u2 I (0) 29 ((0 : Int32))) (0) 21), (u2 I (0) 29 ((0 : Int32)))))
  else if x1 = 4 then
  (some (((u2 I (0) 29 ((0 : Int32))) (0) 24), (u2 I (0) 29 ((0 : Int32)))))
  else if x1 = 5 then
  (some (((u2 I (0) 29 ((0 : Int32))) (0) 38), (u2 I (0) 29 ((0 : Int32)))))
  else (some ((-2 : Int32), (u2 I (0) 29 ((0 : Int32)))))
set_option maxHeartbeats 4000000 in
set_option maxRecDepth 100000 in
theorem c_X8_count_e {z : CTX} {J : JS} (O : OK z cX8_count RX8 2 SMod 36 (rm_ 2 43) (some .int)) : ∀ (x1 : Int32) (I : IS) (q : Int32 × IS), f_X8_count x1 I = some q → G z 0 [(0, .ref (0)), (1, .int (x1))] [] I J (some (.int q.1), q.2, J) := by
  intro x1 I q hF
  rw [f_X8_count] at hF
  refine g_aload_n O (pc := 0) dX8_count_0 0 rfl ?_
  refine g_iconst O (pc := 1) dX8_count_1 (ic_0) ?_
  refine g_putI O (pc := 2) isC_X8 isT_X8 dX8_count_2 fw_X8_124 (by decide) rfl rfl fd_SMod_0_29 ?_
  refine g_iload_n O (pc := 5) dX8_count_5 1 rfl ?_
  by_cases h1 : x1 = 0
  · rw [if_pos h1] at hF
    refine g_tabIn O (pc := 6) (38) 44 dX8_count_6 h1 (by decide) (by decide) rfl (by decide) ?_
    refine g_aload_n O (pc := 44) dX8_count_44 0 rfl ?_
    refine g_getI O (pc := 45) isC_X8 dX8_count_45 fw_X8_127 (by decide) fd_SMod_0_6 ?_
    obtain rfl := Option.some.inj hF
    exact g_ireturn O (pc := 48) dX8_count_48 rfl
  rw [if_neg h1] at hF
  by_cases h2 : x1 = 1
  · rw [if_pos h2] at hF
    refine g_tabIn O (pc := 6) (43) 49 dX8_count_6 h2 (by decide) (by decide) rfl (by decide) ?_
    refine g_aload_n O (pc := 49) dX8_count_49 0 rfl ?_
    obtain ⟨q3, e4, hF⟩ := bnd hF
    refine g_Vi O (pc := 50) (st := []) dX8_count_50 (mc_X8_endedMany J e4) cb_X8_endedMany ml_X8_330 isC_X8 ob_SMod (zm0 _ _ _ _ _ _ _) (rmok (Nat.le_of_ble_eq_true rfl) (Nat.le_of_ble_eq_true rfl)) (Nat.le_of_ble_eq_true rfl) rfl ?_
    obtain rfl := Option.some.inj hF
    exact g_ireturn O (pc := 53) dX8_count_53 rfl
  rw [if_neg h2] at hF
  by_cases h5 : x1 = 2
  · rw [if_pos h5] at hF
    refine g_tabIn O (pc := 6) (48) 54 dX8_count_6 h5 (by decide) (by decide) rfl (by decide) ?_
    refine g_aload_n O (pc := 54) dX8_count_54 0 rfl ?_
    refine g_getI O (pc := 55) isC_X8 dX8_count_55 fw_X8_144 (by decide) fd_SMod_0_18 ?_
    obtain rfl := Option.some.inj hF
    exact g_ireturn O (pc := 58) dX8_count_58 rfl
  rw [if_neg h5] at hF
  by_cases h6 : x1 = 3
  · rw [if_pos h6] at hF
    refine g_tabIn O (pc := 6) (53) 59 dX8_count_6 h6 (by decide) (by decide) rfl (by decide) ?_
    refine g_aload_n O (pc := 59) dX8_count_59 0 rfl ?_
    refine g_getI O (pc := 60) isC_X8 dX8_count_60 fw_X8_151 (by decide) fd_SMod_0_21 ?_
    obtain rfl := Option.some.inj hF
    exact g_ireturn O (pc := 63) dX8_count_63 rfl
  rw [if_neg h6] at hF
  by_cases h7 : x1 = 4
  · rw [if_pos h7] at hF
    refine g_tabIn O (pc := 6) (58) 64 dX8_count_6 h7 (by decide) (by decide) rfl (by decide) ?_
    refine g_aload_n O (pc := 64) dX8_count_64 0 rfl ?_
    refine g_getI O (pc := 65) isC_X8 dX8_count_65 fw_X8_154 (by decide) fd_SMod_0_24 ?_
    obtain rfl := Option.some.inj hF
    exact g_ireturn O (pc := 68) dX8_count_68 rfl
  rw [if_neg h7] at hF
  by_cases h8 : x1 = 5
  · rw [if_pos h8] at hF
    refine g_tabIn O (pc := 6) (63) 69 dX8_count_6 h8 (by decide) (by decide) rfl (by decide) ?_
    refine g_aload_n O (pc := 69) dX8_count_69 0 rfl ?_
    refine g_getI O (pc := 70) isC_X8 dX8_count_70 fw_X8_243 (by decide) fd_SMod_0_38 ?_
    obtain rfl := Option.some.inj hF
    exact g_ireturn O (pc := 73) dX8_count_73 rfl
  rw [if_neg h8] at hF
  have ih1 : ¬ (x1).toInt = 0 := fun q => h1 (Int32.toInt_inj.mp q)
  have ih2 : ¬ (x1).toInt = 1 := fun q => h2 (Int32.toInt_inj.mp q)
  have ih5 : ¬ (x1).toInt = 2 := fun q => h5 (Int32.toInt_inj.mp q)
  have ih6 : ¬ (x1).toInt = 3 := fun q => h6 (Int32.toInt_inj.mp q)
  have ih7 : ¬ (x1).toInt = 4 := fun q => h7 (Int32.toInt_inj.mp q)
  have ih8 : ¬ (x1).toInt = 5 := fun q => h8 (Int32.toInt_inj.mp q)
  refine g_tabOut O (pc := 6) 74 dX8_count_6 (by omega) (by decide) ?_
  refine g_bipush O (pc := 74) dX8_count_74 bp_m2 ?_
  obtain rfl := Option.some.inj hF
  exact g_ireturn O (pc := 76) dX8_count_76 rfl

theorem mc_X8_count {x1 : Int32} {I : IS} (J : JS) {q : Int32 × IS} (hF : f_X8_count x1 I = some q) : MC yX8_count cX8_count 2 (some .int) (rm_ 2 43) SMod 36 [.ref (0), .int (x1)] I J (some (.int q.1), q.2, J) :=
  mc_of pn_X8 (Nat.le_of_ble_eq_true rfl) (fun z O => c_X8_count_e O _ _ _ hF)

def f_X8_depthOf_b9 : Nat → Int32 → Int32 → IS → Option (Int32)
  | 0, _, _, _ => none
  | fu + 1, x2, x3, I =>
    if x3 < 0 then
    (some (x2))
    else
    (if okI (x3) 32 = true then
    (f_X8_depthOf_b9 fu (x2 + (1 : Int32)) ((I (10) (x3).toNatClampNeg)) (I))
    else none)
set_option maxHeartbeats 4000000 in
set_option maxRecDepth 100000 in
theorem c_X8_depthOf_b9 {z : CTX} {J : JS} (O : OK z cX8_depthOf RX8 4 SMod 36 (rm_ 0 0) (some .int)) : ∀ (fu : Nat) (x2 : Int32) (x3 : Int32) (I : IS) (q : Int32), f_X8_depthOf_b9 fu x2 x3 I = some q → G z 9 [(0, .ref (0)), (2, .int (x2)), (3, .int (x3))] [] I J (some (.int q), I, J) := by
  intro fu
  induction fu with
  | zero =>
    intro x2 x3 I q hF
    cases hF
  | succ fu ih =>
    intro x2 x3 I q hF
    rw [f_X8_depthOf_b9] at hF
    refine g_iload_n O (pc := 9) dX8_depthOf_9 2 rfl ?_
    refine g_if_lt O (pc := 10) 26 dX8_depthOf_10 (by decide) (fun h1 => ?_) (fun h1 => ?_)
    · rw [if_pos h1] at hF
      refine g_iload_n O (pc := 26) dX8_depthOf_26 1 rfl ?_
      obtain rfl := Option.some.inj hF
      exact g_ireturn O (pc := 27) dX8_depthOf_27 rfl
    · rw [if_neg h1] at hF
      refine g_iinc O (pc := 13) (v := x2 + (1 : Int32)) (L' := [(2, .int (x2 + (1 : Int32))), (0, .ref (0)), (3, .int (x3))]) dX8_depthOf_13 1 rfl rfl (by decide) rfl ?_
      refine g_aload_n O (pc := 16) dX8_depthOf_16 1 rfl ?_
      refine g_getR O (pc := 17) isC_X8 dX8_depthOf_17 fw_X8_41 (by decide) fd_SMod_0_11 ?_
      refine g_iload_n O (pc := 20) dX8_depthOf_20 2 rfl ?_
      obtain ⟨h2, hF⟩ := gd hF
      refine g_il O (pc := 21) dX8_depthOf_21 ar_SMod_10 h2 ?_
      refine g_istore_n O (pc := 22) (L' := [(3, .int ((I (10) (x3).toNatClampNeg))), (2, .int (x2 + (1 : Int32))), (0, .ref (0))]) dX8_depthOf_22 (by decide) rfl ?_
      refine g_goto O (pc := 23) 9 dX8_depthOf_23 (by decide) ?_
      refine g_sub [2, 1, 0] (L' := [(0, .ref (0)), (2, .int (x2 + (1 : Int32))), (3, .int ((I (10) (x3).toNatClampNeg)))]) rfl ?_
      exact ih _ _ _ _ hF

def f_X8_depthOf (x1 : Int32) (I : IS) : Option (Int32) :=
  if okI (x1) 32 = true then
  (f_X8_depthOf_b9 LF ((0 : Int32)) ((I (10) (x1).toNatClampNeg)) (I))
  else none
set_option maxHeartbeats 4000000 in
set_option maxRecDepth 100000 in
theorem c_X8_depthOf_e {z : CTX} {J : JS} (O : OK z cX8_depthOf RX8 4 SMod 36 (rm_ 0 0) (some .int)) : ∀ (x1 : Int32) (I : IS) (q : Int32), f_X8_depthOf x1 I = some q → G z 0 [(0, .ref (0)), (1, .int (x1))] [] I J (some (.int q), I, J) := by
  intro x1 I q hF
  rw [f_X8_depthOf] at hF
  refine g_iconst O (pc := 0) dX8_depthOf_0 (ic_0) ?_
  refine g_istore_n O (pc := 1) (L' := [(2, .int ((0 : Int32))), (0, .ref (0)), (1, .int (x1))]) dX8_depthOf_1 (by decide) rfl ?_
  refine g_aload_n O (pc := 2) dX8_depthOf_2 1 rfl ?_
  refine g_getR O (pc := 3) isC_X8 dX8_depthOf_3 fw_X8_41 (by decide) fd_SMod_0_11 ?_
  refine g_iload_n O (pc := 6) dX8_depthOf_6 2 rfl ?_
  obtain ⟨h1, hF⟩ := gd hF
  refine g_il O (pc := 7) dX8_depthOf_7 ar_SMod_10 h1 ?_
  refine g_istore_n O (pc := 8) (L' := [(3, .int ((I (10) (x1).toNatClampNeg))), (2, .int ((0 : Int32))), (0, .ref (0)), (1, .int (x1))]) dX8_depthOf_8 (by decide) rfl ?_
  refine g_sub [2, 1, 0] (L' := [(0, .ref (0)), (2, .int ((0 : Int32))), (3, .int ((I (10) (x1).toNatClampNeg)))]) rfl ?_
  exact c_X8_depthOf_b9 O _ _ _ _ _ hF

theorem mc_X8_depthOf {x1 : Int32} {I : IS} (J : JS) {q : Int32} (hF : f_X8_depthOf x1 I = some q) : MC yX8_depthOf cX8_depthOf 4 (some .int) (rm_ 0 0) SMod 36 [.ref (0), .int (x1)] I J (some (.int q), I, J) :=
  mc_of pn_X8 (Nat.le_of_ble_eq_true rfl) (fun z O => c_X8_depthOf_e O _ _ _ hF)

def f_X8_divisor_b6 : Nat → Int64 → Int64 → Option (Int64)
  | 0, _, _ => none
  | fu + 1, w4, w6 =>
    if (lg_cmp w6 (0 : Int64)) = 0 then
    (some (w4))
    else
    (if okDL (w6) = true then
    (f_X8_divisor_b6 fu (w6) ((w4 - w4 / w6 * w6)))
    else none)
set_option maxHeartbeats 4000000 in
set_option maxRecDepth 100000 in
theorem c_X8_divisor_b6 {z : CTX} {I : IS} {J : JS} (O : OK z cX8_divisor RX8 10 SArm 0 (rm_ 0 0) (some .long)) : ∀ (fu : Nat) (w4 : Int64) (w6 : Int64) (q : Int64), f_X8_divisor_b6 fu w4 w6 = some q → G z 6 [(4, .long (w4)), (6, .long (w6))] [] I J (some (.long q), I, J) := by
  intro fu
  induction fu with
  | zero =>
    intro w4 w6 q hF
    cases hF
  | succ fu ih =>
    intro w4 w6 q hF
    rw [f_X8_divisor_b6] at hF
    refine g_lload O (pc := 6) dX8_divisor_6 1 rfl ?_
    refine g_lconst O (pc := 8) dX8_divisor_8 lc_0 ?_
    refine g_lcmp O (pc := 9) dX8_divisor_9 ?_
    refine g_if_eq O (pc := 10) 31 dX8_divisor_10 (by decide) (fun h1 => ?_) (fun h1 => ?_)
    · rw [if_pos h1] at hF
      refine g_lload O (pc := 31) dX8_divisor_31 0 rfl ?_
      obtain rfl := Option.some.inj hF
      exact g_lreturn O (pc := 33) dX8_divisor_33 rfl
    · rw [if_neg h1] at hF
      refine g_lload O (pc := 13) dX8_divisor_13 0 rfl ?_
      refine g_lload O (pc := 15) dX8_divisor_15 1 rfl ?_
      obtain ⟨h2, hF⟩ := gd hF
      refine g_lrem O (pc := 17) dX8_divisor_17 (okDL_n h2) ?_
      refine g_lstore O (pc := 18) (L' := [(8, .long ((w4 - w4 / w6 * w6))), (4, .long (w4)), (6, .long (w6))]) dX8_divisor_18 (by decide) rfl ?_
      refine g_lload O (pc := 20) dX8_divisor_20 2 rfl ?_
      refine g_lstore O (pc := 22) (L' := [(4, .long (w6)), (8, .long ((w4 - w4 / w6 * w6))), (6, .long (w6))]) dX8_divisor_22 (by decide) rfl ?_
      refine g_lload O (pc := 24) dX8_divisor_24 1 rfl ?_
      refine g_lstore O (pc := 26) (L' := [(6, .long ((w4 - w4 / w6 * w6))), (4, .long (w6)), (8, .long ((w4 - w4 / w6 * w6)))]) dX8_divisor_26 (by decide) rfl ?_
      refine g_goto O (pc := 28) 6 dX8_divisor_28 (by decide) ?_
      refine g_sub [1, 0] (L' := [(4, .long (w6)), (6, .long ((w4 - w4 / w6 * w6)))]) rfl ?_
      exact ih _ _ _ hF

def f_X8_divisor (w0 : Int64) (w2 : Int64) : Option (Int64) :=
  f_X8_divisor_b6 LF (w0) (w2)
set_option maxHeartbeats 4000000 in
set_option maxRecDepth 100000 in
theorem c_X8_divisor_e {z : CTX} {I : IS} {J : JS} (O : OK z cX8_divisor RX8 10 SArm 0 (rm_ 0 0) (some .long)) : ∀ (w0 : Int64) (w2 : Int64) (q : Int64), f_X8_divisor w0 w2 = some q → G z 0 [(0, .long (w0)), (2, .long (w2))] [] I J (some (.long q), I, J) := by
  intro w0 w2 q hF
  rw [f_X8_divisor] at hF
  refine g_lload_n O (pc := 0) dX8_divisor_0 0 rfl ?_
  refine g_lstore O (pc := 1) (L' := [(4, .long (w0)), (0, .long (w0)), (2, .long (w2))]) dX8_divisor_1 (by decide) rfl ?_
  refine g_lload_n O (pc := 3) dX8_divisor_3 2 rfl ?_
  refine g_lstore O (pc := 4) (L' := [(6, .long (w2)), (4, .long (w0)), (0, .long (w0)), (2, .long (w2))]) dX8_divisor_4 (by decide) rfl ?_
  refine g_sub [1, 0] (L' := [(4, .long (w0)), (6, .long (w2))]) rfl ?_
  exact c_X8_divisor_b6 O _ _ _ _ hF

theorem mc_X8_divisor {w0 : Int64} {w2 : Int64} (I : IS) (J : JS) {q : Int64} (hF : f_X8_divisor w0 w2 = some q) : MC yX8_divisor cX8_divisor 10 (some .long) (rm_ 0 0) SArm 0 [.long (w0), .long (w2)] I J (some (.long q), I, J) :=
  mc_of pn_X8 (Nat.le_of_ble_eq_true rfl) (fun z O => c_X8_divisor_e O _ _ _ hF)

def f_X8_doneMany_b28 (k4 : Int32 → Int32 → IS → Option (Int32)) (x2 : Int32) (s0 : Int32) (s1 : Int32) (I : IS) : Option (Int32) :=
  k4 ((s0 + s1)) (x2 + (1 : Int32)) (I)
set_option maxHeartbeats 4000000 in
set_option maxRecDepth 100000 in
theorem c_X8_doneMany_b28 {z : CTX} {J : JS} (O : OK z cX8_doneMany RX8 3 SMod 36 (rm_ 0 0) (some .int)) {k4 : Int32 → Int32 → IS → Option (Int32)} (hk4 : ∀ (x1 : Int32) (x2 : Int32) (I : IS) (q : Int32), k4 x1 x2 I = some q → G z 4 [(0, .ref (0)), (1, .int (x1)), (2, .int (x2))] [] I J (some (.int q), I, J)) : ∀ (x2 : Int32) (s0 : Int32) (s1 : Int32) (I : IS) (q : Int32), f_X8_doneMany_b28 k4 x2 s0 s1 I = some q → G z 28 [(0, .ref (0)), (2, .int (x2))] [.int (s1), .int (s0)] I J (some (.int q), I, J) := by
  intro x2 s0 s1 I q hF
  rw [f_X8_doneMany_b28] at hF
  refine g_iadd O (pc := 28) dX8_doneMany_28 ?_
  refine g_istore_n O (pc := 29) (L' := [(1, .int ((s0 + s1))), (0, .ref (0)), (2, .int (x2))]) dX8_doneMany_29 (by decide) rfl ?_
  refine g_iinc O (pc := 30) (v := x2 + (1 : Int32)) (L' := [(2, .int (x2 + (1 : Int32))), (1, .int ((s0 + s1))), (0, .ref (0))]) dX8_doneMany_30 2 rfl rfl (by decide) rfl ?_
  refine g_goto O (pc := 33) 4 dX8_doneMany_33 (by decide) ?_
  refine g_sub [2, 1, 0] (L' := [(0, .ref (0)), (1, .int ((s0 + s1))), (2, .int (x2 + (1 : Int32)))]) rfl ?_
  exact hk4 _ _ _ _ hF

def f_X8_doneMany_b4 : Nat → Int32 → Int32 → IS → Option (Int32)
  | 0, _, _, _ => none
  | fu + 1, x1, x2, I =>
    if (I (0) 6) ≤ x2 then
    (some (x1))
    else
    (if okI (x2) 32 = true then
    (if (I (6) (x2).toNatClampNeg) = (3 : Int32) then
    (f_X8_doneMany_b28 (f_X8_doneMany_b4 fu) (x2) (x1) ((1 : Int32)) (I))
    else
    (f_X8_doneMany_b28 (f_X8_doneMany_b4 fu) (x2) (x1) ((0 : Int32)) (I)))
    else none)
set_option maxHeartbeats 4000000 in
set_option maxRecDepth 100000 in
theorem c_X8_doneMany_b4 {z : CTX} {J : JS} (O : OK z cX8_doneMany RX8 3 SMod 36 (rm_ 0 0) (some .int)) : ∀ (fu : Nat) (x1 : Int32) (x2 : Int32) (I : IS) (q : Int32), f_X8_doneMany_b4 fu x1 x2 I = some q → G z 4 [(0, .ref (0)), (1, .int (x1)), (2, .int (x2))] [] I J (some (.int q), I, J) := by
  intro fu
  induction fu with
  | zero =>
    intro x1 x2 I q hF
    cases hF
  | succ fu ih =>
    intro x1 x2 I q hF
    rw [f_X8_doneMany_b4] at hF
    refine g_iload_n O (pc := 4) dX8_doneMany_4 2 rfl ?_
    refine g_aload_n O (pc := 5) dX8_doneMany_5 0 rfl ?_
    refine g_getI O (pc := 6) isC_X8 dX8_doneMany_6 fw_X8_127 (by decide) fd_SMod_0_6 ?_
    refine g_icmp_ge O (pc := 9) 36 dX8_doneMany_9 (by decide) (fun h1 => ?_) (fun h1 => ?_)
    · rw [if_pos h1] at hF
      refine g_iload_n O (pc := 36) dX8_doneMany_36 1 rfl ?_
      obtain rfl := Option.some.inj hF
      exact g_ireturn O (pc := 37) dX8_doneMany_37 rfl
    · rw [if_neg h1] at hF
      refine g_iload_n O (pc := 12) dX8_doneMany_12 1 rfl ?_
      refine g_aload_n O (pc := 13) dX8_doneMany_13 0 rfl ?_
      refine g_getR O (pc := 14) isC_X8 dX8_doneMany_14 fw_X8_29 (by decide) fd_SMod_0_7 ?_
      refine g_iload_n O (pc := 17) dX8_doneMany_17 2 rfl ?_
      obtain ⟨h2, hF⟩ := gd hF
      refine g_il O (pc := 18) dX8_doneMany_18 ar_SMod_6 h2 ?_
      refine g_iconst O (pc := 19) dX8_doneMany_19 (ic_3) ?_
      refine g_icmp_ne O (pc := 20) 27 dX8_doneMany_20 (by decide) (fun h3 => ?_) (fun h3 => ?_)
      · rw [if_neg h3] at hF
        refine g_iconst O (pc := 27) dX8_doneMany_27 (ic_0) ?_
        refine g_sub [0, 2] (L' := [(0, .ref (0)), (2, .int (x2))]) rfl ?_
        exact c_X8_doneMany_b28 O ih _ _ _ _ _ hF
      · rw [if_pos h3] at hF
        refine g_iconst O (pc := 23) dX8_doneMany_23 (ic_1) ?_
        refine g_goto O (pc := 24) 28 dX8_doneMany_24 (by decide) ?_
        refine g_sub [0, 2] (L' := [(0, .ref (0)), (2, .int (x2))]) rfl ?_
        exact c_X8_doneMany_b28 O ih _ _ _ _ _ hF

def f_X8_doneMany (I : IS) : Option (Int32) :=
  f_X8_doneMany_b4 LF ((0 : Int32)) ((0 : Int32)) (I)
set_option maxHeartbeats 4000000 in
set_option maxRecDepth 100000 in
theorem c_X8_doneMany_e {z : CTX} {J : JS} (O : OK z cX8_doneMany RX8 3 SMod 36 (rm_ 0 0) (some .int)) : ∀ (I : IS) (q : Int32), f_X8_doneMany I = some q → G z 0 [(0, .ref (0))] [] I J (some (.int q), I, J) := by
  intro I q hF
  rw [f_X8_doneMany] at hF
  refine g_iconst O (pc := 0) dX8_doneMany_0 (ic_0) ?_
  refine g_istore_n O (pc := 1) (L' := [(1, .int ((0 : Int32))), (0, .ref (0))]) dX8_doneMany_1 (by decide) rfl ?_
  refine g_iconst O (pc := 2) dX8_doneMany_2 (ic_0) ?_
  refine g_istore_n O (pc := 3) (L' := [(2, .int ((0 : Int32))), (1, .int ((0 : Int32))), (0, .ref (0))]) dX8_doneMany_3 (by decide) rfl ?_
  refine g_sub [2, 1, 0] (L' := [(0, .ref (0)), (1, .int ((0 : Int32))), (2, .int ((0 : Int32)))]) rfl ?_
  exact c_X8_doneMany_b4 O _ _ _ _ _ hF

theorem mc_X8_doneMany {I : IS} (J : JS) {q : Int32} (hF : f_X8_doneMany I = some q) : MC yX8_doneMany cX8_doneMany 3 (some .int) (rm_ 0 0) SMod 36 [.ref (0)] I J (some (.int q), I, J) :=
  mc_of pn_X8 (Nat.le_of_ble_eq_true rfl) (fun z O => c_X8_doneMany_e O _ _ hF)

def f_X8_planned (x1 : Int32) (I : IS) : Option (IS) :=
  if okI (x1) 10 = true then
  (if okI (x1) 10 = true then
  (if (I (16) (x1).toNatClampNeg) = 0 then
  ((f_X8_roundOn I).bind fun q13 =>
  (some (q13)))
  else
  (if okI (x1) 10 = true then
  (if (I (16) (x1).toNatClampNeg) = (2 : Int32) then
  (some ((u2 I (0) 14 ((I (17) (x1).toNatClampNeg)))))
  else
  ((f_X8_isEnded ((I (17) (x1).toNatClampNeg)) I).bind fun q6 =>
  (if q6 = 0 then
  ((f_X8_cancelOne ((I (17) (x1).toNatClampNeg)) I).bind fun q9 =>
  ((f_X8_goesUp ((I (17) (x1).toNatClampNeg)) q9.2).bind fun q11 =>
  (some (q11))))
  else
  (some (I)))))
  else none))
  else none)
  else none
set_option maxHeartbeats 4000000 in
set_option maxRecDepth 100000 in
theorem c_X8_planned_e {z : CTX} {J : JS} (O : OK z cX8_planned RX8 3 SMod 36 (rm_ 8 180) none) : ∀ (x1 : Int32) (I : IS) (q : IS), f_X8_planned x1 I = some q → G z 0 [(0, .ref (0)), (1, .int (x1))] [] I J (none, q, J) := by
  intro x1 I q hF
  rw [f_X8_planned] at hF
  refine g_aload_n O (pc := 0) dX8_planned_0 0 rfl ?_
  refine g_getR O (pc := 1) isC_X8 dX8_planned_1 fw_X8_65 (by decide) fd_SMod_0_23 ?_
  refine g_iload_n O (pc := 4) dX8_planned_4 1 rfl ?_
  obtain ⟨h1, hF⟩ := gd hF
  refine g_il O (pc := 5) dX8_planned_5 ar_SMod_17 h1 ?_
  refine g_istore_n O (pc := 6) (L' := [(2, .int ((I (17) (x1).toNatClampNeg))), (0, .ref (0)), (1, .int (x1))]) dX8_planned_6 (by decide) rfl ?_
  refine g_aload_n O (pc := 7) dX8_planned_7 1 rfl ?_
  refine g_getR O (pc := 8) isC_X8 dX8_planned_8 fw_X8_62 (by decide) fd_SMod_0_22 ?_
  refine g_iload_n O (pc := 11) dX8_planned_11 2 rfl ?_
  obtain ⟨h2, hF⟩ := gd hF
  refine g_il O (pc := 12) dX8_planned_12 ar_SMod_16 h2 ?_
  refine g_if_ne O (pc := 13) 23 dX8_planned_13 (by decide) (fun h3 => ?_) (fun h3 => ?_)
  · rw [if_neg h3] at hF
    refine g_aload_n O (pc := 23) dX8_planned_23 1 rfl ?_
    refine g_getR O (pc := 24) isC_X8 dX8_planned_24 fw_X8_62 (by decide) fd_SMod_0_22 ?_
    refine g_iload_n O (pc := 27) dX8_planned_27 2 rfl ?_
    obtain ⟨h4, hF⟩ := gd hF
    refine g_il O (pc := 28) dX8_planned_28 ar_SMod_16 h4 ?_
    refine g_iconst O (pc := 29) dX8_planned_29 (ic_2) ?_
    refine g_icmp_ne O (pc := 30) 41 dX8_planned_30 (by decide) (fun h5 => ?_) (fun h5 => ?_)
    · rw [if_neg h5] at hF
      refine g_aload_n O (pc := 41) dX8_planned_41 1 rfl ?_
      refine g_iload_n O (pc := 42) dX8_planned_42 0 rfl ?_
      obtain ⟨q6, e7, hF⟩ := bnd hF
      refine g_Vi O (pc := 43) (st := []) dX8_planned_43 (mc_X8_isEnded J e7) cb_X8_isEnded ml_X8_183 isC_X8 ob_SMod (zm0 _ _ _ _ _ _ _) (rmok (Nat.le_of_ble_eq_true rfl) (Nat.le_of_ble_eq_true rfl)) (Nat.le_of_ble_eq_true rfl) rfl ?_
      refine g_if_ne O (pc := 46) 60 dX8_planned_46 (by decide) (fun h8 => ?_) (fun h8 => ?_)
      · rw [if_neg h8] at hF
        obtain rfl := Option.some.inj hF
        exact g_return O (pc := 60) dX8_planned_60 rfl
      · rw [if_pos h8] at hF
        refine g_aload_n O (pc := 49) dX8_planned_49 1 rfl ?_
        refine g_iload_n O (pc := 50) dX8_planned_50 0 rfl ?_
        obtain ⟨q9, e10, hF⟩ := bnd hF
        refine g_Vi O (pc := 51) (st := []) dX8_planned_51 (mc_X8_cancelOne J e10) cb_X8_cancelOne ml_X8_309 isC_X8 ob_SMod (zm0 _ _ _ _ _ _ _) (rmok (Nat.le_of_ble_eq_true rfl) (Nat.le_of_ble_eq_true rfl)) (Nat.le_of_ble_eq_true rfl) rfl ?_
        refine g_pop O (pc := 54) dX8_planned_54 rfl ?_
        refine g_aload_n O (pc := 55) dX8_planned_55 1 rfl ?_
        refine g_iload_n O (pc := 56) dX8_planned_56 0 rfl ?_
        obtain ⟨q11, e12, hF⟩ := bnd hF
        refine g_Vv O (pc := 57) (st := []) dX8_planned_57 (mc_X8_goesUp J e12) cb_X8_goesUp ml_X8_207 isC_X8 ob_SMod (zm0 _ _ _ _ _ _ _) (rmok (Nat.le_of_ble_eq_true rfl) (Nat.le_of_ble_eq_true rfl)) (Nat.le_of_ble_eq_true rfl) rfl ?_
        obtain rfl := Option.some.inj hF
        exact g_return O (pc := 60) dX8_planned_60 rfl
    · rw [if_pos h5] at hF
      refine g_aload_n O (pc := 33) dX8_planned_33 1 rfl ?_
      refine g_iload_n O (pc := 34) dX8_planned_34 0 rfl ?_
      refine g_putI O (pc := 35) isC_X8 isT_X8 dX8_planned_35 fw_X8_50 (by decide) rfl rfl fd_SMod_0_14 ?_
      refine g_goto O (pc := 38) 60 dX8_planned_38 (by decide) ?_
      obtain rfl := Option.some.inj hF
      exact g_return O (pc := 60) dX8_planned_60 rfl
  · rw [if_pos h3] at hF
    refine g_aload_n O (pc := 16) dX8_planned_16 1 rfl ?_
    obtain ⟨q13, e14, hF⟩ := bnd hF
    refine g_Vv O (pc := 17) (st := []) dX8_planned_17 (mc_X8_roundOn J e14) cb_X8_roundOn ml_X8_233 isC_X8 ob_SMod (zm0 _ _ _ _ _ _ _) (rmok (Nat.le_of_ble_eq_true rfl) (Nat.le_of_ble_eq_true rfl)) (Nat.le_of_ble_eq_true rfl) rfl ?_
    refine g_goto O (pc := 20) 60 dX8_planned_20 (by decide) ?_
    obtain rfl := Option.some.inj hF
    exact g_return O (pc := 60) dX8_planned_60 rfl

theorem mc_X8_planned {x1 : Int32} {I : IS} (J : JS) {q : IS} (hF : f_X8_planned x1 I = some q) : MC yX8_planned cX8_planned 3 none (rm_ 8 180) SMod 36 [.ref (0), .int (x1)] I J (none, q, J) :=
  mc_of pn_X8 (Nat.le_of_ble_eq_true rfl) (fun z O => c_X8_planned_e O _ _ _ hF)

def f_X8_worthAll_b33 (k4 : Int32 → Int32 → IS → Option (Int32)) (x2 : Int32) (s0 : Int32) (s1 : Int32) (I : IS) : Option (Int32) :=
  k4 ((s0 + s1)) (x2 + (1 : Int32)) (I)
set_option maxHeartbeats 4000000 in
set_option maxRecDepth 100000 in
theorem c_X8_worthAll_b33 {z : CTX} {J : JS} (O : OK z cX8_worthAll RX8 3 SMod 36 (rm_ 0 0) (some .int)) {k4 : Int32 → Int32 → IS → Option (Int32)} (hk4 : ∀ (x1 : Int32) (x2 : Int32) (I : IS) (q : Int32), k4 x1 x2 I = some q → G z 4 [(0, .ref (0)), (1, .int (x1)), (2, .int (x2))] [] I J (some (.int q), I, J)) : ∀ (x2 : Int32) (s0 : Int32) (s1 : Int32) (I : IS) (q : Int32), f_X8_worthAll_b33 k4 x2 s0 s1 I = some q → G z 33 [(0, .ref (0)), (2, .int (x2))] [.int (s1), .int (s0)] I J (some (.int q), I, J) := by
  intro x2 s0 s1 I q hF
  rw [f_X8_worthAll_b33] at hF
  refine g_iadd O (pc := 33) dX8_worthAll_33 ?_
  refine g_istore_n O (pc := 34) (L' := [(1, .int ((s0 + s1))), (0, .ref (0)), (2, .int (x2))]) dX8_worthAll_34 (by decide) rfl ?_
  refine g_iinc O (pc := 35) (v := x2 + (1 : Int32)) (L' := [(2, .int (x2 + (1 : Int32))), (1, .int ((s0 + s1))), (0, .ref (0))]) dX8_worthAll_35 2 rfl rfl (by decide) rfl ?_
  refine g_goto O (pc := 38) 4 dX8_worthAll_38 (by decide) ?_
  refine g_sub [2, 1, 0] (L' := [(0, .ref (0)), (1, .int ((s0 + s1))), (2, .int (x2 + (1 : Int32)))]) rfl ?_
  exact hk4 _ _ _ _ hF

def f_X8_worthAll_b4 : Nat → Int32 → Int32 → IS → Option (Int32)
  | 0, _, _, _ => none
  | fu + 1, x1, x2, I =>
    if (I (0) 6) ≤ x2 then
    (some (x1))
    else
    (if okI (x2) 32 = true then
    (if (I (6) (x2).toNatClampNeg) = (3 : Int32) then
    (if okI (x2) 32 = true then
    (f_X8_worthAll_b33 (f_X8_worthAll_b4 fu) (x2) (x1) ((I (9) (x2).toNatClampNeg)) (I))
    else none)
    else
    (f_X8_worthAll_b33 (f_X8_worthAll_b4 fu) (x2) (x1) ((0 : Int32)) (I)))
    else none)
set_option maxHeartbeats 4000000 in
set_option maxRecDepth 100000 in
theorem c_X8_worthAll_b4 {z : CTX} {J : JS} (O : OK z cX8_worthAll RX8 3 SMod 36 (rm_ 0 0) (some .int)) : ∀ (fu : Nat) (x1 : Int32) (x2 : Int32) (I : IS) (q : Int32), f_X8_worthAll_b4 fu x1 x2 I = some q → G z 4 [(0, .ref (0)), (1, .int (x1)), (2, .int (x2))] [] I J (some (.int q), I, J) := by
  intro fu
  induction fu with
  | zero =>
    intro x1 x2 I q hF
    cases hF
  | succ fu ih =>
    intro x1 x2 I q hF
    rw [f_X8_worthAll_b4] at hF
    refine g_iload_n O (pc := 4) dX8_worthAll_4 2 rfl ?_
    refine g_aload_n O (pc := 5) dX8_worthAll_5 0 rfl ?_
    refine g_getI O (pc := 6) isC_X8 dX8_worthAll_6 fw_X8_127 (by decide) fd_SMod_0_6 ?_
    refine g_icmp_ge O (pc := 9) 41 dX8_worthAll_9 (by decide) (fun h1 => ?_) (fun h1 => ?_)
    · rw [if_pos h1] at hF
      refine g_iload_n O (pc := 41) dX8_worthAll_41 1 rfl ?_
      obtain rfl := Option.some.inj hF
      exact g_ireturn O (pc := 42) dX8_worthAll_42 rfl
    · rw [if_neg h1] at hF
      refine g_iload_n O (pc := 12) dX8_worthAll_12 1 rfl ?_
      refine g_aload_n O (pc := 13) dX8_worthAll_13 0 rfl ?_
      refine g_getR O (pc := 14) isC_X8 dX8_worthAll_14 fw_X8_29 (by decide) fd_SMod_0_7 ?_
      refine g_iload_n O (pc := 17) dX8_worthAll_17 2 rfl ?_
      obtain ⟨h2, hF⟩ := gd hF
      refine g_il O (pc := 18) dX8_worthAll_18 ar_SMod_6 h2 ?_
      refine g_iconst O (pc := 19) dX8_worthAll_19 (ic_3) ?_
      refine g_icmp_ne O (pc := 20) 32 dX8_worthAll_20 (by decide) (fun h3 => ?_) (fun h3 => ?_)
      · rw [if_neg h3] at hF
        refine g_iconst O (pc := 32) dX8_worthAll_32 (ic_0) ?_
        refine g_sub [0, 2] (L' := [(0, .ref (0)), (2, .int (x2))]) rfl ?_
        exact c_X8_worthAll_b33 O ih _ _ _ _ _ hF
      · rw [if_pos h3] at hF
        refine g_aload_n O (pc := 23) dX8_worthAll_23 0 rfl ?_
        refine g_getR O (pc := 24) isC_X8 dX8_worthAll_24 fw_X8_38 (by decide) fd_SMod_0_10 ?_
        refine g_iload_n O (pc := 27) dX8_worthAll_27 2 rfl ?_
        obtain ⟨h4, hF⟩ := gd hF
        refine g_il O (pc := 28) dX8_worthAll_28 ar_SMod_9 h4 ?_
        refine g_goto O (pc := 29) 33 dX8_worthAll_29 (by decide) ?_
        refine g_sub [0, 2] (L' := [(0, .ref (0)), (2, .int (x2))]) rfl ?_
        exact c_X8_worthAll_b33 O ih _ _ _ _ _ hF

def f_X8_worthAll (I : IS) : Option (Int32) :=
  f_X8_worthAll_b4 LF ((0 : Int32)) ((0 : Int32)) (I)
set_option maxHeartbeats 4000000 in
set_option maxRecDepth 100000 in
theorem c_X8_worthAll_e {z : CTX} {J : JS} (O : OK z cX8_worthAll RX8 3 SMod 36 (rm_ 0 0) (some .int)) : ∀ (I : IS) (q : Int32), f_X8_worthAll I = some q → G z 0 [(0, .ref (0))] [] I J (some (.int q), I, J) := by
  intro I q hF
  rw [f_X8_worthAll] at hF
  refine g_iconst O (pc := 0) dX8_worthAll_0 (ic_0) ?_
  refine g_istore_n O (pc := 1) (L' := [(1, .int ((0 : Int32))), (0, .ref (0))]) dX8_worthAll_1 (by decide) rfl ?_
  refine g_iconst O (pc := 2) dX8_worthAll_2 (ic_0) ?_
  refine g_istore_n O (pc := 3) (L' := [(2, .int ((0 : Int32))), (1, .int ((0 : Int32))), (0, .ref (0))]) dX8_worthAll_3 (by decide) rfl ?_
  refine g_sub [2, 1, 0] (L' := [(0, .ref (0)), (1, .int ((0 : Int32))), (2, .int ((0 : Int32)))]) rfl ?_
  exact c_X8_worthAll_b4 O _ _ _ _ _ hF

theorem mc_X8_worthAll {I : IS} (J : JS) {q : Int32} (hF : f_X8_worthAll I = some q) : MC yX8_worthAll cX8_worthAll 3 (some .int) (rm_ 0 0) SMod 36 [.ref (0)] I J (some (.int q), I, J) :=
  mc_of pn_X8 (Nat.le_of_ble_eq_true rfl) (fun z O => c_X8_worthAll_e O _ _ hF)

def f_X8_ends_b57 (s0 : Int32) (I : IS) : Option (Int32 × IS) :=
  (f_X8_again I).bind fun q1 =>
  (some (s0, q1))
set_option maxHeartbeats 4000000 in
set_option maxRecDepth 100000 in
theorem c_X8_ends_b57 {z : CTX} {J : JS} (O : OK z cX8_ends RX8 3 SMod 36 (rm_ 9 202) (some .int)) : ∀ (s0 : Int32) (I : IS) (q : Int32 × IS), f_X8_ends_b57 s0 I = some q → G z 57 [(0, .ref (0))] [.int (s0)] I J (some (.int q.1), q.2, J) := by
  intro s0 I q hF
  rw [f_X8_ends_b57] at hF
  refine g_istore_n O (pc := 57) (L' := [(2, .int (s0)), (0, .ref (0))]) dX8_ends_57 (by decide) rfl ?_
  refine g_aload_n O (pc := 58) dX8_ends_58 1 rfl ?_
  obtain ⟨q1, e2, hF⟩ := bnd hF
  refine g_Vv O (pc := 59) (st := []) dX8_ends_59 (mc_X8_again J e2) cb_X8_again ml_X8_321 isC_X8 ob_SMod (zm0 _ _ _ _ _ _ _) (rmok (Nat.le_of_ble_eq_true rfl) (Nat.le_of_ble_eq_true rfl)) (Nat.le_of_ble_eq_true rfl) rfl ?_
  refine g_iload_n O (pc := 62) dX8_ends_62 0 rfl ?_
  obtain rfl := Option.some.inj hF
  exact g_ireturn O (pc := 63) dX8_ends_63 rfl

def f_X8_ends_b23 : Nat → Int32 → Int32 → IS → Option (Int32 × IS)
  | 0, _, _, _ => none
  | fu + 1, x1, x2, I =>
    if (I (0) 21) ≤ x2 then
    (if x1 = 0 then
    ((f_X8_endedMany I).bind fun q5 =>
    (f_X8_ends_b57 (q5) (I)))
    else
    ((f_X8_worthAll I).bind fun q3 =>
    (f_X8_ends_b57 (q3) (I))))
    else
    ((f_X8_planned (x2) I).bind fun q7 =>
    (f_X8_ends_b23 fu (x1) (x2 + (1 : Int32)) (q7)))
set_option maxHeartbeats 4000000 in
set_option maxRecDepth 100000 in
theorem c_X8_ends_b23 {z : CTX} {J : JS} (O : OK z cX8_ends RX8 3 SMod 36 (rm_ 9 202) (some .int)) : ∀ (fu : Nat) (x1 : Int32) (x2 : Int32) (I : IS) (q : Int32 × IS), f_X8_ends_b23 fu x1 x2 I = some q → G z 23 [(0, .ref (0)), (1, .int (x1)), (2, .int (x2))] [] I J (some (.int q.1), q.2, J) := by
  intro fu
  induction fu with
  | zero =>
    intro x1 x2 I q hF
    cases hF
  | succ fu ih =>
    intro x1 x2 I q hF
    rw [f_X8_ends_b23] at hF
    refine g_iload_n O (pc := 23) dX8_ends_23 2 rfl ?_
    refine g_aload_n O (pc := 24) dX8_ends_24 0 rfl ?_
    refine g_getI O (pc := 25) isC_X8 dX8_ends_25 fw_X8_151 (by decide) fd_SMod_0_21 ?_
    refine g_icmp_ge O (pc := 28) 42 dX8_ends_28 (by decide) (fun h1 => ?_) (fun h1 => ?_)
    · rw [if_pos h1] at hF
      refine g_iload_n O (pc := 42) dX8_ends_42 1 rfl ?_
      refine g_if_ne O (pc := 43) 53 dX8_ends_43 (by decide) (fun h2 => ?_) (fun h2 => ?_)
      · rw [if_neg h2] at hF
        refine g_aload_n O (pc := 53) dX8_ends_53 0 rfl ?_
        obtain ⟨q3, e4, hF⟩ := bnd hF
        refine g_Vi O (pc := 54) (st := []) dX8_ends_54 (mc_X8_worthAll J e4) cb_X8_worthAll ml_X8_356 isC_X8 ob_SMod (zm0 _ _ _ _ _ _ _) (rmok (Nat.le_of_ble_eq_true rfl) (Nat.le_of_ble_eq_true rfl)) (Nat.le_of_ble_eq_true rfl) rfl ?_
        refine g_sub [0] (L' := [(0, .ref (0))]) rfl ?_
        exact c_X8_ends_b57 O _ _ _ hF
      · rw [if_pos h2] at hF
        refine g_aload_n O (pc := 46) dX8_ends_46 0 rfl ?_
        obtain ⟨q5, e6, hF⟩ := bnd hF
        refine g_Vi O (pc := 47) (st := []) dX8_ends_47 (mc_X8_endedMany J e6) cb_X8_endedMany ml_X8_330 isC_X8 ob_SMod (zm0 _ _ _ _ _ _ _) (rmok (Nat.le_of_ble_eq_true rfl) (Nat.le_of_ble_eq_true rfl)) (Nat.le_of_ble_eq_true rfl) rfl ?_
        refine g_goto O (pc := 50) 57 dX8_ends_50 (by decide) ?_
        refine g_sub [0] (L' := [(0, .ref (0))]) rfl ?_
        exact c_X8_ends_b57 O _ _ _ hF
    · rw [if_neg h1] at hF
      refine g_aload_n O (pc := 31) dX8_ends_31 0 rfl ?_
      refine g_iload_n O (pc := 32) dX8_ends_32 2 rfl ?_
      obtain ⟨q7, e8, hF⟩ := bnd hF
      refine g_Vv O (pc := 33) (st := []) dX8_ends_33 (mc_X8_planned J e8) cb_X8_planned ml_X8_361 isC_X8 ob_SMod (zm0 _ _ _ _ _ _ _) (rmok (Nat.le_of_ble_eq_true rfl) (Nat.le_of_ble_eq_true rfl)) (Nat.le_of_ble_eq_true rfl) rfl ?_
      refine g_iinc O (pc := 36) (v := x2 + (1 : Int32)) (L' := [(2, .int (x2 + (1 : Int32))), (0, .ref (0)), (1, .int (x1))]) dX8_ends_36 2 rfl rfl (by decide) rfl ?_
      refine g_goto O (pc := 39) 23 dX8_ends_39 (by decide) ?_
      refine g_sub [1, 2, 0] (L' := [(0, .ref (0)), (1, .int (x1)), (2, .int (x2 + (1 : Int32)))]) rfl ?_
      exact ih _ _ _ _ hF

def f_X8_ends (x1 : Int32) (I : IS) : Option (Int32 × IS) :=
  (f_X8_in ((x1).toInt64) ((0 : Int64)) ((1 : Int64))).bind fun q1 =>
  (if q1 = 0 then
  (some ((-1 : Int32), (u2 I (0) 29 ((0 : Int32)))))
  else
  ((f_X8_open (u2 I (0) 29 ((0 : Int32)))).bind fun q4 =>
  (f_X8_ends_b23 LF (x1) ((0 : Int32)) (q4))))
set_option maxHeartbeats 4000000 in
set_option maxRecDepth 100000 in
theorem c_X8_ends_e {z : CTX} {J : JS} (O : OK z cX8_ends RX8 3 SMod 36 (rm_ 9 202) (some .int)) : ∀ (x1 : Int32) (I : IS) (q : Int32 × IS), f_X8_ends x1 I = some q → G z 0 [(0, .ref (0)), (1, .int (x1))] [] I J (some (.int q.1), q.2, J) := by
  intro x1 I q hF
  rw [f_X8_ends] at hF
  refine g_aload_n O (pc := 0) dX8_ends_0 0 rfl ?_
  refine g_iconst O (pc := 1) dX8_ends_1 (ic_0) ?_
  refine g_putI O (pc := 2) isC_X8 isT_X8 dX8_ends_2 fw_X8_124 (by decide) rfl rfl fd_SMod_0_29 ?_
  refine g_iload_n O (pc := 5) dX8_ends_5 1 rfl ?_
  refine g_i2l O (pc := 6) dX8_ends_6 ?_
  refine g_lconst O (pc := 7) dX8_ends_7 lc_0 ?_
  refine g_lconst O (pc := 8) dX8_ends_8 lc_1 ?_
  obtain ⟨q1, e2, hF⟩ := bnd hF
  refine g_Si O (pc := 9) (st := []) dX8_ends_9 (mc_X8_in (u2 I (0) 29 ((0 : Int32))) J e2) cs_X8_in ml_X8_130 rfl (rmok (Nat.le_of_ble_eq_true rfl) (Nat.le_of_ble_eq_true rfl)) (Nat.le_of_ble_eq_true rfl) (fun _ => rfl) rfl ?_
  refine g_if_ne O (pc := 12) 17 dX8_ends_12 (by decide) (fun h3 => ?_) (fun h3 => ?_)
  · rw [if_neg h3] at hF
    refine g_aload_n O (pc := 17) dX8_ends_17 0 rfl ?_
    obtain ⟨q4, e5, hF⟩ := bnd hF
    refine g_Vv O (pc := 18) (st := []) dX8_ends_18 (mc_X8_open J e5) cb_X8_open ml_X8_315 isC_X8 ob_SMod (zm0 _ _ _ _ _ _ _) (rmok (Nat.le_of_ble_eq_true rfl) (Nat.le_of_ble_eq_true rfl)) (Nat.le_of_ble_eq_true rfl) rfl ?_
    refine g_iconst O (pc := 21) dX8_ends_21 (ic_0) ?_
    refine g_istore_n O (pc := 22) (L' := [(2, .int ((0 : Int32))), (0, .ref (0)), (1, .int (x1))]) dX8_ends_22 (by decide) rfl ?_
    refine g_sub [1, 2, 0] (L' := [(0, .ref (0)), (1, .int (x1)), (2, .int ((0 : Int32)))]) rfl ?_
    exact c_X8_ends_b23 O _ _ _ _ _ hF
  · rw [if_pos h3] at hF
    refine g_iconst O (pc := 15) dX8_ends_15 (ic_m1) ?_
    obtain rfl := Option.some.inj hF
    exact g_ireturn O (pc := 16) dX8_ends_16 rfl

theorem mc_X8_ends {x1 : Int32} {I : IS} (J : JS) {q : Int32 × IS} (hF : f_X8_ends x1 I = some q) : MC yX8_ends cX8_ends 3 (some .int) (rm_ 9 202) SMod 36 [.ref (0), .int (x1)] I J (some (.int q.1), q.2, J) :=
  mc_of pn_X8 (Nat.le_of_ble_eq_true rfl) (fun z O => c_X8_ends_e O _ _ _ hF)

def f_X8_feed (x1 : Int32) (I : IS) : Option (Int32 × IS) :=
  (f_X8_in ((x1).toInt64) ((0 : Int64)) ((127 : Int64))).bind fun q1 =>
  (if q1 = 0 then
  (some ((-2 : Int32), (u2 I (0) 29 ((0 : Int32)))))
  else
  (if ((u2 I (0) 29 ((0 : Int32))) (0) 38) = (100 : Int32) then
  (some ((-4 : Int32), (u2 I (0) 29 ((0 : Int32)))))
  else
  (if okI (((u2 I (0) 29 ((0 : Int32))) (0) 38)) 100 = true then
  ((some (u2 (u2 (u2 I (0) 29 ((0 : Int32))) (23) (((u2 I (0) 29 ((0 : Int32))) (0) 38)).toNatClampNeg (x1)) (0) 38 ((((u2 (u2 I (0) 29 ((0 : Int32))) (23) (((u2 I (0) 29 ((0 : Int32))) (0) 38)).toNatClampNeg (x1)) (0) 38) + (1 : Int32))))).bind fun I6 =>
  (some ((I6 (0) 38), I6)))
  else none)))
set_option maxHeartbeats 4000000 in
set_option maxRecDepth 100000 in
theorem c_X8_feed_e {z : CTX} {J : JS} (O : OK z cX8_feed RX8 2 SMod 36 (rm_ 1 25) (some .int)) : ∀ (x1 : Int32) (I : IS) (q : Int32 × IS), f_X8_feed x1 I = some q → G z 0 [(0, .ref (0)), (1, .int (x1))] [] I J (some (.int q.1), q.2, J) := by
  intro x1 I q hF
  rw [f_X8_feed] at hF
  refine g_aload_n O (pc := 0) dX8_feed_0 0 rfl ?_
  refine g_iconst O (pc := 1) dX8_feed_1 (ic_0) ?_
  refine g_putI O (pc := 2) isC_X8 isT_X8 dX8_feed_2 fw_X8_124 (by decide) rfl rfl fd_SMod_0_29 ?_
  refine g_iload_n O (pc := 5) dX8_feed_5 1 rfl ?_
  refine g_i2l O (pc := 6) dX8_feed_6 ?_
  refine g_lconst O (pc := 7) dX8_feed_7 lc_0 ?_
  refine g_ldc2 O (pc := 8) kw_X8_241 dX8_feed_8 ?_
  obtain ⟨q1, e2, hF⟩ := bnd hF
  refine g_Si O (pc := 11) (st := []) dX8_feed_11 (mc_X8_in (u2 I (0) 29 ((0 : Int32))) J e2) cs_X8_in ml_X8_130 rfl (rmok (Nat.le_of_ble_eq_true rfl) (Nat.le_of_ble_eq_true rfl)) (Nat.le_of_ble_eq_true rfl) (fun _ => rfl) rfl ?_
  refine g_if_ne O (pc := 14) 20 dX8_feed_14 (by decide) (fun h3 => ?_) (fun h3 => ?_)
  · rw [if_neg h3] at hF
    refine g_aload_n O (pc := 20) dX8_feed_20 0 rfl ?_
    refine g_getI O (pc := 21) isC_X8 dX8_feed_21 fw_X8_243 (by decide) fd_SMod_0_38 ?_
    refine g_bipush O (pc := 24) dX8_feed_24 bp_100 ?_
    refine g_icmp_ne O (pc := 26) 32 dX8_feed_26 (by decide) (fun h4 => ?_) (fun h4 => ?_)
    · rw [if_neg h4] at hF
      refine g_aload_n O (pc := 32) dX8_feed_32 0 rfl ?_
      refine g_getR O (pc := 33) isC_X8 dX8_feed_33 fw_X8_84 (by decide) fd_SMod_0_37 ?_
      refine g_aload_n O (pc := 36) dX8_feed_36 0 rfl ?_
      refine g_getI O (pc := 37) isC_X8 dX8_feed_37 fw_X8_243 (by decide) fd_SMod_0_38 ?_
      refine g_iload_n O (pc := 40) dX8_feed_40 1 rfl ?_
      obtain ⟨h5, hF⟩ := gd hF
      refine g_is O (pc := 41) dX8_feed_41 ar_SMod_23 h5 ?_
      refine g_aload_n O (pc := 42) dX8_feed_42 0 rfl ?_
      refine g_dup O (pc := 43) dX8_feed_43 rfl ?_
      refine g_getI O (pc := 44) isC_X8 dX8_feed_44 fw_X8_243 (by decide) fd_SMod_0_38 ?_
      refine g_iconst O (pc := 47) dX8_feed_47 (ic_1) ?_
      refine g_iadd O (pc := 48) dX8_feed_48 ?_
      refine g_putI O (pc := 49) isC_X8 isT_X8 dX8_feed_49 fw_X8_243 (by decide) rfl rfl fd_SMod_0_38 ?_
      obtain ⟨I6, g7, hF⟩ := bnd hF
      refine g_nmI (Option.some.inj g7) ?_
      refine g_aload_n O (pc := 52) dX8_feed_52 0 rfl ?_
      refine g_getI O (pc := 53) isC_X8 dX8_feed_53 fw_X8_243 (by decide) fd_SMod_0_38 ?_
      obtain rfl := Option.some.inj hF
      exact g_ireturn O (pc := 56) dX8_feed_56 rfl
    · rw [if_pos h4] at hF
      refine g_bipush O (pc := 29) dX8_feed_29 bp_m4 ?_
      obtain rfl := Option.some.inj hF
      exact g_ireturn O (pc := 31) dX8_feed_31 rfl
  · rw [if_pos h3] at hF
    refine g_bipush O (pc := 17) dX8_feed_17 bp_m2 ?_
    obtain rfl := Option.some.inj hF
    exact g_ireturn O (pc := 19) dX8_feed_19 rfl

theorem mc_X8_feed {x1 : Int32} {I : IS} (J : JS) {q : Int32 × IS} (hF : f_X8_feed x1 I = some q) : MC yX8_feed cX8_feed 2 (some .int) (rm_ 1 25) SMod 36 [.ref (0), .int (x1)] I J (some (.int q.1), q.2, J) :=
  mc_of pn_X8 (Nat.le_of_ble_eq_true rfl) (fun z O => c_X8_feed_e O _ _ _ hF)

def f_X8_goRounds_b2 : Nat → Int32 → Int32 → IS → Option (IS)
  | 0, _, _, _ => none
  | fu + 1, x1, x2, I =>
    if x1 ≤ x2 then
    (some (I))
    else
    ((f_X8_roundOn I).bind fun q2 =>
    (f_X8_goRounds_b2 fu (x1) (x2 + (1 : Int32)) (q2)))
set_option maxHeartbeats 4000000 in
set_option maxRecDepth 100000 in
theorem c_X8_goRounds_b2 {z : CTX} {J : JS} (O : OK z cX8_goRounds RX8 3 SMod 36 (rm_ 8 180) none) : ∀ (fu : Nat) (x1 : Int32) (x2 : Int32) (I : IS) (q : IS), f_X8_goRounds_b2 fu x1 x2 I = some q → G z 2 [(0, .ref (0)), (1, .int (x1)), (2, .int (x2))] [] I J (none, q, J) := by
  intro fu
  induction fu with
  | zero =>
    intro x1 x2 I q hF
    cases hF
  | succ fu ih =>
    intro x1 x2 I q hF
    rw [f_X8_goRounds_b2] at hF
    refine g_iload_n O (pc := 2) dX8_goRounds_2 2 rfl ?_
    refine g_iload_n O (pc := 3) dX8_goRounds_3 1 rfl ?_
    refine g_icmp_ge O (pc := 4) 17 dX8_goRounds_4 (by decide) (fun h1 => ?_) (fun h1 => ?_)
    · rw [if_pos h1] at hF
      obtain rfl := Option.some.inj hF
      exact g_return O (pc := 17) dX8_goRounds_17 rfl
    · rw [if_neg h1] at hF
      refine g_aload_n O (pc := 7) dX8_goRounds_7 0 rfl ?_
      obtain ⟨q2, e3, hF⟩ := bnd hF
      refine g_Vv O (pc := 8) (st := []) dX8_goRounds_8 (mc_X8_roundOn J e3) cb_X8_roundOn ml_X8_233 isC_X8 ob_SMod (zm0 _ _ _ _ _ _ _) (rmok (Nat.le_of_ble_eq_true rfl) (Nat.le_of_ble_eq_true rfl)) (Nat.le_of_ble_eq_true rfl) rfl ?_
      refine g_iinc O (pc := 11) (v := x2 + (1 : Int32)) (L' := [(2, .int (x2 + (1 : Int32))), (0, .ref (0)), (1, .int (x1))]) dX8_goRounds_11 2 rfl rfl (by decide) rfl ?_
      refine g_goto O (pc := 14) 2 dX8_goRounds_14 (by decide) ?_
      refine g_sub [1, 2, 0] (L' := [(0, .ref (0)), (1, .int (x1)), (2, .int (x2 + (1 : Int32)))]) rfl ?_
      exact ih _ _ _ _ hF

def f_X8_goRounds (x1 : Int32) (I : IS) : Option (IS) :=
  f_X8_goRounds_b2 LF (x1) ((0 : Int32)) (I)
set_option maxHeartbeats 4000000 in
set_option maxRecDepth 100000 in
theorem c_X8_goRounds_e {z : CTX} {J : JS} (O : OK z cX8_goRounds RX8 3 SMod 36 (rm_ 8 180) none) : ∀ (x1 : Int32) (I : IS) (q : IS), f_X8_goRounds x1 I = some q → G z 0 [(0, .ref (0)), (1, .int (x1))] [] I J (none, q, J) := by
  intro x1 I q hF
  rw [f_X8_goRounds] at hF
  refine g_iconst O (pc := 0) dX8_goRounds_0 (ic_0) ?_
  refine g_istore_n O (pc := 1) (L' := [(2, .int ((0 : Int32))), (0, .ref (0)), (1, .int (x1))]) dX8_goRounds_1 (by decide) rfl ?_
  refine g_sub [1, 2, 0] (L' := [(0, .ref (0)), (1, .int (x1)), (2, .int ((0 : Int32)))]) rfl ?_
  exact c_X8_goRounds_b2 O _ _ _ _ _ hF

theorem mc_X8_goRounds {x1 : Int32} {I : IS} (J : JS) {q : IS} (hF : f_X8_goRounds x1 I = some q) : MC yX8_goRounds cX8_goRounds 3 none (rm_ 8 180) SMod 36 [.ref (0), .int (x1)] I J (none, q, J) :=
  mc_of pn_X8 (Nat.le_of_ble_eq_true rfl) (fun z O => c_X8_goRounds_e O _ _ _ hF)

def f_X8_here_b24 (s0 : Int32) (I : IS) : Option (Int32) :=
  some (s0)
set_option maxHeartbeats 4000000 in
set_option maxRecDepth 100000 in
theorem c_X8_here_b24 {z : CTX} {J : JS} (O : OK z cX8_here RX8 1 SMod 36 (rm_ 0 0) (some .int)) : ∀ (s0 : Int32) (I : IS) (q : Int32), f_X8_here_b24 s0 I = some q → G z 24 [] [.int (s0)] I J (some (.int q), I, J) := by
  intro s0 I q hF
  rw [f_X8_here_b24] at hF
  obtain rfl := Option.some.inj hF
  exact g_ireturn O (pc := 24) dX8_here_24 rfl

def f_X8_here (I : IS) : Option (Int32) :=
  if (I (0) 38) ≤ (I (0) 39) then
  (f_X8_here_b24 ((-1 : Int32)) (I))
  else
  (if okI ((I (0) 39)) 100 = true then
  (f_X8_here_b24 ((I (23) ((I (0) 39)).toNatClampNeg)) (I))
  else none)
set_option maxHeartbeats 4000000 in
set_option maxRecDepth 100000 in
theorem c_X8_here_e {z : CTX} {J : JS} (O : OK z cX8_here RX8 1 SMod 36 (rm_ 0 0) (some .int)) : ∀ (I : IS) (q : Int32), f_X8_here I = some q → G z 0 [(0, .ref (0))] [] I J (some (.int q), I, J) := by
  intro I q hF
  rw [f_X8_here] at hF
  refine g_aload_n O (pc := 0) dX8_here_0 0 rfl ?_
  refine g_getI O (pc := 1) isC_X8 dX8_here_1 fw_X8_246 (by decide) fd_SMod_0_39 ?_
  refine g_aload_n O (pc := 4) dX8_here_4 0 rfl ?_
  refine g_getI O (pc := 5) isC_X8 dX8_here_5 fw_X8_243 (by decide) fd_SMod_0_38 ?_
  refine g_icmp_ge O (pc := 8) 23 dX8_here_8 (by decide) (fun h1 => ?_) (fun h1 => ?_)
  · rw [if_pos h1] at hF
    refine g_iconst O (pc := 23) dX8_here_23 (ic_m1) ?_
    refine g_sub [] (L' := []) rfl ?_
    exact c_X8_here_b24 O _ _ _ hF
  · rw [if_neg h1] at hF
    refine g_aload_n O (pc := 11) dX8_here_11 0 rfl ?_
    refine g_getR O (pc := 12) isC_X8 dX8_here_12 fw_X8_84 (by decide) fd_SMod_0_37 ?_
    refine g_aload_n O (pc := 15) dX8_here_15 0 rfl ?_
    refine g_getI O (pc := 16) isC_X8 dX8_here_16 fw_X8_246 (by decide) fd_SMod_0_39 ?_
    obtain ⟨h2, hF⟩ := gd hF
    refine g_il O (pc := 19) dX8_here_19 ar_SMod_23 h2 ?_
    refine g_goto O (pc := 20) 24 dX8_here_20 (by decide) ?_
    refine g_sub [] (L' := []) rfl ?_
    exact c_X8_here_b24 O _ _ _ hF

theorem mc_X8_here {I : IS} (J : JS) {q : Int32} (hF : f_X8_here I = some q) : MC yX8_here cX8_here 1 (some .int) (rm_ 0 0) SMod 36 [.ref (0)] I J (some (.int q), I, J) :=
  mc_of pn_X8 (Nat.le_of_ble_eq_true rfl) (fun z O => c_X8_here_e O _ _ hF)

def f_X8_goesOn_b186 (s1 : Int32) (I : IS) : Option (Int32 × IS) :=
  if okZ (s1) = true then
  (some ((0 : Int32), (u2 I (0) 40 (s1))))
  else none
set_option maxHeartbeats 4000000 in
set_option maxRecDepth 100000 in
theorem c_X8_goesOn_b186 {z : CTX} {J : JS} (O : OK z cX8_goesOn RX8 1 SMod 36 (rm_ 1 20) (some .boolean)) : ∀ (s1 : Int32) (I : IS) (q : Int32 × IS), f_X8_goesOn_b186 s1 I = some q → G z 186 [] [.int (s1), .ref (0)] I J (some (.int q.1), q.2, J) := by
  intro s1 I q hF
  rw [f_X8_goesOn_b186] at hF
  obtain ⟨h1, hF⟩ := gd hF
  refine g_putZ O (pc := 186) isC_X8 isT_X8 dX8_goesOn_186 fw_X8_259 (by decide) rfl rfl h1 fd_SMod_0_40 ?_
  refine g_iconst O (pc := 189) dX8_goesOn_189 (ic_0) ?_
  obtain rfl := Option.some.inj hF
  exact g_zreturn O (pc := 190) dX8_goesOn_190 (by decide) rfl

def f_X8_goesOn_b181 (I : IS) : Option (Int32 × IS) :=
  f_X8_goesOn_b186 ((1 : Int32)) (I)
set_option maxHeartbeats 4000000 in
set_option maxRecDepth 100000 in
theorem c_X8_goesOn_b181 {z : CTX} {J : JS} (O : OK z cX8_goesOn RX8 1 SMod 36 (rm_ 1 20) (some .boolean)) : ∀ (I : IS) (q : Int32 × IS), f_X8_goesOn_b181 I = some q → G z 181 [] [.ref (0)] I J (some (.int q.1), q.2, J) := by
  intro I q hF
  rw [f_X8_goesOn_b181] at hF
  refine g_iconst O (pc := 181) dX8_goesOn_181 (ic_1) ?_
  refine g_goto O (pc := 182) 186 dX8_goesOn_182 (by decide) ?_
  refine g_sub [] (L' := []) rfl ?_
  exact c_X8_goesOn_b186 O _ _ _ hF

def f_X8_goesOn_b162 (I : IS) : Option (Int32 × IS) :=
  if 0 < (I (0) 45) then
  (f_X8_goesOn_b181 (I))
  else
  (if (I (0) 38) ≤ (I (0) 39) then
  (f_X8_goesOn_b186 ((0 : Int32)) (I))
  else
  (f_X8_goesOn_b181 (I)))
set_option maxHeartbeats 4000000 in
set_option maxRecDepth 100000 in
theorem c_X8_goesOn_b162 {z : CTX} {J : JS} (O : OK z cX8_goesOn RX8 1 SMod 36 (rm_ 1 20) (some .boolean)) : ∀ (I : IS) (q : Int32 × IS), f_X8_goesOn_b162 I = some q → G z 162 [(0, .ref (0))] [] I J (some (.int q.1), q.2, J) := by
  intro I q hF
  rw [f_X8_goesOn_b162] at hF
  refine g_aload_n O (pc := 162) dX8_goesOn_162 0 rfl ?_
  refine g_aload_n O (pc := 163) dX8_goesOn_163 0 rfl ?_
  refine g_getI O (pc := 164) isC_X8 dX8_goesOn_164 fw_X8_262 (by decide) fd_SMod_0_45 ?_
  refine g_if_gt O (pc := 167) 181 dX8_goesOn_167 (by decide) (fun h1 => ?_) (fun h1 => ?_)
  · rw [if_pos h1] at hF
    refine g_sub [] (L' := []) rfl ?_
    exact c_X8_goesOn_b181 O _ _ hF
  · rw [if_neg h1] at hF
    refine g_aload_n O (pc := 170) dX8_goesOn_170 0 rfl ?_
    refine g_getI O (pc := 171) isC_X8 dX8_goesOn_171 fw_X8_246 (by decide) fd_SMod_0_39 ?_
    refine g_aload_n O (pc := 174) dX8_goesOn_174 0 rfl ?_
    refine g_getI O (pc := 175) isC_X8 dX8_goesOn_175 fw_X8_243 (by decide) fd_SMod_0_38 ?_
    refine g_icmp_ge O (pc := 178) 185 dX8_goesOn_178 (by decide) (fun h2 => ?_) (fun h2 => ?_)
    · rw [if_pos h2] at hF
      refine g_iconst O (pc := 185) dX8_goesOn_185 (ic_0) ?_
      refine g_sub [] (L' := []) rfl ?_
      exact c_X8_goesOn_b186 O _ _ _ hF
    · rw [if_neg h2] at hF
      refine g_sub [] (L' := []) rfl ?_
      exact c_X8_goesOn_b181 O _ _ hF

def f_X8_goesOn_b103 (I : IS) : Option (Int32 × IS) :=
  if (I (0) 45) ≤ 0 then
  (f_X8_goesOn_b162 (I))
  else
  ((f_X8_here I).bind fun q2 =>
  (if q2 = (44 : Int32) then
  (if okI (((I (0) 45) - (1 : Int32))) 5 = true then
  (if (6 : Int32) ≤ (I (28) (((I (0) 45) - (1 : Int32))).toNatClampNeg) then
  (f_X8_goesOn_b162 (I))
  else
  (if okI (((I (0) 45) - (1 : Int32))) 5 = true then
  (if okI (((I (0) 45) - (1 : Int32))) 5 = true then
  ((some (u2 I (28) (((I (0) 45) - (1 : Int32))).toNatClampNeg (((I (28) (((I (0) 45) - (1 : Int32))).toNatClampNeg) + (1 : Int32))))).bind fun I9 =>
  (some ((1 : Int32), (u2 I9 (0) 39 (((I9 (0) 39) + (1 : Int32)))))))
  else none)
  else none))
  else none)
  else
  (f_X8_goesOn_b162 (I))))
set_option maxHeartbeats 4000000 in
set_option maxRecDepth 100000 in
theorem c_X8_goesOn_b103 {z : CTX} {J : JS} (O : OK z cX8_goesOn RX8 1 SMod 36 (rm_ 1 20) (some .boolean)) : ∀ (I : IS) (q : Int32 × IS), f_X8_goesOn_b103 I = some q → G z 103 [(0, .ref (0))] [] I J (some (.int q.1), q.2, J) := by
  intro I q hF
  rw [f_X8_goesOn_b103] at hF
  refine g_aload_n O (pc := 103) dX8_goesOn_103 0 rfl ?_
  refine g_getI O (pc := 104) isC_X8 dX8_goesOn_104 fw_X8_262 (by decide) fd_SMod_0_45 ?_
  refine g_if_le O (pc := 107) 162 dX8_goesOn_107 (by decide) (fun h1 => ?_) (fun h1 => ?_)
  · rw [if_pos h1] at hF
    refine g_sub [0] (L' := [(0, .ref (0))]) rfl ?_
    exact c_X8_goesOn_b162 O _ _ hF
  · rw [if_neg h1] at hF
    refine g_aload_n O (pc := 110) dX8_goesOn_110 0 rfl ?_
    obtain ⟨q2, e3, hF⟩ := bnd hF
    refine g_Vi O (pc := 111) (st := []) dX8_goesOn_111 (mc_X8_here J e3) cb_X8_here ml_X8_252 isC_X8 ob_SMod (zm0 _ _ _ _ _ _ _) (rmok (Nat.le_of_ble_eq_true rfl) (Nat.le_of_ble_eq_true rfl)) (Nat.le_of_ble_eq_true rfl) rfl ?_
    refine g_bipush O (pc := 114) dX8_goesOn_114 bp_44 ?_
    refine g_icmp_ne O (pc := 116) 162 dX8_goesOn_116 (by decide) (fun h4 => ?_) (fun h4 => ?_)
    · rw [if_neg h4] at hF
      refine g_sub [0] (L' := [(0, .ref (0))]) rfl ?_
      exact c_X8_goesOn_b162 O _ _ hF
    · rw [if_pos h4] at hF
      refine g_aload_n O (pc := 119) dX8_goesOn_119 0 rfl ?_
      refine g_getR O (pc := 120) isC_X8 dX8_goesOn_120 fw_X8_99 (by decide) fd_SMod_0_47 ?_
      refine g_aload_n O (pc := 123) dX8_goesOn_123 0 rfl ?_
      refine g_getI O (pc := 124) isC_X8 dX8_goesOn_124 fw_X8_262 (by decide) fd_SMod_0_45 ?_
      refine g_iconst O (pc := 127) dX8_goesOn_127 (ic_1) ?_
      refine g_isub O (pc := 128) dX8_goesOn_128 ?_
      obtain ⟨h5, hF⟩ := gd hF
      refine g_il O (pc := 129) dX8_goesOn_129 ar_SMod_28 h5 ?_
      refine g_bipush O (pc := 130) dX8_goesOn_130 bp_6 ?_
      refine g_icmp_ge O (pc := 132) 162 dX8_goesOn_132 (by decide) (fun h6 => ?_) (fun h6 => ?_)
      · rw [if_pos h6] at hF
        refine g_sub [0] (L' := [(0, .ref (0))]) rfl ?_
        exact c_X8_goesOn_b162 O _ _ hF
      · rw [if_neg h6] at hF
        refine g_aload_n O (pc := 135) dX8_goesOn_135 0 rfl ?_
        refine g_getR O (pc := 136) isC_X8 dX8_goesOn_136 fw_X8_99 (by decide) fd_SMod_0_47 ?_
        refine g_aload_n O (pc := 139) dX8_goesOn_139 0 rfl ?_
        refine g_getI O (pc := 140) isC_X8 dX8_goesOn_140 fw_X8_262 (by decide) fd_SMod_0_45 ?_
        refine g_iconst O (pc := 143) dX8_goesOn_143 (ic_1) ?_
        refine g_isub O (pc := 144) dX8_goesOn_144 ?_
        refine g_dup2 O (pc := 145) dX8_goesOn_145 rfl rfl ?_
        obtain ⟨h7, hF⟩ := gd hF
        refine g_il O (pc := 146) dX8_goesOn_146 ar_SMod_28 h7 ?_
        refine g_iconst O (pc := 147) dX8_goesOn_147 (ic_1) ?_
        refine g_iadd O (pc := 148) dX8_goesOn_148 ?_
        obtain ⟨h8, hF⟩ := gd hF
        refine g_is O (pc := 149) dX8_goesOn_149 ar_SMod_28 h8 ?_
        obtain ⟨I9, g10, hF⟩ := bnd hF
        refine g_nmI (Option.some.inj g10) ?_
        refine g_aload_n O (pc := 150) dX8_goesOn_150 0 rfl ?_
        refine g_dup O (pc := 151) dX8_goesOn_151 rfl ?_
        refine g_getI O (pc := 152) isC_X8 dX8_goesOn_152 fw_X8_246 (by decide) fd_SMod_0_39 ?_
        refine g_iconst O (pc := 155) dX8_goesOn_155 (ic_1) ?_
        refine g_iadd O (pc := 156) dX8_goesOn_156 ?_
        refine g_putI O (pc := 157) isC_X8 isT_X8 dX8_goesOn_157 fw_X8_246 (by decide) rfl rfl fd_SMod_0_39 ?_
        refine g_iconst O (pc := 160) dX8_goesOn_160 (ic_1) ?_
        obtain rfl := Option.some.inj hF
        exact g_zreturn O (pc := 161) dX8_goesOn_161 (by decide) rfl

def f_X8_goesOn_b64 : Nat → IS → Option (Int32 × IS)
  | 0, _ => none
  | fu + 1, I =>
    if (I (0) 45) ≤ 0 then
    (f_X8_goesOn_b103 (I))
    else
    ((f_X8_here I).bind fun q2 =>
    (if q2 = (41 : Int32) then
    ((some (u2 (u2 I (0) 45 (((I (0) 45) - (1 : Int32)))) (0) 39 ((((u2 I (0) 45 (((I (0) 45) - (1 : Int32)))) (0) 39) + (1 : Int32))))).bind fun I5 =>
    (f_X8_goesOn_b64 fu (I5)))
    else
    (f_X8_goesOn_b103 (I))))
set_option maxHeartbeats 4000000 in
set_option maxRecDepth 100000 in
theorem c_X8_goesOn_b64 {z : CTX} {J : JS} (O : OK z cX8_goesOn RX8 1 SMod 36 (rm_ 1 20) (some .boolean)) : ∀ (fu : Nat) (I : IS) (q : Int32 × IS), f_X8_goesOn_b64 fu I = some q → G z 64 [(0, .ref (0))] [] I J (some (.int q.1), q.2, J) := by
  intro fu
  induction fu with
  | zero =>
    intro I q hF
    cases hF
  | succ fu ih =>
    intro I q hF
    rw [f_X8_goesOn_b64] at hF
    refine g_aload_n O (pc := 64) dX8_goesOn_64 0 rfl ?_
    refine g_getI O (pc := 65) isC_X8 dX8_goesOn_65 fw_X8_262 (by decide) fd_SMod_0_45 ?_
    refine g_if_le O (pc := 68) 103 dX8_goesOn_68 (by decide) (fun h1 => ?_) (fun h1 => ?_)
    · rw [if_pos h1] at hF
      refine g_sub [0] (L' := [(0, .ref (0))]) rfl ?_
      exact c_X8_goesOn_b103 O _ _ hF
    · rw [if_neg h1] at hF
      refine g_aload_n O (pc := 71) dX8_goesOn_71 0 rfl ?_
      obtain ⟨q2, e3, hF⟩ := bnd hF
      refine g_Vi O (pc := 72) (st := []) dX8_goesOn_72 (mc_X8_here J e3) cb_X8_here ml_X8_252 isC_X8 ob_SMod (zm0 _ _ _ _ _ _ _) (rmok (Nat.le_of_ble_eq_true rfl) (Nat.le_of_ble_eq_true rfl)) (Nat.le_of_ble_eq_true rfl) rfl ?_
      refine g_bipush O (pc := 75) dX8_goesOn_75 bp_41 ?_
      refine g_icmp_ne O (pc := 77) 103 dX8_goesOn_77 (by decide) (fun h4 => ?_) (fun h4 => ?_)
      · rw [if_neg h4] at hF
        refine g_sub [0] (L' := [(0, .ref (0))]) rfl ?_
        exact c_X8_goesOn_b103 O _ _ hF
      · rw [if_pos h4] at hF
        refine g_aload_n O (pc := 80) dX8_goesOn_80 0 rfl ?_
        refine g_dup O (pc := 81) dX8_goesOn_81 rfl ?_
        refine g_getI O (pc := 82) isC_X8 dX8_goesOn_82 fw_X8_262 (by decide) fd_SMod_0_45 ?_
        refine g_iconst O (pc := 85) dX8_goesOn_85 (ic_1) ?_
        refine g_isub O (pc := 86) dX8_goesOn_86 ?_
        refine g_putI O (pc := 87) isC_X8 isT_X8 dX8_goesOn_87 fw_X8_262 (by decide) rfl rfl fd_SMod_0_45 ?_
        refine g_aload_n O (pc := 90) dX8_goesOn_90 0 rfl ?_
        refine g_dup O (pc := 91) dX8_goesOn_91 rfl ?_
        refine g_getI O (pc := 92) isC_X8 dX8_goesOn_92 fw_X8_246 (by decide) fd_SMod_0_39 ?_
        refine g_iconst O (pc := 95) dX8_goesOn_95 (ic_1) ?_
        refine g_iadd O (pc := 96) dX8_goesOn_96 ?_
        refine g_putI O (pc := 97) isC_X8 isT_X8 dX8_goesOn_97 fw_X8_246 (by decide) rfl rfl fd_SMod_0_39 ?_
        obtain ⟨I5, g6, hF⟩ := bnd hF
        refine g_nmI (Option.some.inj g6) ?_
        refine g_goto O (pc := 100) 64 dX8_goesOn_100 (by decide) ?_
        refine g_sub [0] (L' := [(0, .ref (0))]) rfl ?_
        exact ih _ _ hF

def f_X8_goesOn (I : IS) : Option (Int32 × IS) :=
  (f_X8_here I).bind fun q1 =>
  (if q1 = (40 : Int32) then
  (if (4 : Int32) ≤ (I (0) 45) then
  (f_X8_goesOn_b64 LF (I))
  else
  (if okI ((I (0) 45)) 5 = true then
  (if okI (((u2 I (27) ((I (0) 45)).toNatClampNeg (((I (0) 41) - (1 : Int32)))) (0) 45)) 5 = true then
  ((some (u2 (u2 I (27) ((I (0) 45)).toNatClampNeg (((I (0) 41) - (1 : Int32)))) (28) (((u2 I (27) ((I (0) 45)).toNatClampNeg (((I (0) 41) - (1 : Int32)))) (0) 45)).toNatClampNeg ((1 : Int32)))).bind fun I7 =>
  ((some (u2 (u2 I7 (0) 45 (((I7 (0) 45) + (1 : Int32)))) (0) 39 ((((u2 I7 (0) 45 (((I7 (0) 45) + (1 : Int32)))) (0) 39) + (1 : Int32))))).bind fun I9 =>
  (some ((1 : Int32), I9))))
  else none)
  else none))
  else
  (f_X8_goesOn_b64 LF (I)))
set_option maxHeartbeats 4000000 in
set_option maxRecDepth 100000 in
theorem c_X8_goesOn_e {z : CTX} {J : JS} (O : OK z cX8_goesOn RX8 1 SMod 36 (rm_ 1 20) (some .boolean)) : ∀ (I : IS) (q : Int32 × IS), f_X8_goesOn I = some q → G z 0 [(0, .ref (0))] [] I J (some (.int q.1), q.2, J) := by
  intro I q hF
  rw [f_X8_goesOn] at hF
  refine g_aload_n O (pc := 0) dX8_goesOn_0 0 rfl ?_
  obtain ⟨q1, e2, hF⟩ := bnd hF
  refine g_Vi O (pc := 1) (st := []) dX8_goesOn_1 (mc_X8_here J e2) cb_X8_here ml_X8_252 isC_X8 ob_SMod (zm0 _ _ _ _ _ _ _) (rmok (Nat.le_of_ble_eq_true rfl) (Nat.le_of_ble_eq_true rfl)) (Nat.le_of_ble_eq_true rfl) rfl ?_
  refine g_bipush O (pc := 4) dX8_goesOn_4 bp_40 ?_
  refine g_icmp_ne O (pc := 6) 64 dX8_goesOn_6 (by decide) (fun h3 => ?_) (fun h3 => ?_)
  · rw [if_neg h3] at hF
    refine g_sub [0] (L' := [(0, .ref (0))]) rfl ?_
    exact c_X8_goesOn_b64 O _ _ _ hF
  · rw [if_pos h3] at hF
    refine g_aload_n O (pc := 9) dX8_goesOn_9 0 rfl ?_
    refine g_getI O (pc := 10) isC_X8 dX8_goesOn_10 fw_X8_262 (by decide) fd_SMod_0_45 ?_
    refine g_iconst O (pc := 13) dX8_goesOn_13 (ic_4) ?_
    refine g_icmp_ge O (pc := 14) 64 dX8_goesOn_14 (by decide) (fun h4 => ?_) (fun h4 => ?_)
    · rw [if_pos h4] at hF
      refine g_sub [0] (L' := [(0, .ref (0))]) rfl ?_
      exact c_X8_goesOn_b64 O _ _ _ hF
    · rw [if_neg h4] at hF
      refine g_aload_n O (pc := 17) dX8_goesOn_17 0 rfl ?_
      refine g_getR O (pc := 18) isC_X8 dX8_goesOn_18 fw_X8_96 (by decide) fd_SMod_0_46 ?_
      refine g_aload_n O (pc := 21) dX8_goesOn_21 0 rfl ?_
      refine g_getI O (pc := 22) isC_X8 dX8_goesOn_22 fw_X8_262 (by decide) fd_SMod_0_45 ?_
      refine g_aload_n O (pc := 25) dX8_goesOn_25 0 rfl ?_
      refine g_getI O (pc := 26) isC_X8 dX8_goesOn_26 fw_X8_249 (by decide) fd_SMod_0_41 ?_
      refine g_iconst O (pc := 29) dX8_goesOn_29 (ic_1) ?_
      refine g_isub O (pc := 30) dX8_goesOn_30 ?_
      obtain ⟨h5, hF⟩ := gd hF
      refine g_is O (pc := 31) dX8_goesOn_31 ar_SMod_27 h5 ?_
      refine g_aload_n O (pc := 32) dX8_goesOn_32 0 rfl ?_
      refine g_getR O (pc := 33) isC_X8 dX8_goesOn_33 fw_X8_99 (by decide) fd_SMod_0_47 ?_
      refine g_aload_n O (pc := 36) dX8_goesOn_36 0 rfl ?_
      refine g_getI O (pc := 37) isC_X8 dX8_goesOn_37 fw_X8_262 (by decide) fd_SMod_0_45 ?_
      refine g_iconst O (pc := 40) dX8_goesOn_40 (ic_1) ?_
      obtain ⟨h6, hF⟩ := gd hF
      refine g_is O (pc := 41) dX8_goesOn_41 ar_SMod_28 h6 ?_
      obtain ⟨I7, g8, hF⟩ := bnd hF
      refine g_nmI (Option.some.inj g8) ?_
      refine g_aload_n O (pc := 42) dX8_goesOn_42 0 rfl ?_
      refine g_dup O (pc := 43) dX8_goesOn_43 rfl ?_
      refine g_getI O (pc := 44) isC_X8 dX8_goesOn_44 fw_X8_262 (by decide) fd_SMod_0_45 ?_
      refine g_iconst O (pc := 47) dX8_goesOn_47 (ic_1) ?_
      refine g_iadd O (pc := 48) dX8_goesOn_48 ?_
      refine g_putI O (pc := 49) isC_X8 isT_X8 dX8_goesOn_49 fw_X8_262 (by decide) rfl rfl fd_SMod_0_45 ?_
      refine g_aload_n O (pc := 52) dX8_goesOn_52 0 rfl ?_
      refine g_dup O (pc := 53) dX8_goesOn_53 rfl ?_
      refine g_getI O (pc := 54) isC_X8 dX8_goesOn_54 fw_X8_246 (by decide) fd_SMod_0_39 ?_
      refine g_iconst O (pc := 57) dX8_goesOn_57 (ic_1) ?_
      refine g_iadd O (pc := 58) dX8_goesOn_58 ?_
      refine g_putI O (pc := 59) isC_X8 isT_X8 dX8_goesOn_59 fw_X8_246 (by decide) rfl rfl fd_SMod_0_39 ?_
      obtain ⟨I9, g10, hF⟩ := bnd hF
      refine g_nmI (Option.some.inj g10) ?_
      refine g_iconst O (pc := 62) dX8_goesOn_62 (ic_1) ?_
      obtain rfl := Option.some.inj hF
      exact g_zreturn O (pc := 63) dX8_goesOn_63 (by decide) rfl

theorem mc_X8_goesOn {I : IS} (J : JS) {q : Int32 × IS} (hF : f_X8_goesOn I = some q) : MC yX8_goesOn cX8_goesOn 1 (some .boolean) (rm_ 1 20) SMod 36 [.ref (0)] I J (some (.int q.1), q.2, J) :=
  mc_of pn_X8 (Nat.le_of_ble_eq_true rfl) (fun z O => c_X8_goesOn_e O _ _ hF)

def f_X8_image (I : IS) : Option (Int32 × IS) :=
  (f_X8_carryAll (21) ((1 : Int32)) (u2 (u2 I (0) 29 ((0 : Int32))) (0) 32 ((1 : Int32)))).bind fun q1 =>
  (some ((q1 (0) 6), q1))
set_option maxHeartbeats 4000000 in
set_option maxRecDepth 100000 in
theorem c_X8_image_e {z : CTX} {J : JS} (O : OK z cX8_image RX8 1 SMod 36 (rm_ 3 65) (some .int)) : ∀ (I : IS) (q : Int32 × IS), f_X8_image I = some q → G z 0 [(0, .ref (0))] [] I J (some (.int q.1), q.2, J) := by
  intro I q hF
  rw [f_X8_image] at hF
  refine g_aload_n O (pc := 0) dX8_image_0 0 rfl ?_
  refine g_iconst O (pc := 1) dX8_image_1 (ic_0) ?_
  refine g_putI O (pc := 2) isC_X8 isT_X8 dX8_image_2 fw_X8_124 (by decide) rfl rfl fd_SMod_0_29 ?_
  refine g_aload_n O (pc := 5) dX8_image_5 0 rfl ?_
  refine g_iconst O (pc := 6) dX8_image_6 (ic_1) ?_
  refine g_putZ O (pc := 7) isC_X8 isT_X8 dX8_image_7 fw_X8_170 (by decide) rfl rfl (by decide) fd_SMod_0_32 ?_
  refine g_aload_n O (pc := 10) dX8_image_10 0 rfl ?_
  refine g_aload_n O (pc := 11) dX8_image_11 0 rfl ?_
  refine g_getR O (pc := 12) isC_X8 dX8_image_12 fw_X8_77 (by decide) fd_SMod_0_31 ?_
  refine g_iconst O (pc := 15) dX8_image_15 (ic_1) ?_
  obtain ⟨q1, e2, hF⟩ := bnd hF
  refine g_Vv O (pc := 16) (st := []) dX8_image_16 (mc_X8_carryAll J e2) cb_X8_carryAll ml_X8_166 isC_X8 ob_SMod (zm0 _ _ _ _ _ _ _) (rmok (Nat.le_of_ble_eq_true rfl) (Nat.le_of_ble_eq_true rfl)) (Nat.le_of_ble_eq_true rfl) rfl ?_
  refine g_aload_n O (pc := 19) dX8_image_19 0 rfl ?_
  refine g_getI O (pc := 20) isC_X8 dX8_image_20 fw_X8_127 (by decide) fd_SMod_0_6 ?_
  obtain rfl := Option.some.inj hF
  exact g_ireturn O (pc := 23) dX8_image_23 rfl

theorem mc_X8_image {I : IS} (J : JS) {q : Int32 × IS} (hF : f_X8_image I = some q) : MC yX8_image cX8_image 1 (some .int) (rm_ 3 65) SMod 36 [.ref (0)] I J (some (.int q.1), q.2, J) :=
  mc_of pn_X8 (Nat.le_of_ble_eq_true rfl) (fun z O => c_X8_image_e O _ _ hF)

def f_X8_isTape (x1 : Int32) (I : IS) : Option (Int32) :=
  (f_X8_in ((x1).toInt64) ((0 : Int64)) ((5 : Int64))).bind fun q1 =>
  (if okZ (q1) = true then some (q1) else none)
set_option maxHeartbeats 4000000 in
set_option maxRecDepth 100000 in
theorem c_X8_isTape_e {z : CTX} {J : JS} (O : OK z cX8_isTape RX8 2 SMod 36 (rm_ 1 25) (some .boolean)) : ∀ (x1 : Int32) (I : IS) (q : Int32), f_X8_isTape x1 I = some q → G z 0 [(0, .ref (0)), (1, .int (x1))] [] I J (some (.int q), I, J) := by
  intro x1 I q hF
  rw [f_X8_isTape] at hF
  refine g_iload_n O (pc := 0) dX8_isTape_0 1 rfl ?_
  refine g_i2l O (pc := 1) dX8_isTape_1 ?_
  refine g_lconst O (pc := 2) dX8_isTape_2 lc_0 ?_
  refine g_ldc2 O (pc := 3) kw_X8_364 dX8_isTape_3 ?_
  obtain ⟨q1, e2, hF⟩ := bnd hF
  refine g_Si O (pc := 6) (st := []) dX8_isTape_6 (mc_X8_in I J e2) cs_X8_in ml_X8_130 rfl (rmok (Nat.le_of_ble_eq_true rfl) (Nat.le_of_ble_eq_true rfl)) (Nat.le_of_ble_eq_true rfl) (fun _ => rfl) rfl ?_
  obtain ⟨h3, hF⟩ := gd hF
  obtain rfl := Option.some.inj hF
  exact g_zreturn O (pc := 9) dX8_isTape_9 h3 rfl

theorem mc_X8_isTape {x1 : Int32} {I : IS} (J : JS) {q : Int32} (hF : f_X8_isTape x1 I = some q) : MC yX8_isTape cX8_isTape 2 (some .boolean) (rm_ 1 25) SMod 36 [.ref (0), .int (x1)] I J (some (.int q), I, J) :=
  mc_of pn_X8 (Nat.le_of_ble_eq_true rfl) (fun z O => c_X8_isTape_e O _ _ _ hF)

def f_X8_narrowed_b59 (t0 : Int64) : Option (Int64) :=
  some (t0)
set_option maxHeartbeats 4000000 in
set_option maxRecDepth 100000 in
theorem c_X8_narrowed_b59 {z : CTX} {I : IS} {J : JS} (O : OK z cX8_narrowed RX8 3 SArm 0 (rm_ 0 0) (some .long)) : ∀ (t0 : Int64) (q : Int64), f_X8_narrowed_b59 t0 = some q → G z 59 [] [.long (t0)] I J (some (.long q), I, J) := by
  intro t0 q hF
  rw [f_X8_narrowed_b59] at hF
  obtain rfl := Option.some.inj hF
  exact g_lreturn O (pc := 59) dX8_narrowed_59 rfl

def f_X8_narrowed (w0 : Int64) (x2 : Int32) : Option (Int64) :=
  if x2 = 0 then
  (some ((((w0).toInt32).toInt8.toInt32).toInt64))
  else if x2 = 1 then
  (some ((((w0).toInt32).toInt16.toInt32).toInt64))
  else if x2 = 2 then
  (some (((w0).toInt32).toInt64))
  else if x2 = 3 then
  (some (w0))
  else (if (lg_cmp w0 (0 : Int64)) = 0 then
  (f_X8_narrowed_b59 ((0 : Int64)))
  else
  (f_X8_narrowed_b59 ((1 : Int64))))
set_option maxHeartbeats 4000000 in
set_option maxRecDepth 100000 in
theorem c_X8_narrowed_e {z : CTX} {I : IS} {J : JS} (O : OK z cX8_narrowed RX8 3 SArm 0 (rm_ 0 0) (some .long)) : ∀ (w0 : Int64) (x2 : Int32) (q : Int64), f_X8_narrowed w0 x2 = some q → G z 0 [(0, .long (w0)), (2, .int (x2))] [] I J (some (.long q), I, J) := by
  intro w0 x2 q hF
  rw [f_X8_narrowed] at hF
  refine g_iload_n O (pc := 0) dX8_narrowed_0 1 rfl ?_
  by_cases h1 : x2 = 0
  · rw [if_pos h1] at hF
    refine g_tabIn O (pc := 1) (31) 32 dX8_narrowed_1 h1 (by decide) (by decide) rfl (by decide) ?_
    refine g_lload_n O (pc := 32) dX8_narrowed_32 0 rfl ?_
    refine g_l2i O (pc := 33) dX8_narrowed_33 ?_
    refine g_i2b O (pc := 34) dX8_narrowed_34 ?_
    refine g_i2l O (pc := 35) dX8_narrowed_35 ?_
    obtain rfl := Option.some.inj hF
    exact g_lreturn O (pc := 36) dX8_narrowed_36 rfl
  rw [if_neg h1] at hF
  by_cases h2 : x2 = 1
  · rw [if_pos h2] at hF
    refine g_tabIn O (pc := 1) (36) 37 dX8_narrowed_1 h2 (by decide) (by decide) rfl (by decide) ?_
    refine g_lload_n O (pc := 37) dX8_narrowed_37 0 rfl ?_
    refine g_l2i O (pc := 38) dX8_narrowed_38 ?_
    refine g_i2s O (pc := 39) dX8_narrowed_39 ?_
    refine g_i2l O (pc := 40) dX8_narrowed_40 ?_
    obtain rfl := Option.some.inj hF
    exact g_lreturn O (pc := 41) dX8_narrowed_41 rfl
  rw [if_neg h2] at hF
  by_cases h3 : x2 = 2
  · rw [if_pos h3] at hF
    refine g_tabIn O (pc := 1) (41) 42 dX8_narrowed_1 h3 (by decide) (by decide) rfl (by decide) ?_
    refine g_lload_n O (pc := 42) dX8_narrowed_42 0 rfl ?_
    refine g_l2i O (pc := 43) dX8_narrowed_43 ?_
    refine g_i2l O (pc := 44) dX8_narrowed_44 ?_
    obtain rfl := Option.some.inj hF
    exact g_lreturn O (pc := 45) dX8_narrowed_45 rfl
  rw [if_neg h3] at hF
  by_cases h4 : x2 = 3
  · rw [if_pos h4] at hF
    refine g_tabIn O (pc := 1) (45) 46 dX8_narrowed_1 h4 (by decide) (by decide) rfl (by decide) ?_
    refine g_lload_n O (pc := 46) dX8_narrowed_46 0 rfl ?_
    obtain rfl := Option.some.inj hF
    exact g_lreturn O (pc := 47) dX8_narrowed_47 rfl
  rw [if_neg h4] at hF
  have ih1 : ¬ (x2).toInt = 0 := fun q => h1 (Int32.toInt_inj.mp q)
  have ih2 : ¬ (x2).toInt = 1 := fun q => h2 (Int32.toInt_inj.mp q)
  have ih3 : ¬ (x2).toInt = 2 := fun q => h3 (Int32.toInt_inj.mp q)
  have ih4 : ¬ (x2).toInt = 3 := fun q => h4 (Int32.toInt_inj.mp q)
  refine g_tabOut O (pc := 1) 48 dX8_narrowed_1 (by omega) (by decide) ?_
  refine g_lload_n O (pc := 48) dX8_narrowed_48 0 rfl ?_
  refine g_lconst O (pc := 49) dX8_narrowed_49 lc_0 ?_
  refine g_lcmp O (pc := 50) dX8_narrowed_50 ?_
  refine g_if_ne O (pc := 51) 58 dX8_narrowed_51 (by decide) (fun h5 => ?_) (fun h5 => ?_)
  · rw [if_neg h5] at hF
    refine g_lconst O (pc := 58) dX8_narrowed_58 lc_1 ?_
    refine g_sub [] (L' := []) rfl ?_
    exact c_X8_narrowed_b59 O _ _ hF
  · rw [if_pos h5] at hF
    refine g_lconst O (pc := 54) dX8_narrowed_54 lc_0 ?_
    refine g_goto O (pc := 55) 59 dX8_narrowed_55 (by decide) ?_
    refine g_sub [] (L' := []) rfl ?_
    exact c_X8_narrowed_b59 O _ _ hF

theorem mc_X8_narrowed {w0 : Int64} {x2 : Int32} (I : IS) (J : JS) {q : Int64} (hF : f_X8_narrowed w0 x2 = some q) : MC yX8_narrowed cX8_narrowed 3 (some .long) (rm_ 0 0) SArm 0 [.long (w0), .int (x2)] I J (some (.long q), I, J) :=
  mc_of pn_X8 (Nat.le_of_ble_eq_true rfl) (fun z O => c_X8_narrowed_e O _ _ _ hF)

def f_X8_item (x1 : Int32) (x2 : Int32) (w3 : Int64) (I : IS) (J : JS) : Option (Int32 × IS × JS) :=
  (f_X8_isTape (x1) (u2 I (0) 29 ((0 : Int32)))).bind fun q1 =>
  (if q1 = 0 then
  (some ((-1 : Int32), (u2 I (0) 29 ((0 : Int32))), J))
  else
  (if okI (x1) 6 = true then
  (if ((u2 I (0) 29 ((0 : Int32))) (35) (x1).toNatClampNeg) = 0 then
  (some ((-11 : Int32), (u2 I (0) 29 ((0 : Int32))), J))
  else
  (if okI (x1) 6 = true then
  ((f_X8_in ((x2).toInt64) ((0 : Int64)) (((((u2 I (0) 29 ((0 : Int32))) (32) (x1).toNatClampNeg) - (1 : Int32))).toInt64)).bind fun q7 =>
  (if q7 = 0 then
  (some ((-13 : Int32), (u2 I (0) 29 ((0 : Int32))), J))
  else
  (if okI (x1) 6 = true then
  ((f_X8_narrowed (w3) (((u2 I (0) 29 ((0 : Int32))) (31) (x1).toNatClampNeg))).bind fun q11 =>
  (if okI ((((60 : Int32) * x1) + x2)) 360 = true then
  (some ((1 : Int32), (u2 I (0) 29 ((0 : Int32))), (u2 J (33) ((((60 : Int32) * x1) + x2)).toNatClampNeg (q11))))
  else none))
  else none)))
  else none))
  else none))
set_option maxHeartbeats 4000000 in
set_option maxRecDepth 100000 in
theorem c_X8_item_e {z : CTX} (O : OK z cX8_item RX8 5 SMod 36 (rm_ 2 46) (some .int)) : ∀ (x1 : Int32) (x2 : Int32) (w3 : Int64) (I : IS) (J : JS) (q : Int32 × IS × JS), f_X8_item x1 x2 w3 I J = some q → G z 0 [(0, .ref (0)), (1, .int (x1)), (2, .int (x2)), (3, .long (w3))] [] I J (some (.int q.1), q.2.1, q.2.2) := by
  intro x1 x2 w3 I J q hF
  rw [f_X8_item] at hF
  refine g_aload_n O (pc := 0) dX8_item_0 0 rfl ?_
  refine g_iconst O (pc := 1) dX8_item_1 (ic_0) ?_
  refine g_putI O (pc := 2) isC_X8 isT_X8 dX8_item_2 fw_X8_124 (by decide) rfl rfl fd_SMod_0_29 ?_
  refine g_aload_n O (pc := 5) dX8_item_5 0 rfl ?_
  refine g_iload_n O (pc := 6) dX8_item_6 1 rfl ?_
  obtain ⟨q1, e2, hF⟩ := bnd hF
  refine g_Vi O (pc := 7) (st := []) dX8_item_7 (mc_X8_isTape J e2) cb_X8_isTape ml_X8_366 isC_X8 ob_SMod (zm0 _ _ _ _ _ _ _) (rmok (Nat.le_of_ble_eq_true rfl) (Nat.le_of_ble_eq_true rfl)) (Nat.le_of_ble_eq_true rfl) rfl ?_
  refine g_if_ne O (pc := 10) 15 dX8_item_10 (by decide) (fun h3 => ?_) (fun h3 => ?_)
  · rw [if_neg h3] at hF
    refine g_aload_n O (pc := 15) dX8_item_15 0 rfl ?_
    refine g_getR O (pc := 16) isC_X8 dX8_item_16 fw_X8_121 (by decide) fd_SMod_0_54 ?_
    refine g_iload_n O (pc := 19) dX8_item_19 1 rfl ?_
    obtain ⟨h4, hF⟩ := gd hF
    refine g_zl O (pc := 20) dX8_item_20 ar_SMod_35 h4 ?_
    refine g_if_ne O (pc := 21) 27 dX8_item_21 (by decide) (fun h5 => ?_) (fun h5 => ?_)
    · rw [if_neg h5] at hF
      refine g_iload_n O (pc := 27) dX8_item_27 2 rfl ?_
      refine g_i2l O (pc := 28) dX8_item_28 ?_
      refine g_lconst O (pc := 29) dX8_item_29 lc_0 ?_
      refine g_aload_n O (pc := 30) dX8_item_30 0 rfl ?_
      refine g_getR O (pc := 31) isC_X8 dX8_item_31 fw_X8_111 (by decide) fd_SMod_0_51 ?_
      refine g_iload_n O (pc := 34) dX8_item_34 1 rfl ?_
      obtain ⟨h6, hF⟩ := gd hF
      refine g_il O (pc := 35) dX8_item_35 ar_SMod_32 h6 ?_
      refine g_iconst O (pc := 36) dX8_item_36 (ic_1) ?_
      refine g_isub O (pc := 37) dX8_item_37 ?_
      refine g_i2l O (pc := 38) dX8_item_38 ?_
      obtain ⟨q7, e8, hF⟩ := bnd hF
      refine g_Si O (pc := 39) (st := []) dX8_item_39 (mc_X8_in (u2 I (0) 29 ((0 : Int32))) J e8) cs_X8_in ml_X8_130 rfl (rmok (Nat.le_of_ble_eq_true rfl) (Nat.le_of_ble_eq_true rfl)) (Nat.le_of_ble_eq_true rfl) (fun _ => rfl) rfl ?_
      refine g_if_ne O (pc := 42) 48 dX8_item_42 (by decide) (fun h9 => ?_) (fun h9 => ?_)
      · rw [if_neg h9] at hF
        refine g_aload_n O (pc := 48) dX8_item_48 0 rfl ?_
        refine g_getR O (pc := 49) isC_X8 dX8_item_49 fw_X8_114 (by decide) fd_SMod_0_52 ?_
        refine g_bipush O (pc := 52) dX8_item_52 bp_60 ?_
        refine g_iload_n O (pc := 54) dX8_item_54 1 rfl ?_
        refine g_imul O (pc := 55) dX8_item_55 ?_
        refine g_iload_n O (pc := 56) dX8_item_56 2 rfl ?_
        refine g_iadd O (pc := 57) dX8_item_57 ?_
        refine g_lload_n O (pc := 58) dX8_item_58 3 rfl ?_
        refine g_aload_n O (pc := 59) dX8_item_59 0 rfl ?_
        refine g_getR O (pc := 60) isC_X8 dX8_item_60 fw_X8_108 (by decide) fd_SMod_0_50 ?_
        refine g_iload_n O (pc := 63) dX8_item_63 1 rfl ?_
        obtain ⟨h10, hF⟩ := gd hF
        refine g_il O (pc := 64) dX8_item_64 ar_SMod_31 h10 ?_
        obtain ⟨q11, e12, hF⟩ := bnd hF
        refine g_Sl O (pc := 65) (st := [.int ((((60 : Int32) * x1) + x2)), .ref (33)]) dX8_item_65 (mc_X8_narrowed (u2 I (0) 29 ((0 : Int32))) J e12) cs_X8_narrowed ml_X8_371 rfl (rmok (Nat.le_of_ble_eq_true rfl) (Nat.le_of_ble_eq_true rfl)) (Nat.le_of_ble_eq_true rfl) (fun _ => rfl) rfl ?_
        obtain ⟨h13, hF⟩ := gd hF
        refine g_ls O (pc := 68) dX8_item_68 ar_SMod_33 h13 ?_
        refine g_iconst O (pc := 69) dX8_item_69 (ic_1) ?_
        obtain rfl := Option.some.inj hF
        exact g_ireturn O (pc := 70) dX8_item_70 rfl
      · rw [if_pos h9] at hF
        refine g_bipush O (pc := 45) dX8_item_45 bp_m13 ?_
        obtain rfl := Option.some.inj hF
        exact g_ireturn O (pc := 47) dX8_item_47 rfl
    · rw [if_pos h5] at hF
      refine g_bipush O (pc := 24) dX8_item_24 bp_m11 ?_
      obtain rfl := Option.some.inj hF
      exact g_ireturn O (pc := 26) dX8_item_26 rfl
  · rw [if_pos h3] at hF
    refine g_iconst O (pc := 13) dX8_item_13 (ic_m1) ?_
    obtain rfl := Option.some.inj hF
    exact g_ireturn O (pc := 14) dX8_item_14 rfl

theorem mc_X8_item {x1 : Int32} {x2 : Int32} {w3 : Int64} {I : IS} {J : JS} {q : Int32 × IS × JS} (hF : f_X8_item x1 x2 w3 I J = some q) : MC yX8_item cX8_item 5 (some .int) (rm_ 2 46) SMod 36 [.ref (0), .int (x1), .int (x2), .long (w3)] I J (some (.int q.1), q.2.1, q.2.2) :=
  mc_of pn_X8 (Nat.le_of_ble_eq_true rfl) (fun z O => c_X8_item_e O _ _ _ _ _ _ hF)

def f_X8_judge_b75 (x3 : Int32) (I : IS) (J : JS) : Option (Int32 × IS) :=
  some (((100 : Int32) + x3), I)
set_option maxHeartbeats 4000000 in
set_option maxRecDepth 100000 in
theorem c_X8_judge_b75 {z : CTX} (O : OK z cX8_judge RX8 4 SMod 36 (rm_ 2 46) (some .int)) : ∀ (x3 : Int32) (I : IS) (J : JS) (q : Int32 × IS), f_X8_judge_b75 x3 I J = some q → G z 75 [(3, .int (x3))] [] I J (some (.int q.1), q.2, J) := by
  intro x3 I J q hF
  rw [f_X8_judge_b75] at hF
  refine g_bipush O (pc := 75) dX8_judge_75 bp_100 ?_
  refine g_iload_n O (pc := 77) dX8_judge_77 0 rfl ?_
  refine g_iadd O (pc := 78) dX8_judge_78 ?_
  obtain rfl := Option.some.inj hF
  exact g_ireturn O (pc := 79) dX8_judge_79 rfl

def f_X8_judge_b38 : Nat → Int32 → Int32 → Int32 → IS → JS → Option (Int32 × IS)
  | 0, _, _, _, _, _ => none
  | fu + 1, x1, x2, x3, I, J =>
    if (I (0) 6) ≤ x3 then
    (some ((-5 : Int32), I))
    else
    (if okI (x1) 6 = true then
    (if (I (35) (x1).toNatClampNeg) = 0 then
    (f_X8_judge_b75 (x3) (I) (J))
    else
    (if x2 < 0 then
    (f_X8_judge_b75 (x3) (I) (J))
    else
    (if okI (x1) 6 = true then
    (if (lg_cmp (((x2).toInt64 + (x3).toInt64)) (((I (32) (x1).toNatClampNeg)).toInt64)) < 0 then
    (if okI (((((60 : Int32) * x1) + x2) + x3)) 360 = true then
    (if okI (x3) 32 = true then
    (if (lg_cmp ((J (33) (((((60 : Int32) * x1) + x2) + x3)).toNatClampNeg)) (((I (9) (x3).toNatClampNeg)).toInt64)) = 0 then
    (f_X8_judge_b38 fu (x1) (x2) (x3 + (1 : Int32)) (I) (J))
    else
    (some (x3, I)))
    else none)
    else none)
    else
    (f_X8_judge_b75 (x3) (I) (J)))
    else none)))
    else none)
set_option maxHeartbeats 4000000 in
set_option maxRecDepth 100000 in
theorem c_X8_judge_b38 {z : CTX} (O : OK z cX8_judge RX8 4 SMod 36 (rm_ 2 46) (some .int)) : ∀ (fu : Nat) (x1 : Int32) (x2 : Int32) (x3 : Int32) (I : IS) (J : JS) (q : Int32 × IS), f_X8_judge_b38 fu x1 x2 x3 I J = some q → G z 38 [(0, .ref (0)), (1, .int (x1)), (2, .int (x2)), (3, .int (x3))] [] I J (some (.int q.1), q.2, J) := by
  intro fu
  induction fu with
  | zero =>
    intro x1 x2 x3 I J q hF
    cases hF
  | succ fu ih =>
    intro x1 x2 x3 I J q hF
    rw [f_X8_judge_b38] at hF
    refine g_iload_n O (pc := 38) dX8_judge_38 3 rfl ?_
    refine g_aload_n O (pc := 39) dX8_judge_39 0 rfl ?_
    refine g_getI O (pc := 40) isC_X8 dX8_judge_40 fw_X8_127 (by decide) fd_SMod_0_6 ?_
    refine g_icmp_ge O (pc := 43) 112 dX8_judge_43 (by decide) (fun h1 => ?_) (fun h1 => ?_)
    · rw [if_pos h1] at hF
      refine g_bipush O (pc := 112) dX8_judge_112 bp_m5 ?_
      obtain rfl := Option.some.inj hF
      exact g_ireturn O (pc := 114) dX8_judge_114 rfl
    · rw [if_neg h1] at hF
      refine g_aload_n O (pc := 46) dX8_judge_46 0 rfl ?_
      refine g_getR O (pc := 47) isC_X8 dX8_judge_47 fw_X8_121 (by decide) fd_SMod_0_54 ?_
      refine g_iload_n O (pc := 50) dX8_judge_50 1 rfl ?_
      obtain ⟨h2, hF⟩ := gd hF
      refine g_zl O (pc := 51) dX8_judge_51 ar_SMod_35 h2 ?_
      refine g_if_eq O (pc := 52) 75 dX8_judge_52 (by decide) (fun h3 => ?_) (fun h3 => ?_)
      · rw [if_pos h3] at hF
        refine g_sub [3] (L' := [(3, .int (x3))]) rfl ?_
        exact c_X8_judge_b75 O _ _ _ _ hF
      · rw [if_neg h3] at hF
        refine g_iload_n O (pc := 55) dX8_judge_55 2 rfl ?_
        refine g_if_lt O (pc := 56) 75 dX8_judge_56 (by decide) (fun h4 => ?_) (fun h4 => ?_)
        · rw [if_pos h4] at hF
          refine g_sub [3] (L' := [(3, .int (x3))]) rfl ?_
          exact c_X8_judge_b75 O _ _ _ _ hF
        · rw [if_neg h4] at hF
          refine g_iload_n O (pc := 59) dX8_judge_59 2 rfl ?_
          refine g_i2l O (pc := 60) dX8_judge_60 ?_
          refine g_iload_n O (pc := 61) dX8_judge_61 3 rfl ?_
          refine g_i2l O (pc := 62) dX8_judge_62 ?_
          refine g_ladd O (pc := 63) dX8_judge_63 ?_
          refine g_aload_n O (pc := 64) dX8_judge_64 0 rfl ?_
          refine g_getR O (pc := 65) isC_X8 dX8_judge_65 fw_X8_111 (by decide) fd_SMod_0_51 ?_
          refine g_iload_n O (pc := 68) dX8_judge_68 1 rfl ?_
          obtain ⟨h5, hF⟩ := gd hF
          refine g_il O (pc := 69) dX8_judge_69 ar_SMod_32 h5 ?_
          refine g_i2l O (pc := 70) dX8_judge_70 ?_
          refine g_lcmp O (pc := 71) dX8_judge_71 ?_
          refine g_if_lt O (pc := 72) 80 dX8_judge_72 (by decide) (fun h6 => ?_) (fun h6 => ?_)
          · rw [if_pos h6] at hF
            refine g_aload_n O (pc := 80) dX8_judge_80 0 rfl ?_
            refine g_getR O (pc := 81) isC_X8 dX8_judge_81 fw_X8_114 (by decide) fd_SMod_0_52 ?_
            refine g_bipush O (pc := 84) dX8_judge_84 bp_60 ?_
            refine g_iload_n O (pc := 86) dX8_judge_86 1 rfl ?_
            refine g_imul O (pc := 87) dX8_judge_87 ?_
            refine g_iload_n O (pc := 88) dX8_judge_88 2 rfl ?_
            refine g_iadd O (pc := 89) dX8_judge_89 ?_
            refine g_iload_n O (pc := 90) dX8_judge_90 3 rfl ?_
            refine g_iadd O (pc := 91) dX8_judge_91 ?_
            obtain ⟨h7, hF⟩ := gd hF
            refine g_ll O (pc := 92) dX8_judge_92 ar_SMod_33 h7 ?_
            refine g_aload_n O (pc := 93) dX8_judge_93 0 rfl ?_
            refine g_getR O (pc := 94) isC_X8 dX8_judge_94 fw_X8_38 (by decide) fd_SMod_0_10 ?_
            refine g_iload_n O (pc := 97) dX8_judge_97 3 rfl ?_
            obtain ⟨h8, hF⟩ := gd hF
            refine g_il O (pc := 98) dX8_judge_98 ar_SMod_9 h8 ?_
            refine g_i2l O (pc := 99) dX8_judge_99 ?_
            refine g_lcmp O (pc := 100) dX8_judge_100 ?_
            refine g_if_eq O (pc := 101) 106 dX8_judge_101 (by decide) (fun h9 => ?_) (fun h9 => ?_)
            · rw [if_pos h9] at hF
              refine g_iinc O (pc := 106) (v := x3 + (1 : Int32)) (L' := [(3, .int (x3 + (1 : Int32))), (0, .ref (0)), (1, .int (x1)), (2, .int (x2))]) dX8_judge_106 3 rfl rfl (by decide) rfl ?_
              refine g_goto O (pc := 109) 38 dX8_judge_109 (by decide) ?_
              refine g_sub [1, 2, 3, 0] (L' := [(0, .ref (0)), (1, .int (x1)), (2, .int (x2)), (3, .int (x3 + (1 : Int32)))]) rfl ?_
              exact ih _ _ _ _ _ _ hF
            · rw [if_neg h9] at hF
              refine g_iload_n O (pc := 104) dX8_judge_104 3 rfl ?_
              obtain rfl := Option.some.inj hF
              exact g_ireturn O (pc := 105) dX8_judge_105 rfl
          · rw [if_neg h6] at hF
            refine g_sub [3] (L' := [(3, .int (x3))]) rfl ?_
            exact c_X8_judge_b75 O _ _ _ _ hF

def f_X8_judge_b36 (x1 : Int32) (x2 : Int32) (I : IS) (J : JS) : Option (Int32 × IS) :=
  f_X8_judge_b38 LF (x1) (x2) ((0 : Int32)) (I) (J)
set_option maxHeartbeats 4000000 in
set_option maxRecDepth 100000 in
theorem c_X8_judge_b36 {z : CTX} (O : OK z cX8_judge RX8 4 SMod 36 (rm_ 2 46) (some .int)) : ∀ (x1 : Int32) (x2 : Int32) (I : IS) (J : JS) (q : Int32 × IS), f_X8_judge_b36 x1 x2 I J = some q → G z 36 [(0, .ref (0)), (1, .int (x1)), (2, .int (x2))] [] I J (some (.int q.1), q.2, J) := by
  intro x1 x2 I J q hF
  rw [f_X8_judge_b36] at hF
  refine g_iconst O (pc := 36) dX8_judge_36 (ic_0) ?_
  refine g_istore_n O (pc := 37) (L' := [(3, .int ((0 : Int32))), (0, .ref (0)), (1, .int (x1)), (2, .int (x2))]) dX8_judge_37 (by decide) rfl ?_
  refine g_sub [1, 2, 3, 0] (L' := [(0, .ref (0)), (1, .int (x1)), (2, .int (x2)), (3, .int ((0 : Int32)))]) rfl ?_
  exact c_X8_judge_b38 O _ _ _ _ _ _ _ hF

def f_X8_judge (x1 : Int32) (x2 : Int32) (I : IS) (J : JS) : Option (Int32 × IS) :=
  (f_X8_isTape (x1) (u2 I (0) 29 ((0 : Int32)))).bind fun q1 =>
  (if q1 = 0 then
  (some ((-1 : Int32), (u2 I (0) 29 ((0 : Int32)))))
  else
  (if okI (x1) 6 = true then
  (if ((u2 I (0) 29 ((0 : Int32))) (35) (x1).toNatClampNeg) = 0 then
  (f_X8_judge_b36 (x1) (x2) ((u2 I (0) 29 ((0 : Int32)))) (J))
  else
  (if okI (x1) 6 = true then
  (if ((u2 I (0) 29 ((0 : Int32))) (31) (x1).toNatClampNeg) = 0 then
  (f_X8_judge_b36 (x1) (x2) ((u2 I (0) 29 ((0 : Int32)))) (J))
  else
  (some ((-12 : Int32), (u2 I (0) 29 ((0 : Int32))))))
  else none))
  else none))
set_option maxHeartbeats 4000000 in
set_option maxRecDepth 100000 in
theorem c_X8_judge_e {z : CTX} (O : OK z cX8_judge RX8 4 SMod 36 (rm_ 2 46) (some .int)) : ∀ (x1 : Int32) (x2 : Int32) (I : IS) (J : JS) (q : Int32 × IS), f_X8_judge x1 x2 I J = some q → G z 0 [(0, .ref (0)), (1, .int (x1)), (2, .int (x2))] [] I J (some (.int q.1), q.2, J) := by
  intro x1 x2 I J q hF
  rw [f_X8_judge] at hF
  refine g_aload_n O (pc := 0) dX8_judge_0 0 rfl ?_
  refine g_iconst O (pc := 1) dX8_judge_1 (ic_0) ?_
  refine g_putI O (pc := 2) isC_X8 isT_X8 dX8_judge_2 fw_X8_124 (by decide) rfl rfl fd_SMod_0_29 ?_
  refine g_aload_n O (pc := 5) dX8_judge_5 0 rfl ?_
  refine g_iload_n O (pc := 6) dX8_judge_6 1 rfl ?_
  obtain ⟨q1, e2, hF⟩ := bnd hF
  refine g_Vi O (pc := 7) (st := []) dX8_judge_7 (mc_X8_isTape J e2) cb_X8_isTape ml_X8_366 isC_X8 ob_SMod (zm0 _ _ _ _ _ _ _) (rmok (Nat.le_of_ble_eq_true rfl) (Nat.le_of_ble_eq_true rfl)) (Nat.le_of_ble_eq_true rfl) rfl ?_
  refine g_if_ne O (pc := 10) 15 dX8_judge_10 (by decide) (fun h3 => ?_) (fun h3 => ?_)
  · rw [if_neg h3] at hF
    refine g_aload_n O (pc := 15) dX8_judge_15 0 rfl ?_
    refine g_getR O (pc := 16) isC_X8 dX8_judge_16 fw_X8_121 (by decide) fd_SMod_0_54 ?_
    refine g_iload_n O (pc := 19) dX8_judge_19 1 rfl ?_
    obtain ⟨h4, hF⟩ := gd hF
    refine g_zl O (pc := 20) dX8_judge_20 ar_SMod_35 h4 ?_
    refine g_if_eq O (pc := 21) 36 dX8_judge_21 (by decide) (fun h5 => ?_) (fun h5 => ?_)
    · rw [if_pos h5] at hF
      refine g_sub [0, 1, 2] (L' := [(0, .ref (0)), (1, .int (x1)), (2, .int (x2))]) rfl ?_
      exact c_X8_judge_b36 O _ _ _ _ _ hF
    · rw [if_neg h5] at hF
      refine g_aload_n O (pc := 24) dX8_judge_24 0 rfl ?_
      refine g_getR O (pc := 25) isC_X8 dX8_judge_25 fw_X8_108 (by decide) fd_SMod_0_50 ?_
      refine g_iload_n O (pc := 28) dX8_judge_28 1 rfl ?_
      obtain ⟨h6, hF⟩ := gd hF
      refine g_il O (pc := 29) dX8_judge_29 ar_SMod_31 h6 ?_
      refine g_if_eq O (pc := 30) 36 dX8_judge_30 (by decide) (fun h7 => ?_) (fun h7 => ?_)
      · rw [if_pos h7] at hF
        refine g_sub [0, 1, 2] (L' := [(0, .ref (0)), (1, .int (x1)), (2, .int (x2))]) rfl ?_
        exact c_X8_judge_b36 O _ _ _ _ _ hF
      · rw [if_neg h7] at hF
        refine g_bipush O (pc := 33) dX8_judge_33 bp_m12 ?_
        obtain rfl := Option.some.inj hF
        exact g_ireturn O (pc := 35) dX8_judge_35 rfl
  · rw [if_pos h3] at hF
    refine g_iconst O (pc := 13) dX8_judge_13 (ic_m1) ?_
    obtain rfl := Option.some.inj hF
    exact g_ireturn O (pc := 14) dX8_judge_14 rfl

theorem mc_X8_judge {x1 : Int32} {x2 : Int32} {I : IS} {J : JS} {q : Int32 × IS} (hF : f_X8_judge x1 x2 I J = some q) : MC yX8_judge cX8_judge 4 (some .int) (rm_ 2 46) SMod 36 [.ref (0), .int (x1), .int (x2)] I J (some (.int q.1), q.2, J) :=
  mc_of pn_X8 (Nat.le_of_ble_eq_true rfl) (fun z O => c_X8_judge_e O _ _ _ _ _ hF)

def f_X8_laySpans_b133 (k37 : Int32 → IS → Option (IS)) (x1 : Int32) (I : IS) : Option (IS) :=
  k37 (x1 + (-1 : Int32)) (I)
set_option maxHeartbeats 4000000 in
set_option maxRecDepth 100000 in
theorem c_X8_laySpans_b133 {z : CTX} {J : JS} (O : OK z cX8_laySpans RX8 3 SMod 36 (rm_ 0 0) none) {k37 : Int32 → IS → Option (IS)} (hk37 : ∀ (x1 : Int32) (I : IS) (q : IS), k37 x1 I = some q → G z 37 [(0, .ref (0)), (1, .int (x1))] [] I J (none, q, J)) : ∀ (x1 : Int32) (I : IS) (q : IS), f_X8_laySpans_b133 k37 x1 I = some q → G z 133 [(0, .ref (0)), (1, .int (x1))] [] I J (none, q, J) := by
  intro x1 I q hF
  rw [f_X8_laySpans_b133] at hF
  refine g_iinc O (pc := 133) (v := x1 + (-1 : Int32)) (L' := [(1, .int (x1 + (-1 : Int32))), (0, .ref (0))]) dX8_laySpans_133 1 rfl rfl (by decide) rfl ?_
  refine g_goto O (pc := 136) 37 dX8_laySpans_136 (by decide) ?_
  refine g_sub [1, 0] (L' := [(0, .ref (0)), (1, .int (x1 + (-1 : Int32)))]) rfl ?_
  exact hk37 _ _ _ hF

def f_X8_laySpans_b117 (k37 : Int32 → IS → Option (IS)) (x1 : Int32) (x2 : Int32) (s1 : Int32) (s2 : Int32) (I : IS) : Option (IS) :=
  if okI (s1) 32 = true then
  (if okI (x2) 32 = true then
  (if okI (x1) 32 = true then
  (if okI (x2) 32 = true then
  ((some (u2 (u2 I (29) (s1).toNatClampNeg (s2)) (30) (x2).toNatClampNeg ((((u2 I (29) (s1).toNatClampNeg (s2)) (30) (x2).toNatClampNeg) + ((u2 I (29) (s1).toNatClampNeg (s2)) (30) (x1).toNatClampNeg))))).bind fun I5 =>
  (f_X8_laySpans_b133 k37 (x1) (I5)))
  else none)
  else none)
  else none)
  else none
set_option maxHeartbeats 4000000 in
set_option maxRecDepth 100000 in
theorem c_X8_laySpans_b117 {z : CTX} {J : JS} (O : OK z cX8_laySpans RX8 3 SMod 36 (rm_ 0 0) none) {k37 : Int32 → IS → Option (IS)} (hk37 : ∀ (x1 : Int32) (I : IS) (q : IS), k37 x1 I = some q → G z 37 [(0, .ref (0)), (1, .int (x1))] [] I J (none, q, J)) : ∀ (x1 : Int32) (x2 : Int32) (s1 : Int32) (s2 : Int32) (I : IS) (q : IS), f_X8_laySpans_b117 k37 x1 x2 s1 s2 I = some q → G z 117 [(0, .ref (0)), (1, .int (x1)), (2, .int (x2))] [.int (s2), .int (s1), .ref (29)] I J (none, q, J) := by
  intro x1 x2 s1 s2 I q hF
  rw [f_X8_laySpans_b117] at hF
  obtain ⟨h1, hF⟩ := gd hF
  refine g_is O (pc := 117) dX8_laySpans_117 ar_SMod_29 h1 ?_
  refine g_aload_n O (pc := 118) dX8_laySpans_118 0 rfl ?_
  refine g_getR O (pc := 119) isC_X8 dX8_laySpans_119 fw_X8_105 (by decide) fd_SMod_0_49 ?_
  refine g_iload_n O (pc := 122) dX8_laySpans_122 2 rfl ?_
  refine g_dup2 O (pc := 123) dX8_laySpans_123 rfl rfl ?_
  obtain ⟨h2, hF⟩ := gd hF
  refine g_il O (pc := 124) dX8_laySpans_124 ar_SMod_30 h2 ?_
  refine g_aload_n O (pc := 125) dX8_laySpans_125 0 rfl ?_
  refine g_getR O (pc := 126) isC_X8 dX8_laySpans_126 fw_X8_105 (by decide) fd_SMod_0_49 ?_
  refine g_iload_n O (pc := 129) dX8_laySpans_129 1 rfl ?_
  obtain ⟨h3, hF⟩ := gd hF
  refine g_il O (pc := 130) dX8_laySpans_130 ar_SMod_30 h3 ?_
  refine g_iadd O (pc := 131) dX8_laySpans_131 ?_
  obtain ⟨h4, hF⟩ := gd hF
  refine g_is O (pc := 132) dX8_laySpans_132 ar_SMod_30 h4 ?_
  obtain ⟨I5, g6, hF⟩ := bnd hF
  refine g_nmI (Option.some.inj g6) ?_
  refine g_sub [0, 1] (L' := [(0, .ref (0)), (1, .int (x1))]) rfl ?_
  exact c_X8_laySpans_b133 O hk37 _ _ _ hF

def f_X8_laySpans_b37 : Nat → Int32 → IS → Option (IS)
  | 0, _, _ => none
  | fu + 1, x1, I =>
    if x1 < 0 then
    (some (I))
    else
    (if okI (x1) 32 = true then
    (if okI (x1) 32 = true then
    (if okI (x1) 32 = true then
    (if okI (x1) 32 = true then
    (if okI (x1) 32 = true then
    (if okI (x1) 32 = true then
    ((some (u2 (u2 I (29) (x1).toNatClampNeg (((I (29) (x1).toNatClampNeg) + (I (7) (x1).toNatClampNeg)))) (30) (x1).toNatClampNeg ((((u2 I (29) (x1).toNatClampNeg (((I (29) (x1).toNatClampNeg) + (I (7) (x1).toNatClampNeg)))) (30) (x1).toNatClampNeg) + ((u2 I (29) (x1).toNatClampNeg (((I (29) (x1).toNatClampNeg) + (I (7) (x1).toNatClampNeg)))) (7) (x1).toNatClampNeg))))).bind fun I8 =>
    (if okI (x1) 32 = true then
    (if (I8 (10) (x1).toNatClampNeg) < 0 then
    (f_X8_laySpans_b133 (f_X8_laySpans_b37 fu) (x1) (I8))
    else
    (if okI (x1) 32 = true then
    (if okI ((I8 (10) (x1).toNatClampNeg)) 32 = true then
    (if (I8 (29) (x1).toNatClampNeg) ≤ (I8 (29) ((I8 (10) (x1).toNatClampNeg)).toNatClampNeg) then
    (if okI ((I8 (10) (x1).toNatClampNeg)) 32 = true then
    (f_X8_laySpans_b117 (f_X8_laySpans_b37 fu) (x1) ((I8 (10) (x1).toNatClampNeg)) ((I8 (10) (x1).toNatClampNeg)) ((I8 (29) ((I8 (10) (x1).toNatClampNeg)).toNatClampNeg)) (I8))
    else none)
    else
    (if okI (x1) 32 = true then
    (f_X8_laySpans_b117 (f_X8_laySpans_b37 fu) (x1) ((I8 (10) (x1).toNatClampNeg)) ((I8 (10) (x1).toNatClampNeg)) ((I8 (29) (x1).toNatClampNeg)) (I8))
    else none))
    else none)
    else none))
    else none))
    else none)
    else none)
    else none)
    else none)
    else none)
    else none)
set_option maxHeartbeats 4000000 in
set_option maxRecDepth 100000 in
theorem c_X8_laySpans_b37 {z : CTX} {J : JS} (O : OK z cX8_laySpans RX8 3 SMod 36 (rm_ 0 0) none) : ∀ (fu : Nat) (x1 : Int32) (I : IS) (q : IS), f_X8_laySpans_b37 fu x1 I = some q → G z 37 [(0, .ref (0)), (1, .int (x1))] [] I J (none, q, J) := by
  intro fu
  induction fu with
  | zero =>
    intro x1 I q hF
    cases hF
  | succ fu ih =>
    intro x1 I q hF
    rw [f_X8_laySpans_b37] at hF
    refine g_iload_n O (pc := 37) dX8_laySpans_37 1 rfl ?_
    refine g_if_lt O (pc := 38) 139 dX8_laySpans_38 (by decide) (fun h1 => ?_) (fun h1 => ?_)
    · rw [if_pos h1] at hF
      obtain rfl := Option.some.inj hF
      exact g_return O (pc := 139) dX8_laySpans_139 rfl
    · rw [if_neg h1] at hF
      refine g_aload_n O (pc := 41) dX8_laySpans_41 0 rfl ?_
      refine g_getR O (pc := 42) isC_X8 dX8_laySpans_42 fw_X8_102 (by decide) fd_SMod_0_48 ?_
      refine g_iload_n O (pc := 45) dX8_laySpans_45 1 rfl ?_
      refine g_dup2 O (pc := 46) dX8_laySpans_46 rfl rfl ?_
      obtain ⟨h2, hF⟩ := gd hF
      refine g_il O (pc := 47) dX8_laySpans_47 ar_SMod_29 h2 ?_
      refine g_aload_n O (pc := 48) dX8_laySpans_48 0 rfl ?_
      refine g_getR O (pc := 49) isC_X8 dX8_laySpans_49 fw_X8_32 (by decide) fd_SMod_0_8 ?_
      refine g_iload_n O (pc := 52) dX8_laySpans_52 1 rfl ?_
      obtain ⟨h3, hF⟩ := gd hF
      refine g_il O (pc := 53) dX8_laySpans_53 ar_SMod_7 h3 ?_
      refine g_iadd O (pc := 54) dX8_laySpans_54 ?_
      obtain ⟨h4, hF⟩ := gd hF
      refine g_is O (pc := 55) dX8_laySpans_55 ar_SMod_29 h4 ?_
      refine g_aload_n O (pc := 56) dX8_laySpans_56 0 rfl ?_
      refine g_getR O (pc := 57) isC_X8 dX8_laySpans_57 fw_X8_105 (by decide) fd_SMod_0_49 ?_
      refine g_iload_n O (pc := 60) dX8_laySpans_60 1 rfl ?_
      refine g_dup2 O (pc := 61) dX8_laySpans_61 rfl rfl ?_
      obtain ⟨h5, hF⟩ := gd hF
      refine g_il O (pc := 62) dX8_laySpans_62 ar_SMod_30 h5 ?_
      refine g_aload_n O (pc := 63) dX8_laySpans_63 0 rfl ?_
      refine g_getR O (pc := 64) isC_X8 dX8_laySpans_64 fw_X8_32 (by decide) fd_SMod_0_8 ?_
      refine g_iload_n O (pc := 67) dX8_laySpans_67 1 rfl ?_
      obtain ⟨h6, hF⟩ := gd hF
      refine g_il O (pc := 68) dX8_laySpans_68 ar_SMod_7 h6 ?_
      refine g_iadd O (pc := 69) dX8_laySpans_69 ?_
      obtain ⟨h7, hF⟩ := gd hF
      refine g_is O (pc := 70) dX8_laySpans_70 ar_SMod_30 h7 ?_
      obtain ⟨I8, g9, hF⟩ := bnd hF
      refine g_nmI (Option.some.inj g9) ?_
      refine g_aload_n O (pc := 71) dX8_laySpans_71 0 rfl ?_
      refine g_getR O (pc := 72) isC_X8 dX8_laySpans_72 fw_X8_41 (by decide) fd_SMod_0_11 ?_
      refine g_iload_n O (pc := 75) dX8_laySpans_75 1 rfl ?_
      obtain ⟨h10, hF⟩ := gd hF
      refine g_il O (pc := 76) dX8_laySpans_76 ar_SMod_10 h10 ?_
      refine g_istore_n O (pc := 77) (L' := [(2, .int ((I8 (10) (x1).toNatClampNeg))), (0, .ref (0)), (1, .int (x1))]) dX8_laySpans_77 (by decide) rfl ?_
      refine g_iload_n O (pc := 78) dX8_laySpans_78 0 rfl ?_
      refine g_if_lt O (pc := 79) 133 dX8_laySpans_79 (by decide) (fun h11 => ?_) (fun h11 => ?_)
      · rw [if_pos h11] at hF
        refine g_sub [1, 2] (L' := [(0, .ref (0)), (1, .int (x1))]) rfl ?_
        exact c_X8_laySpans_b133 O ih _ _ _ hF
      · rw [if_neg h11] at hF
        refine g_aload_n O (pc := 82) dX8_laySpans_82 1 rfl ?_
        refine g_getR O (pc := 83) isC_X8 dX8_laySpans_83 fw_X8_102 (by decide) fd_SMod_0_48 ?_
        refine g_iload_n O (pc := 86) dX8_laySpans_86 0 rfl ?_
        refine g_aload_n O (pc := 87) dX8_laySpans_87 1 rfl ?_
        refine g_getR O (pc := 88) isC_X8 dX8_laySpans_88 fw_X8_102 (by decide) fd_SMod_0_48 ?_
        refine g_iload_n O (pc := 91) dX8_laySpans_91 2 rfl ?_
        obtain ⟨h12, hF⟩ := gd hF
        refine g_il O (pc := 92) dX8_laySpans_92 ar_SMod_29 h12 ?_
        refine g_aload_n O (pc := 93) dX8_laySpans_93 1 rfl ?_
        refine g_getR O (pc := 94) isC_X8 dX8_laySpans_94 fw_X8_102 (by decide) fd_SMod_0_48 ?_
        refine g_iload_n O (pc := 97) dX8_laySpans_97 0 rfl ?_
        obtain ⟨h13, hF⟩ := gd hF
        refine g_il O (pc := 98) dX8_laySpans_98 ar_SMod_29 h13 ?_
        refine g_icmp_le O (pc := 99) 111 dX8_laySpans_99 (by decide) (fun h14 => ?_) (fun h14 => ?_)
        · rw [if_pos h14] at hF
          refine g_aload_n O (pc := 111) dX8_laySpans_111 1 rfl ?_
          refine g_getR O (pc := 112) isC_X8 dX8_laySpans_112 fw_X8_102 (by decide) fd_SMod_0_48 ?_
          refine g_iload_n O (pc := 115) dX8_laySpans_115 0 rfl ?_
          obtain ⟨h15, hF⟩ := gd hF
          refine g_il O (pc := 116) dX8_laySpans_116 ar_SMod_29 h15 ?_
          refine g_sub [1, 2, 0] (L' := [(0, .ref (0)), (1, .int (x1)), (2, .int ((I8 (10) (x1).toNatClampNeg)))]) rfl ?_
          exact c_X8_laySpans_b117 O ih _ _ _ _ _ _ hF
        · rw [if_neg h14] at hF
          refine g_aload_n O (pc := 102) dX8_laySpans_102 1 rfl ?_
          refine g_getR O (pc := 103) isC_X8 dX8_laySpans_103 fw_X8_102 (by decide) fd_SMod_0_48 ?_
          refine g_iload_n O (pc := 106) dX8_laySpans_106 2 rfl ?_
          obtain ⟨h16, hF⟩ := gd hF
          refine g_il O (pc := 107) dX8_laySpans_107 ar_SMod_29 h16 ?_
          refine g_goto O (pc := 108) 117 dX8_laySpans_108 (by decide) ?_
          refine g_sub [1, 2, 0] (L' := [(0, .ref (0)), (1, .int (x1)), (2, .int ((I8 (10) (x1).toNatClampNeg)))]) rfl ?_
          exact c_X8_laySpans_b117 O ih _ _ _ _ _ _ hF

def f_X8_laySpans_b2 : Nat → Int32 → IS → Option (IS)
  | 0, _, _ => none
  | fu + 1, x1, I =>
    if (I (0) 6) ≤ x1 then
    (f_X8_laySpans_b37 LF (((I (0) 6) - (1 : Int32))) (I))
    else
    (if okI (x1) 32 = true then
    (if okI (x1) 32 = true then
    (f_X8_laySpans_b2 fu (x1 + (1 : Int32)) ((u2 (u2 I (29) (x1).toNatClampNeg ((0 : Int32))) (30) (x1).toNatClampNeg ((0 : Int32)))))
    else none)
    else none)
set_option maxHeartbeats 4000000 in
set_option maxRecDepth 100000 in
theorem c_X8_laySpans_b2 {z : CTX} {J : JS} (O : OK z cX8_laySpans RX8 3 SMod 36 (rm_ 0 0) none) : ∀ (fu : Nat) (x1 : Int32) (I : IS) (q : IS), f_X8_laySpans_b2 fu x1 I = some q → G z 2 [(0, .ref (0)), (1, .int (x1))] [] I J (none, q, J) := by
  intro fu
  induction fu with
  | zero =>
    intro x1 I q hF
    cases hF
  | succ fu ih =>
    intro x1 I q hF
    rw [f_X8_laySpans_b2] at hF
    refine g_iload_n O (pc := 2) dX8_laySpans_2 1 rfl ?_
    refine g_aload_n O (pc := 3) dX8_laySpans_3 0 rfl ?_
    refine g_getI O (pc := 4) isC_X8 dX8_laySpans_4 fw_X8_127 (by decide) fd_SMod_0_6 ?_
    refine g_icmp_ge O (pc := 7) 30 dX8_laySpans_7 (by decide) (fun h1 => ?_) (fun h1 => ?_)
    · rw [if_pos h1] at hF
      refine g_aload_n O (pc := 30) dX8_laySpans_30 0 rfl ?_
      refine g_getI O (pc := 31) isC_X8 dX8_laySpans_31 fw_X8_127 (by decide) fd_SMod_0_6 ?_
      refine g_iconst O (pc := 34) dX8_laySpans_34 (ic_1) ?_
      refine g_isub O (pc := 35) dX8_laySpans_35 ?_
      refine g_istore_n O (pc := 36) (L' := [(1, .int (((I (0) 6) - (1 : Int32)))), (0, .ref (0))]) dX8_laySpans_36 (by decide) rfl ?_
      refine g_sub [1, 0] (L' := [(0, .ref (0)), (1, .int (((I (0) 6) - (1 : Int32))))]) rfl ?_
      exact c_X8_laySpans_b37 O _ _ _ _ hF
    · rw [if_neg h1] at hF
      refine g_aload_n O (pc := 10) dX8_laySpans_10 0 rfl ?_
      refine g_getR O (pc := 11) isC_X8 dX8_laySpans_11 fw_X8_102 (by decide) fd_SMod_0_48 ?_
      refine g_iload_n O (pc := 14) dX8_laySpans_14 1 rfl ?_
      refine g_iconst O (pc := 15) dX8_laySpans_15 (ic_0) ?_
      obtain ⟨h2, hF⟩ := gd hF
      refine g_is O (pc := 16) dX8_laySpans_16 ar_SMod_29 h2 ?_
      refine g_aload_n O (pc := 17) dX8_laySpans_17 0 rfl ?_
      refine g_getR O (pc := 18) isC_X8 dX8_laySpans_18 fw_X8_105 (by decide) fd_SMod_0_49 ?_
      refine g_iload_n O (pc := 21) dX8_laySpans_21 1 rfl ?_
      refine g_iconst O (pc := 22) dX8_laySpans_22 (ic_0) ?_
      obtain ⟨h3, hF⟩ := gd hF
      refine g_is O (pc := 23) dX8_laySpans_23 ar_SMod_30 h3 ?_
      refine g_iinc O (pc := 24) (v := x1 + (1 : Int32)) (L' := [(1, .int (x1 + (1 : Int32))), (0, .ref (0))]) dX8_laySpans_24 1 rfl rfl (by decide) rfl ?_
      refine g_goto O (pc := 27) 2 dX8_laySpans_27 (by decide) ?_
      refine g_sub [1, 0] (L' := [(0, .ref (0)), (1, .int (x1 + (1 : Int32)))]) rfl ?_
      exact ih _ _ _ hF

def f_X8_laySpans (I : IS) : Option (IS) :=
  f_X8_laySpans_b2 LF ((0 : Int32)) (I)
set_option maxHeartbeats 4000000 in
set_option maxRecDepth 100000 in
theorem c_X8_laySpans_e {z : CTX} {J : JS} (O : OK z cX8_laySpans RX8 3 SMod 36 (rm_ 0 0) none) : ∀ (I : IS) (q : IS), f_X8_laySpans I = some q → G z 0 [(0, .ref (0))] [] I J (none, q, J) := by
  intro I q hF
  rw [f_X8_laySpans] at hF
  refine g_iconst O (pc := 0) dX8_laySpans_0 (ic_0) ?_
  refine g_istore_n O (pc := 1) (L' := [(1, .int ((0 : Int32))), (0, .ref (0))]) dX8_laySpans_1 (by decide) rfl ?_
  refine g_sub [1, 0] (L' := [(0, .ref (0)), (1, .int ((0 : Int32)))]) rfl ?_
  exact c_X8_laySpans_b2 O _ _ _ _ hF

theorem mc_X8_laySpans {I : IS} (J : JS) {q : IS} (hF : f_X8_laySpans I = some q) : MC yX8_laySpans cX8_laySpans 3 none (rm_ 0 0) SMod 36 [.ref (0)] I J (none, q, J) :=
  mc_of pn_X8 (Nat.le_of_ble_eq_true rfl) (fun z O => c_X8_laySpans_e O _ _ hF)

def f_X8_looked_b7 : Nat → Int32 → IS → Option (Int32 × IS)
  | 0, _, _ => none
  | fu + 1, x1, I =>
    if (I (0) 24) ≤ x1 then
    (some ((-5 : Int32), I))
    else
    (if okI (x1) 8 = true then
    (if okI ((I (18) (x1).toNatClampNeg)) 32 = true then
    (if okI (x1) 8 = true then
    (if (I (6) ((I (18) (x1).toNatClampNeg)).toNatClampNeg) = (I (19) (x1).toNatClampNeg) then
    (f_X8_looked_b7 fu (x1 + (1 : Int32)) (I))
    else
    (some (x1, I)))
    else none)
    else none)
    else none)
set_option maxHeartbeats 4000000 in
set_option maxRecDepth 100000 in
theorem c_X8_looked_b7 {z : CTX} {J : JS} (O : OK z cX8_looked RX8 2 SMod 36 (rm_ 0 0) (some .int)) : ∀ (fu : Nat) (x1 : Int32) (I : IS) (q : Int32 × IS), f_X8_looked_b7 fu x1 I = some q → G z 7 [(0, .ref (0)), (1, .int (x1))] [] I J (some (.int q.1), q.2, J) := by
  intro fu
  induction fu with
  | zero =>
    intro x1 I q hF
    cases hF
  | succ fu ih =>
    intro x1 I q hF
    rw [f_X8_looked_b7] at hF
    refine g_iload_n O (pc := 7) dX8_looked_7 1 rfl ?_
    refine g_aload_n O (pc := 8) dX8_looked_8 0 rfl ?_
    refine g_getI O (pc := 9) isC_X8 dX8_looked_9 fw_X8_154 (by decide) fd_SMod_0_24 ?_
    refine g_icmp_ge O (pc := 12) 43 dX8_looked_12 (by decide) (fun h1 => ?_) (fun h1 => ?_)
    · rw [if_pos h1] at hF
      refine g_bipush O (pc := 43) dX8_looked_43 bp_m5 ?_
      obtain rfl := Option.some.inj hF
      exact g_ireturn O (pc := 45) dX8_looked_45 rfl
    · rw [if_neg h1] at hF
      refine g_aload_n O (pc := 15) dX8_looked_15 0 rfl ?_
      refine g_getR O (pc := 16) isC_X8 dX8_looked_16 fw_X8_29 (by decide) fd_SMod_0_7 ?_
      refine g_aload_n O (pc := 19) dX8_looked_19 0 rfl ?_
      refine g_getR O (pc := 20) isC_X8 dX8_looked_20 fw_X8_68 (by decide) fd_SMod_0_25 ?_
      refine g_iload_n O (pc := 23) dX8_looked_23 1 rfl ?_
      obtain ⟨h2, hF⟩ := gd hF
      refine g_il O (pc := 24) dX8_looked_24 ar_SMod_18 h2 ?_
      obtain ⟨h3, hF⟩ := gd hF
      refine g_il O (pc := 25) dX8_looked_25 ar_SMod_6 h3 ?_
      refine g_aload_n O (pc := 26) dX8_looked_26 0 rfl ?_
      refine g_getR O (pc := 27) isC_X8 dX8_looked_27 fw_X8_71 (by decide) fd_SMod_0_26 ?_
      refine g_iload_n O (pc := 30) dX8_looked_30 1 rfl ?_
      obtain ⟨h4, hF⟩ := gd hF
      refine g_il O (pc := 31) dX8_looked_31 ar_SMod_19 h4 ?_
      refine g_icmp_eq O (pc := 32) 37 dX8_looked_32 (by decide) (fun h5 => ?_) (fun h5 => ?_)
      · rw [if_pos h5] at hF
        refine g_iinc O (pc := 37) (v := x1 + (1 : Int32)) (L' := [(1, .int (x1 + (1 : Int32))), (0, .ref (0))]) dX8_looked_37 1 rfl rfl (by decide) rfl ?_
        refine g_goto O (pc := 40) 7 dX8_looked_40 (by decide) ?_
        refine g_sub [1, 0] (L' := [(0, .ref (0)), (1, .int (x1 + (1 : Int32)))]) rfl ?_
        exact ih _ _ _ hF
      · rw [if_neg h5] at hF
        refine g_iload_n O (pc := 35) dX8_looked_35 1 rfl ?_
        obtain rfl := Option.some.inj hF
        exact g_ireturn O (pc := 36) dX8_looked_36 rfl

def f_X8_looked (I : IS) : Option (Int32 × IS) :=
  f_X8_looked_b7 LF ((0 : Int32)) ((u2 I (0) 29 ((0 : Int32))))
set_option maxHeartbeats 4000000 in
set_option maxRecDepth 100000 in
theorem c_X8_looked_e {z : CTX} {J : JS} (O : OK z cX8_looked RX8 2 SMod 36 (rm_ 0 0) (some .int)) : ∀ (I : IS) (q : Int32 × IS), f_X8_looked I = some q → G z 0 [(0, .ref (0))] [] I J (some (.int q.1), q.2, J) := by
  intro I q hF
  rw [f_X8_looked] at hF
  refine g_aload_n O (pc := 0) dX8_looked_0 0 rfl ?_
  refine g_iconst O (pc := 1) dX8_looked_1 (ic_0) ?_
  refine g_putI O (pc := 2) isC_X8 isT_X8 dX8_looked_2 fw_X8_124 (by decide) rfl rfl fd_SMod_0_29 ?_
  refine g_iconst O (pc := 5) dX8_looked_5 (ic_0) ?_
  refine g_istore_n O (pc := 6) (L' := [(1, .int ((0 : Int32))), (0, .ref (0))]) dX8_looked_6 (by decide) rfl ?_
  refine g_sub [1, 0] (L' := [(0, .ref (0)), (1, .int ((0 : Int32)))]) rfl ?_
  exact c_X8_looked_b7 O _ _ _ _ hF

theorem mc_X8_looked {I : IS} (J : JS) {q : Int32 × IS} (hF : f_X8_looked I = some q) : MC yX8_looked cX8_looked 2 (some .int) (rm_ 0 0) SMod 36 [.ref (0)] I J (some (.int q.1), q.2, J) :=
  mc_of pn_X8 (Nat.le_of_ble_eq_true rfl) (fun z O => c_X8_looked_e O _ _ hF)

def f_X8_manyIn_b28 (k4 : Int32 → Int32 → Int32 → IS → Option (Int32)) (x1 : Int32) (x3 : Int32) (s0 : Int32) (s1 : Int32) (I : IS) : Option (Int32) :=
  k4 (x1) ((s0 + s1)) (x3 + (1 : Int32)) (I)
set_option maxHeartbeats 4000000 in
set_option maxRecDepth 100000 in
theorem c_X8_manyIn_b28 {z : CTX} {J : JS} (O : OK z cX8_manyIn RX8 4 SMod 36 (rm_ 0 0) (some .int)) {k4 : Int32 → Int32 → Int32 → IS → Option (Int32)} (hk4 : ∀ (x1 : Int32) (x2 : Int32) (x3 : Int32) (I : IS) (q : Int32), k4 x1 x2 x3 I = some q → G z 4 [(0, .ref (0)), (1, .int (x1)), (2, .int (x2)), (3, .int (x3))] [] I J (some (.int q), I, J)) : ∀ (x1 : Int32) (x3 : Int32) (s0 : Int32) (s1 : Int32) (I : IS) (q : Int32), f_X8_manyIn_b28 k4 x1 x3 s0 s1 I = some q → G z 28 [(0, .ref (0)), (1, .int (x1)), (3, .int (x3))] [.int (s1), .int (s0)] I J (some (.int q), I, J) := by
  intro x1 x3 s0 s1 I q hF
  rw [f_X8_manyIn_b28] at hF
  refine g_iadd O (pc := 28) dX8_manyIn_28 ?_
  refine g_istore_n O (pc := 29) (L' := [(2, .int ((s0 + s1))), (0, .ref (0)), (1, .int (x1)), (3, .int (x3))]) dX8_manyIn_29 (by decide) rfl ?_
  refine g_iinc O (pc := 30) (v := x3 + (1 : Int32)) (L' := [(3, .int (x3 + (1 : Int32))), (2, .int ((s0 + s1))), (0, .ref (0)), (1, .int (x1))]) dX8_manyIn_30 3 rfl rfl (by decide) rfl ?_
  refine g_goto O (pc := 33) 4 dX8_manyIn_33 (by decide) ?_
  refine g_sub [2, 3, 1, 0] (L' := [(0, .ref (0)), (1, .int (x1)), (2, .int ((s0 + s1))), (3, .int (x3 + (1 : Int32)))]) rfl ?_
  exact hk4 _ _ _ _ _ hF

def f_X8_manyIn_b4 : Nat → Int32 → Int32 → Int32 → IS → Option (Int32)
  | 0, _, _, _, _ => none
  | fu + 1, x1, x2, x3, I =>
    if (I (0) 6) ≤ x3 then
    (some (x2))
    else
    (if okI (x3) 32 = true then
    (if (I (10) (x3).toNatClampNeg) = x1 then
    (f_X8_manyIn_b28 (f_X8_manyIn_b4 fu) (x1) (x3) (x2) ((1 : Int32)) (I))
    else
    (f_X8_manyIn_b28 (f_X8_manyIn_b4 fu) (x1) (x3) (x2) ((0 : Int32)) (I)))
    else none)
set_option maxHeartbeats 4000000 in
set_option maxRecDepth 100000 in
theorem c_X8_manyIn_b4 {z : CTX} {J : JS} (O : OK z cX8_manyIn RX8 4 SMod 36 (rm_ 0 0) (some .int)) : ∀ (fu : Nat) (x1 : Int32) (x2 : Int32) (x3 : Int32) (I : IS) (q : Int32), f_X8_manyIn_b4 fu x1 x2 x3 I = some q → G z 4 [(0, .ref (0)), (1, .int (x1)), (2, .int (x2)), (3, .int (x3))] [] I J (some (.int q), I, J) := by
  intro fu
  induction fu with
  | zero =>
    intro x1 x2 x3 I q hF
    cases hF
  | succ fu ih =>
    intro x1 x2 x3 I q hF
    rw [f_X8_manyIn_b4] at hF
    refine g_iload_n O (pc := 4) dX8_manyIn_4 3 rfl ?_
    refine g_aload_n O (pc := 5) dX8_manyIn_5 0 rfl ?_
    refine g_getI O (pc := 6) isC_X8 dX8_manyIn_6 fw_X8_127 (by decide) fd_SMod_0_6 ?_
    refine g_icmp_ge O (pc := 9) 36 dX8_manyIn_9 (by decide) (fun h1 => ?_) (fun h1 => ?_)
    · rw [if_pos h1] at hF
      refine g_iload_n O (pc := 36) dX8_manyIn_36 2 rfl ?_
      obtain rfl := Option.some.inj hF
      exact g_ireturn O (pc := 37) dX8_manyIn_37 rfl
    · rw [if_neg h1] at hF
      refine g_iload_n O (pc := 12) dX8_manyIn_12 2 rfl ?_
      refine g_aload_n O (pc := 13) dX8_manyIn_13 0 rfl ?_
      refine g_getR O (pc := 14) isC_X8 dX8_manyIn_14 fw_X8_41 (by decide) fd_SMod_0_11 ?_
      refine g_iload_n O (pc := 17) dX8_manyIn_17 3 rfl ?_
      obtain ⟨h2, hF⟩ := gd hF
      refine g_il O (pc := 18) dX8_manyIn_18 ar_SMod_10 h2 ?_
      refine g_iload_n O (pc := 19) dX8_manyIn_19 1 rfl ?_
      refine g_icmp_ne O (pc := 20) 27 dX8_manyIn_20 (by decide) (fun h3 => ?_) (fun h3 => ?_)
      · rw [if_neg h3] at hF
        refine g_iconst O (pc := 27) dX8_manyIn_27 (ic_0) ?_
        refine g_sub [0, 1, 3] (L' := [(0, .ref (0)), (1, .int (x1)), (3, .int (x3))]) rfl ?_
        exact c_X8_manyIn_b28 O ih _ _ _ _ _ _ hF
      · rw [if_pos h3] at hF
        refine g_iconst O (pc := 23) dX8_manyIn_23 (ic_1) ?_
        refine g_goto O (pc := 24) 28 dX8_manyIn_24 (by decide) ?_
        refine g_sub [0, 1, 3] (L' := [(0, .ref (0)), (1, .int (x1)), (3, .int (x3))]) rfl ?_
        exact c_X8_manyIn_b28 O ih _ _ _ _ _ _ hF

def f_X8_manyIn (x1 : Int32) (I : IS) : Option (Int32) :=
  f_X8_manyIn_b4 LF (x1) ((0 : Int32)) ((0 : Int32)) (I)
set_option maxHeartbeats 4000000 in
set_option maxRecDepth 100000 in
theorem c_X8_manyIn_e {z : CTX} {J : JS} (O : OK z cX8_manyIn RX8 4 SMod 36 (rm_ 0 0) (some .int)) : ∀ (x1 : Int32) (I : IS) (q : Int32), f_X8_manyIn x1 I = some q → G z 0 [(0, .ref (0)), (1, .int (x1))] [] I J (some (.int q), I, J) := by
  intro x1 I q hF
  rw [f_X8_manyIn] at hF
  refine g_iconst O (pc := 0) dX8_manyIn_0 (ic_0) ?_
  refine g_istore_n O (pc := 1) (L' := [(2, .int ((0 : Int32))), (0, .ref (0)), (1, .int (x1))]) dX8_manyIn_1 (by decide) rfl ?_
  refine g_iconst O (pc := 2) dX8_manyIn_2 (ic_0) ?_
  refine g_istore_n O (pc := 3) (L' := [(3, .int ((0 : Int32))), (2, .int ((0 : Int32))), (0, .ref (0)), (1, .int (x1))]) dX8_manyIn_3 (by decide) rfl ?_
  refine g_sub [2, 3, 1, 0] (L' := [(0, .ref (0)), (1, .int (x1)), (2, .int ((0 : Int32))), (3, .int ((0 : Int32)))]) rfl ?_
  exact c_X8_manyIn_b4 O _ _ _ _ _ _ hF

theorem mc_X8_manyIn {x1 : Int32} {I : IS} (J : JS) {q : Int32} (hF : f_X8_manyIn x1 I = some q) : MC yX8_manyIn cX8_manyIn 4 (some .int) (rm_ 0 0) SMod 36 [.ref (0), .int (x1)] I J (some (.int q), I, J) :=
  mc_of pn_X8 (Nat.le_of_ble_eq_true rfl) (fun z O => c_X8_manyIn_e O _ _ _ hF)

def f_X8_partOf_b23 (t0 : Int64) : Option (Int64) :=
  some (t0)
set_option maxHeartbeats 4000000 in
set_option maxRecDepth 100000 in
theorem c_X8_partOf_b23 {z : CTX} {I : IS} {J : JS} (O : OK z cX8_partOf RX8 7 SArm 0 (rm_ 1 29) (some .long)) : ∀ (t0 : Int64) (q : Int64), f_X8_partOf_b23 t0 = some q → G z 23 [] [.long (t0)] I J (some (.long q), I, J) := by
  intro t0 q hF
  rw [f_X8_partOf_b23] at hF
  obtain rfl := Option.some.inj hF
  exact g_lreturn O (pc := 23) dX8_partOf_23 rfl

def f_X8_partOf (w0 : Int64) (w2 : Int64) (x4 : Int32) : Option (Int64) :=
  (f_X8_divisor (w0) (w2)).bind fun q1 =>
  (if x4 = 0 then
  (if okDL (q1) = true then
  (f_X8_partOf_b23 ((w0 / q1)))
  else none)
  else
  (if okDL (q1) = true then
  (f_X8_partOf_b23 ((w2 / q1)))
  else none))
set_option maxHeartbeats 4000000 in
set_option maxRecDepth 100000 in
theorem c_X8_partOf_e {z : CTX} {I : IS} {J : JS} (O : OK z cX8_partOf RX8 7 SArm 0 (rm_ 1 29) (some .long)) : ∀ (w0 : Int64) (w2 : Int64) (x4 : Int32) (q : Int64), f_X8_partOf w0 w2 x4 = some q → G z 0 [(0, .long (w0)), (2, .long (w2)), (4, .int (x4))] [] I J (some (.long q), I, J) := by
  intro w0 w2 x4 q hF
  rw [f_X8_partOf] at hF
  refine g_lload_n O (pc := 0) dX8_partOf_0 0 rfl ?_
  refine g_lload_n O (pc := 1) dX8_partOf_1 1 rfl ?_
  obtain ⟨q1, e2, hF⟩ := bnd hF
  refine g_Sl O (pc := 2) (st := []) dX8_partOf_2 (mc_X8_divisor I J e2) cs_X8_divisor ml_X8_344 rfl (rmok (Nat.le_of_ble_eq_true rfl) (Nat.le_of_ble_eq_true rfl)) (Nat.le_of_ble_eq_true rfl) (fun _ => rfl) rfl ?_
  refine g_lstore O (pc := 5) (L' := [(5, .long (q1)), (0, .long (w0)), (2, .long (w2)), (4, .int (x4))]) dX8_partOf_5 (by decide) rfl ?_
  refine g_iload O (pc := 7) dX8_partOf_7 3 rfl ?_
  refine g_if_ne O (pc := 9) 19 dX8_partOf_9 (by decide) (fun h3 => ?_) (fun h3 => ?_)
  · rw [if_neg h3] at hF
    refine g_lload_n O (pc := 19) dX8_partOf_19 2 rfl ?_
    refine g_lload O (pc := 20) dX8_partOf_20 0 rfl ?_
    obtain ⟨h4, hF⟩ := gd hF
    refine g_ldiv O (pc := 22) dX8_partOf_22 (okDL_n h4) ?_
    refine g_sub [] (L' := []) rfl ?_
    exact c_X8_partOf_b23 O _ _ hF
  · rw [if_pos h3] at hF
    refine g_lload_n O (pc := 12) dX8_partOf_12 1 rfl ?_
    refine g_lload O (pc := 13) dX8_partOf_13 0 rfl ?_
    obtain ⟨h5, hF⟩ := gd hF
    refine g_ldiv O (pc := 15) dX8_partOf_15 (okDL_n h5) ?_
    refine g_goto O (pc := 16) 23 dX8_partOf_16 (by decide) ?_
    refine g_sub [] (L' := []) rfl ?_
    exact c_X8_partOf_b23 O _ _ hF

theorem mc_X8_partOf {w0 : Int64} {w2 : Int64} {x4 : Int32} (I : IS) (J : JS) {q : Int64} (hF : f_X8_partOf w0 w2 x4 = some q) : MC yX8_partOf cX8_partOf 7 (some .long) (rm_ 1 29) SArm 0 [.long (w0), .long (w2), .int (x4)] I J (some (.long q), I, J) :=
  mc_of pn_X8 (Nat.le_of_ble_eq_true rfl) (fun z O => c_X8_partOf_e O _ _ _ _ hF)

def f_X8_mean_b42 (t0 : Int64) (I : IS) : Option (Int64 × IS) :=
  some (t0, I)
set_option maxHeartbeats 4000000 in
set_option maxRecDepth 100000 in
theorem c_X8_mean_b42 {z : CTX} {J : JS} (O : OK z cX8_mean RX8 2 SMod 36 (rm_ 2 55) (some .long)) : ∀ (t0 : Int64) (I : IS) (q : Int64 × IS), f_X8_mean_b42 t0 I = some q → G z 42 [] [.long (t0)] I J (some (.long q.1), q.2, J) := by
  intro t0 I q hF
  rw [f_X8_mean_b42] at hF
  obtain rfl := Option.some.inj hF
  exact g_lreturn O (pc := 42) dX8_mean_42 rfl

def f_X8_mean_b39 (I : IS) : Option (Int64 × IS) :=
  f_X8_mean_b42 ((-9223372036854775808 : Int64)) (I)
set_option maxHeartbeats 4000000 in
set_option maxRecDepth 100000 in
theorem c_X8_mean_b39 {z : CTX} {J : JS} (O : OK z cX8_mean RX8 2 SMod 36 (rm_ 2 55) (some .long)) : ∀ (I : IS) (q : Int64 × IS), f_X8_mean_b39 I = some q → G z 39 [] [] I J (some (.long q.1), q.2, J) := by
  intro I q hF
  rw [f_X8_mean_b39] at hF
  refine g_ldc2 O (pc := 39) kw_X8_348 dX8_mean_39 ?_
  refine g_sub [] (L' := []) rfl ?_
  exact c_X8_mean_b42 O _ _ _ hF

def f_X8_mean (x1 : Int32) (I : IS) : Option (Int64 × IS) :=
  (f_X8_in ((x1).toInt64) ((0 : Int64)) ((1 : Int64))).bind fun q1 =>
  (if q1 = 0 then
  (f_X8_mean_b39 ((u2 I (0) 29 ((0 : Int32)))))
  else
  ((f_X8_doneMany (u2 I (0) 29 ((0 : Int32)))).bind fun q4 =>
  (if q4 ≤ 0 then
  (f_X8_mean_b39 ((u2 I (0) 29 ((0 : Int32)))))
  else
  ((f_X8_worthAll (u2 I (0) 29 ((0 : Int32)))).bind fun q7 =>
  ((f_X8_doneMany (u2 I (0) 29 ((0 : Int32)))).bind fun q9 =>
  ((f_X8_partOf ((q7).toInt64) ((q9).toInt64) (x1)).bind fun q11 =>
  (f_X8_mean_b42 (q11) ((u2 I (0) 29 ((0 : Int32)))))))))))
set_option maxHeartbeats 4000000 in
set_option maxRecDepth 100000 in
theorem c_X8_mean_e {z : CTX} {J : JS} (O : OK z cX8_mean RX8 2 SMod 36 (rm_ 2 55) (some .long)) : ∀ (x1 : Int32) (I : IS) (q : Int64 × IS), f_X8_mean x1 I = some q → G z 0 [(0, .ref (0)), (1, .int (x1))] [] I J (some (.long q.1), q.2, J) := by
  intro x1 I q hF
  rw [f_X8_mean] at hF
  refine g_aload_n O (pc := 0) dX8_mean_0 0 rfl ?_
  refine g_iconst O (pc := 1) dX8_mean_1 (ic_0) ?_
  refine g_putI O (pc := 2) isC_X8 isT_X8 dX8_mean_2 fw_X8_124 (by decide) rfl rfl fd_SMod_0_29 ?_
  refine g_iload_n O (pc := 5) dX8_mean_5 1 rfl ?_
  refine g_i2l O (pc := 6) dX8_mean_6 ?_
  refine g_lconst O (pc := 7) dX8_mean_7 lc_0 ?_
  refine g_lconst O (pc := 8) dX8_mean_8 lc_1 ?_
  obtain ⟨q1, e2, hF⟩ := bnd hF
  refine g_Si O (pc := 9) (st := []) dX8_mean_9 (mc_X8_in (u2 I (0) 29 ((0 : Int32))) J e2) cs_X8_in ml_X8_130 rfl (rmok (Nat.le_of_ble_eq_true rfl) (Nat.le_of_ble_eq_true rfl)) (Nat.le_of_ble_eq_true rfl) (fun _ => rfl) rfl ?_
  refine g_if_eq O (pc := 12) 39 dX8_mean_12 (by decide) (fun h3 => ?_) (fun h3 => ?_)
  · rw [if_pos h3] at hF
    refine g_sub [] (L' := []) rfl ?_
    exact c_X8_mean_b39 O _ _ hF
  · rw [if_neg h3] at hF
    refine g_aload_n O (pc := 15) dX8_mean_15 0 rfl ?_
    obtain ⟨q4, e5, hF⟩ := bnd hF
    refine g_Vi O (pc := 16) (st := []) dX8_mean_16 (mc_X8_doneMany J e5) cb_X8_doneMany ml_X8_333 isC_X8 ob_SMod (zm0 _ _ _ _ _ _ _) (rmok (Nat.le_of_ble_eq_true rfl) (Nat.le_of_ble_eq_true rfl)) (Nat.le_of_ble_eq_true rfl) rfl ?_
    refine g_if_le O (pc := 19) 39 dX8_mean_19 (by decide) (fun h6 => ?_) (fun h6 => ?_)
    · rw [if_pos h6] at hF
      refine g_sub [] (L' := []) rfl ?_
      exact c_X8_mean_b39 O _ _ hF
    · rw [if_neg h6] at hF
      refine g_aload_n O (pc := 22) dX8_mean_22 0 rfl ?_
      obtain ⟨q7, e8, hF⟩ := bnd hF
      refine g_Vi O (pc := 23) (st := []) dX8_mean_23 (mc_X8_worthAll J e8) cb_X8_worthAll ml_X8_356 isC_X8 ob_SMod (zm0 _ _ _ _ _ _ _) (rmok (Nat.le_of_ble_eq_true rfl) (Nat.le_of_ble_eq_true rfl)) (Nat.le_of_ble_eq_true rfl) rfl ?_
      refine g_i2l O (pc := 26) dX8_mean_26 ?_
      refine g_aload_n O (pc := 27) dX8_mean_27 0 rfl ?_
      obtain ⟨q9, e10, hF⟩ := bnd hF
      refine g_Vi O (pc := 28) (st := [.long ((q7).toInt64)]) dX8_mean_28 (mc_X8_doneMany J e10) cb_X8_doneMany ml_X8_333 isC_X8 ob_SMod (zm0 _ _ _ _ _ _ _) (rmok (Nat.le_of_ble_eq_true rfl) (Nat.le_of_ble_eq_true rfl)) (Nat.le_of_ble_eq_true rfl) rfl ?_
      refine g_i2l O (pc := 31) dX8_mean_31 ?_
      refine g_iload_n O (pc := 32) dX8_mean_32 1 rfl ?_
      obtain ⟨q11, e12, hF⟩ := bnd hF
      refine g_Sl O (pc := 33) (st := []) dX8_mean_33 (mc_X8_partOf (u2 I (0) 29 ((0 : Int32))) J e12) cs_X8_partOf ml_X8_352 rfl (rmok (Nat.le_of_ble_eq_true rfl) (Nat.le_of_ble_eq_true rfl)) (Nat.le_of_ble_eq_true rfl) (fun _ => rfl) rfl ?_
      refine g_goto O (pc := 36) 42 dX8_mean_36 (by decide) ?_
      refine g_sub [] (L' := []) rfl ?_
      exact c_X8_mean_b42 O _ _ _ hF

theorem mc_X8_mean {x1 : Int32} {I : IS} (J : JS) {q : Int64 × IS} (hF : f_X8_mean x1 I = some q) : MC yX8_mean cX8_mean 2 (some .long) (rm_ 2 55) SMod 36 [.ref (0), .int (x1)] I J (some (.long q.1), q.2, J) :=
  mc_of pn_X8 (Nat.le_of_ble_eq_true rfl) (fun z O => c_X8_mean_e O _ _ _ hF)

def f_X8_odds_b27 (I : IS) : Option (Int64 × IS) :=
  some ((-9223372036854775808 : Int64), I)
set_option maxHeartbeats 4000000 in
set_option maxRecDepth 100000 in
theorem c_X8_odds_b27 {z : CTX} {J : JS} (O : OK z cX8_odds RX8 5 SMod 36 (rm_ 9 202) (some .long)) : ∀ (I : IS) (q : Int64 × IS), f_X8_odds_b27 I = some q → G z 27 [] [] I J (some (.long q.1), q.2, J) := by
  intro I q hF
  rw [f_X8_odds_b27] at hF
  refine g_ldc2 O (pc := 27) kw_X8_348 dX8_odds_27 ?_
  obtain rfl := Option.some.inj hF
  exact g_lreturn O (pc := 30) dX8_odds_30 rfl

def f_X8_odds_b71 (k40 : Int32 → Int32 → Int32 → Int32 → IS → Option (Int64 × IS)) (x1 : Int32) (x2 : Int32) (x4 : Int32) (s0 : Int32) (s1 : Int32) (I : IS) : Option (Int64 × IS) :=
  (f_X8_again I).bind fun q1 =>
  (k40 (x1) (x2) ((s0 + s1)) (x4 + (1 : Int32)) (q1))
set_option maxHeartbeats 4000000 in
set_option maxRecDepth 100000 in
theorem c_X8_odds_b71 {z : CTX} {J : JS} (O : OK z cX8_odds RX8 5 SMod 36 (rm_ 9 202) (some .long)) {k40 : Int32 → Int32 → Int32 → Int32 → IS → Option (Int64 × IS)} (hk40 : ∀ (x1 : Int32) (x2 : Int32) (x3 : Int32) (x4 : Int32) (I : IS) (q : Int64 × IS), k40 x1 x2 x3 x4 I = some q → G z 40 [(0, .ref (0)), (1, .int (x1)), (2, .int (x2)), (3, .int (x3)), (4, .int (x4))] [] I J (some (.long q.1), q.2, J)) : ∀ (x1 : Int32) (x2 : Int32) (x4 : Int32) (s0 : Int32) (s1 : Int32) (I : IS) (q : Int64 × IS), f_X8_odds_b71 k40 x1 x2 x4 s0 s1 I = some q → G z 71 [(0, .ref (0)), (1, .int (x1)), (2, .int (x2)), (4, .int (x4))] [.int (s1), .int (s0)] I J (some (.long q.1), q.2, J) := by
  intro x1 x2 x4 s0 s1 I q hF
  rw [f_X8_odds_b71] at hF
  refine g_iadd O (pc := 71) dX8_odds_71 ?_
  refine g_istore_n O (pc := 72) (L' := [(3, .int ((s0 + s1))), (0, .ref (0)), (1, .int (x1)), (2, .int (x2)), (4, .int (x4))]) dX8_odds_72 (by decide) rfl ?_
  refine g_aload_n O (pc := 73) dX8_odds_73 1 rfl ?_
  obtain ⟨q1, e2, hF⟩ := bnd hF
  refine g_Vv O (pc := 74) (st := []) dX8_odds_74 (mc_X8_again J e2) cb_X8_again ml_X8_321 isC_X8 ob_SMod (zm0 _ _ _ _ _ _ _) (rmok (Nat.le_of_ble_eq_true rfl) (Nat.le_of_ble_eq_true rfl)) (Nat.le_of_ble_eq_true rfl) rfl ?_
  refine g_iinc O (pc := 77) (v := x4 + (1 : Int32)) (L' := [(4, .int (x4 + (1 : Int32))), (3, .int ((s0 + s1))), (0, .ref (0)), (1, .int (x1)), (2, .int (x2))]) dX8_odds_77 4 rfl rfl (by decide) rfl ?_
  refine g_goto O (pc := 80) 40 dX8_odds_80 (by decide) ?_
  refine g_sub [2, 3, 4, 1, 0] (L' := [(0, .ref (0)), (1, .int (x1)), (2, .int (x2)), (3, .int ((s0 + s1))), (4, .int (x4 + (1 : Int32)))]) rfl ?_
  exact hk40 _ _ _ _ _ _ hF

def f_X8_odds_b40 : Nat → Int32 → Int32 → Int32 → Int32 → IS → Option (Int64 × IS)
  | 0, _, _, _, _, _ => none
  | fu + 1, x1, x2, x3, x4, I =>
    if (20 : Int32) ≤ x4 then
    ((f_X8_partOf ((x3).toInt64) ((20 : Int64)) (x2)).bind fun q2 =>
    (some (q2, I)))
    else
    ((f_X8_goRounds (x1) (u2 I (0) 14 (x4))).bind fun q4 =>
    ((f_X8_isOver q4).bind fun q6 =>
    (if q6 = 0 then
    (f_X8_odds_b71 (f_X8_odds_b40 fu) (x1) (x2) (x4) (x3) ((0 : Int32)) (q4))
    else
    (f_X8_odds_b71 (f_X8_odds_b40 fu) (x1) (x2) (x4) (x3) ((1 : Int32)) (q4)))))
set_option maxHeartbeats 4000000 in
set_option maxRecDepth 100000 in
theorem c_X8_odds_b40 {z : CTX} {J : JS} (O : OK z cX8_odds RX8 5 SMod 36 (rm_ 9 202) (some .long)) : ∀ (fu : Nat) (x1 : Int32) (x2 : Int32) (x3 : Int32) (x4 : Int32) (I : IS) (q : Int64 × IS), f_X8_odds_b40 fu x1 x2 x3 x4 I = some q → G z 40 [(0, .ref (0)), (1, .int (x1)), (2, .int (x2)), (3, .int (x3)), (4, .int (x4))] [] I J (some (.long q.1), q.2, J) := by
  intro fu
  induction fu with
  | zero =>
    intro x1 x2 x3 x4 I q hF
    cases hF
  | succ fu ih =>
    intro x1 x2 x3 x4 I q hF
    rw [f_X8_odds_b40] at hF
    refine g_iload O (pc := 40) dX8_odds_40 4 rfl ?_
    refine g_bipush O (pc := 42) dX8_odds_42 bp_20 ?_
    refine g_icmp_ge O (pc := 44) 83 dX8_odds_44 (by decide) (fun h1 => ?_) (fun h1 => ?_)
    · rw [if_pos h1] at hF
      refine g_iload_n O (pc := 83) dX8_odds_83 3 rfl ?_
      refine g_i2l O (pc := 84) dX8_odds_84 ?_
      refine g_ldc2 O (pc := 85) kw_X8_350 dX8_odds_85 ?_
      refine g_iload_n O (pc := 88) dX8_odds_88 2 rfl ?_
      obtain ⟨q2, e3, hF⟩ := bnd hF
      refine g_Sl O (pc := 89) (st := []) dX8_odds_89 (mc_X8_partOf I J e3) cs_X8_partOf ml_X8_352 rfl (rmok (Nat.le_of_ble_eq_true rfl) (Nat.le_of_ble_eq_true rfl)) (Nat.le_of_ble_eq_true rfl) (fun _ => rfl) rfl ?_
      obtain rfl := Option.some.inj hF
      exact g_lreturn O (pc := 92) dX8_odds_92 rfl
    · rw [if_neg h1] at hF
      refine g_aload_n O (pc := 47) dX8_odds_47 0 rfl ?_
      refine g_iload O (pc := 48) dX8_odds_48 4 rfl ?_
      refine g_putI O (pc := 50) isC_X8 isT_X8 dX8_odds_50 fw_X8_50 (by decide) rfl rfl fd_SMod_0_14 ?_
      refine g_aload_n O (pc := 53) dX8_odds_53 0 rfl ?_
      refine g_iload_n O (pc := 54) dX8_odds_54 1 rfl ?_
      obtain ⟨q4, e5, hF⟩ := bnd hF
      refine g_Vv O (pc := 55) (st := []) dX8_odds_55 (mc_X8_goRounds J e5) cb_X8_goRounds ml_X8_306 isC_X8 ob_SMod (zm0 _ _ _ _ _ _ _) (rmok (Nat.le_of_ble_eq_true rfl) (Nat.le_of_ble_eq_true rfl)) (Nat.le_of_ble_eq_true rfl) rfl ?_
      refine g_iload_n O (pc := 58) dX8_odds_58 3 rfl ?_
      refine g_aload_n O (pc := 59) dX8_odds_59 0 rfl ?_
      obtain ⟨q6, e7, hF⟩ := bnd hF
      refine g_Vi O (pc := 60) (st := [.int (x3)]) dX8_odds_60 (mc_X8_isOver J e7) cb_X8_isOver ml_X8_312 isC_X8 ob_SMod (zm0 _ _ _ _ _ _ _) (rmok (Nat.le_of_ble_eq_true rfl) (Nat.le_of_ble_eq_true rfl)) (Nat.le_of_ble_eq_true rfl) rfl ?_
      refine g_if_eq O (pc := 63) 70 dX8_odds_63 (by decide) (fun h8 => ?_) (fun h8 => ?_)
      · rw [if_pos h8] at hF
        refine g_iconst O (pc := 70) dX8_odds_70 (ic_0) ?_
        refine g_sub [0, 1, 2, 4] (L' := [(0, .ref (0)), (1, .int (x1)), (2, .int (x2)), (4, .int (x4))]) rfl ?_
        exact c_X8_odds_b71 O ih _ _ _ _ _ _ _ hF
      · rw [if_neg h8] at hF
        refine g_iconst O (pc := 66) dX8_odds_66 (ic_1) ?_
        refine g_goto O (pc := 67) 71 dX8_odds_67 (by decide) ?_
        refine g_sub [0, 1, 2, 4] (L' := [(0, .ref (0)), (1, .int (x1)), (2, .int (x2)), (4, .int (x4))]) rfl ?_
        exact c_X8_odds_b71 O ih _ _ _ _ _ _ _ hF

def f_X8_odds (x1 : Int32) (x2 : Int32) (I : IS) : Option (Int64 × IS) :=
  (f_X8_in ((x1).toInt64) ((0 : Int64)) ((60 : Int64))).bind fun q1 =>
  (if q1 = 0 then
  (f_X8_odds_b27 ((u2 I (0) 29 ((0 : Int32)))))
  else
  ((f_X8_in ((x2).toInt64) ((0 : Int64)) ((1 : Int64))).bind fun q4 =>
  (if q4 = 0 then
  (f_X8_odds_b27 ((u2 I (0) 29 ((0 : Int32)))))
  else
  ((f_X8_open (u2 I (0) 29 ((0 : Int32)))).bind fun q7 =>
  (f_X8_odds_b40 LF (x1) (x2) ((0 : Int32)) ((0 : Int32)) (q7))))))
set_option maxHeartbeats 4000000 in
set_option maxRecDepth 100000 in
theorem c_X8_odds_e {z : CTX} {J : JS} (O : OK z cX8_odds RX8 5 SMod 36 (rm_ 9 202) (some .long)) : ∀ (x1 : Int32) (x2 : Int32) (I : IS) (q : Int64 × IS), f_X8_odds x1 x2 I = some q → G z 0 [(0, .ref (0)), (1, .int (x1)), (2, .int (x2))] [] I J (some (.long q.1), q.2, J) := by
  intro x1 x2 I q hF
  rw [f_X8_odds] at hF
  refine g_aload_n O (pc := 0) dX8_odds_0 0 rfl ?_
  refine g_iconst O (pc := 1) dX8_odds_1 (ic_0) ?_
  refine g_putI O (pc := 2) isC_X8 isT_X8 dX8_odds_2 fw_X8_124 (by decide) rfl rfl fd_SMod_0_29 ?_
  refine g_iload_n O (pc := 5) dX8_odds_5 1 rfl ?_
  refine g_i2l O (pc := 6) dX8_odds_6 ?_
  refine g_lconst O (pc := 7) dX8_odds_7 lc_0 ?_
  refine g_ldc2 O (pc := 8) kw_X8_304 dX8_odds_8 ?_
  obtain ⟨q1, e2, hF⟩ := bnd hF
  refine g_Si O (pc := 11) (st := []) dX8_odds_11 (mc_X8_in (u2 I (0) 29 ((0 : Int32))) J e2) cs_X8_in ml_X8_130 rfl (rmok (Nat.le_of_ble_eq_true rfl) (Nat.le_of_ble_eq_true rfl)) (Nat.le_of_ble_eq_true rfl) (fun _ => rfl) rfl ?_
  refine g_if_eq O (pc := 14) 27 dX8_odds_14 (by decide) (fun h3 => ?_) (fun h3 => ?_)
  · rw [if_pos h3] at hF
    refine g_sub [] (L' := []) rfl ?_
    exact c_X8_odds_b27 O _ _ hF
  · rw [if_neg h3] at hF
    refine g_iload_n O (pc := 17) dX8_odds_17 2 rfl ?_
    refine g_i2l O (pc := 18) dX8_odds_18 ?_
    refine g_lconst O (pc := 19) dX8_odds_19 lc_0 ?_
    refine g_lconst O (pc := 20) dX8_odds_20 lc_1 ?_
    obtain ⟨q4, e5, hF⟩ := bnd hF
    refine g_Si O (pc := 21) (st := []) dX8_odds_21 (mc_X8_in (u2 I (0) 29 ((0 : Int32))) J e5) cs_X8_in ml_X8_130 rfl (rmok (Nat.le_of_ble_eq_true rfl) (Nat.le_of_ble_eq_true rfl)) (Nat.le_of_ble_eq_true rfl) (fun _ => rfl) rfl ?_
    refine g_if_ne O (pc := 24) 31 dX8_odds_24 (by decide) (fun h6 => ?_) (fun h6 => ?_)
    · rw [if_neg h6] at hF
      refine g_iconst O (pc := 31) dX8_odds_31 (ic_0) ?_
      refine g_istore_n O (pc := 32) (L' := [(3, .int ((0 : Int32))), (0, .ref (0)), (1, .int (x1)), (2, .int (x2))]) dX8_odds_32 (by decide) rfl ?_
      refine g_aload_n O (pc := 33) dX8_odds_33 1 rfl ?_
      obtain ⟨q7, e8, hF⟩ := bnd hF
      refine g_Vv O (pc := 34) (st := []) dX8_odds_34 (mc_X8_open J e8) cb_X8_open ml_X8_315 isC_X8 ob_SMod (zm0 _ _ _ _ _ _ _) (rmok (Nat.le_of_ble_eq_true rfl) (Nat.le_of_ble_eq_true rfl)) (Nat.le_of_ble_eq_true rfl) rfl ?_
      refine g_iconst O (pc := 37) dX8_odds_37 (ic_0) ?_
      refine g_istore O (pc := 38) (L' := [(4, .int ((0 : Int32))), (3, .int ((0 : Int32))), (0, .ref (0)), (1, .int (x1)), (2, .int (x2))]) dX8_odds_38 (by decide) rfl ?_
      refine g_sub [2, 3, 4, 1, 0] (L' := [(0, .ref (0)), (1, .int (x1)), (2, .int (x2)), (3, .int ((0 : Int32))), (4, .int ((0 : Int32)))]) rfl ?_
      exact c_X8_odds_b40 O _ _ _ _ _ _ _ hF
    · rw [if_pos h6] at hF
      refine g_sub [] (L' := []) rfl ?_
      exact c_X8_odds_b27 O _ _ hF

theorem mc_X8_odds {x1 : Int32} {x2 : Int32} {I : IS} (J : JS) {q : Int64 × IS} (hF : f_X8_odds x1 x2 I = some q) : MC yX8_odds cX8_odds 5 (some .long) (rm_ 9 202) SMod 36 [.ref (0), .int (x1), .int (x2)] I J (some (.long q.1), q.2, J) :=
  mc_of pn_X8 (Nat.le_of_ble_eq_true rfl) (fun z O => c_X8_odds_e O _ _ _ _ hF)

def f_X8_rowOf_b48 (k5 : Int32 → Int32 → Int32 → IS → Option (Int32)) (k16 : Int32 → Int32 → Int32 → Int32 → IS → Option (Int32)) (x1 : Int32) (x3 : Int32) (x4 : Int32) (s0 : Int32) (I : IS) : Option (Int32) :=
  k16 (x1) (s0) (x3) (x4 + (1 : Int32)) (I)
set_option maxHeartbeats 4000000 in
set_option maxRecDepth 100000 in
theorem c_X8_rowOf_b48 {z : CTX} {J : JS} (O : OK z cX8_rowOf RX8 5 SMod 36 (rm_ 0 0) (some .int)) {k5 : Int32 → Int32 → Int32 → IS → Option (Int32)} (hk5 : ∀ (x1 : Int32) (x2 : Int32) (x3 : Int32) (I : IS) (q : Int32), k5 x1 x2 x3 I = some q → G z 5 [(0, .ref (0)), (1, .int (x1)), (2, .int (x2)), (3, .int (x3))] [] I J (some (.int q), I, J)) {k16 : Int32 → Int32 → Int32 → Int32 → IS → Option (Int32)} (hk16 : ∀ (x1 : Int32) (x2 : Int32) (x3 : Int32) (x4 : Int32) (I : IS) (q : Int32), k16 x1 x2 x3 x4 I = some q → G z 16 [(0, .ref (0)), (1, .int (x1)), (2, .int (x2)), (3, .int (x3)), (4, .int (x4))] [] I J (some (.int q), I, J)) : ∀ (x1 : Int32) (x3 : Int32) (x4 : Int32) (s0 : Int32) (I : IS) (q : Int32), f_X8_rowOf_b48 k5 k16 x1 x3 x4 s0 I = some q → G z 48 [(0, .ref (0)), (1, .int (x1)), (3, .int (x3)), (4, .int (x4))] [.int (s0)] I J (some (.int q), I, J) := by
  intro x1 x3 x4 s0 I q hF
  rw [f_X8_rowOf_b48] at hF
  refine g_istore_n O (pc := 48) (L' := [(2, .int (s0)), (0, .ref (0)), (1, .int (x1)), (3, .int (x3)), (4, .int (x4))]) dX8_rowOf_48 (by decide) rfl ?_
  refine g_iinc O (pc := 49) (v := x4 + (1 : Int32)) (L' := [(4, .int (x4 + (1 : Int32))), (2, .int (s0)), (0, .ref (0)), (1, .int (x1)), (3, .int (x3))]) dX8_rowOf_49 4 rfl rfl (by decide) rfl ?_
  refine g_goto O (pc := 52) 16 dX8_rowOf_52 (by decide) ?_
  refine g_sub [2, 3, 1, 4, 0] (L' := [(0, .ref (0)), (1, .int (x1)), (2, .int (s0)), (3, .int (x3)), (4, .int (x4 + (1 : Int32)))]) rfl ?_
  exact hk16 _ _ _ _ _ _ hF

def f_X8_rowOf_b16 (k5 : Int32 → Int32 → Int32 → IS → Option (Int32)) : Nat → Int32 → Int32 → Int32 → Int32 → IS → Option (Int32)
  | 0, _, _, _, _, _ => none
  | fu + 1, x1, x2, x3, x4, I =>
    if okI (x3) 4 = true then
    (if (I (1) (x3).toNatClampNeg) ≤ x4 then
    (k5 (x1) (x2) (x3 + (1 : Int32)) (I))
    else
    (if okI ((((32 : Int32) * x3) + x4)) 128 = true then
    (if (I (2) ((((32 : Int32) * x3) + x4)).toNatClampNeg) = x1 then
    (f_X8_rowOf_b48 k5 (f_X8_rowOf_b16 k5 fu) (x1) (x3) (x4) (x3) (I))
    else
    (f_X8_rowOf_b48 k5 (f_X8_rowOf_b16 k5 fu) (x1) (x3) (x4) (x2) (I)))
    else none))
    else none
set_option maxHeartbeats 4000000 in
set_option maxRecDepth 100000 in
theorem c_X8_rowOf_b16 {z : CTX} {J : JS} (O : OK z cX8_rowOf RX8 5 SMod 36 (rm_ 0 0) (some .int)) {k5 : Int32 → Int32 → Int32 → IS → Option (Int32)} (hk5 : ∀ (x1 : Int32) (x2 : Int32) (x3 : Int32) (I : IS) (q : Int32), k5 x1 x2 x3 I = some q → G z 5 [(0, .ref (0)), (1, .int (x1)), (2, .int (x2)), (3, .int (x3))] [] I J (some (.int q), I, J)) : ∀ (fu : Nat) (x1 : Int32) (x2 : Int32) (x3 : Int32) (x4 : Int32) (I : IS) (q : Int32), f_X8_rowOf_b16 k5 fu x1 x2 x3 x4 I = some q → G z 16 [(0, .ref (0)), (1, .int (x1)), (2, .int (x2)), (3, .int (x3)), (4, .int (x4))] [] I J (some (.int q), I, J) := by
  intro fu
  induction fu with
  | zero =>
    intro x1 x2 x3 x4 I q hF
    cases hF
  | succ fu ih =>
    intro x1 x2 x3 x4 I q hF
    rw [f_X8_rowOf_b16] at hF
    refine g_iload O (pc := 16) dX8_rowOf_16 4 rfl ?_
    refine g_aload_n O (pc := 18) dX8_rowOf_18 0 rfl ?_
    refine g_getR O (pc := 19) isC_X8 dX8_rowOf_19 fw_X8_13 (by decide) fd_SMod_0_1 ?_
    refine g_iload_n O (pc := 22) dX8_rowOf_22 3 rfl ?_
    obtain ⟨h1, hF⟩ := gd hF
    refine g_il O (pc := 23) dX8_rowOf_23 ar_SMod_1 h1 ?_
    refine g_icmp_ge O (pc := 24) 55 dX8_rowOf_24 (by decide) (fun h2 => ?_) (fun h2 => ?_)
    · rw [if_pos h2] at hF
      refine g_iinc O (pc := 55) (v := x3 + (1 : Int32)) (L' := [(3, .int (x3 + (1 : Int32))), (0, .ref (0)), (1, .int (x1)), (2, .int (x2)), (4, .int (x4))]) dX8_rowOf_55 3 rfl rfl (by decide) rfl ?_
      refine g_goto O (pc := 58) 5 dX8_rowOf_58 (by decide) ?_
      refine g_sub [1, 2, 3, 0] (L' := [(0, .ref (0)), (1, .int (x1)), (2, .int (x2)), (3, .int (x3 + (1 : Int32)))]) rfl ?_
      exact hk5 _ _ _ _ _ hF
    · rw [if_neg h2] at hF
      refine g_aload_n O (pc := 27) dX8_rowOf_27 0 rfl ?_
      refine g_getR O (pc := 28) isC_X8 dX8_rowOf_28 fw_X8_17 (by decide) fd_SMod_0_2 ?_
      refine g_bipush O (pc := 31) dX8_rowOf_31 bp_32 ?_
      refine g_iload_n O (pc := 33) dX8_rowOf_33 3 rfl ?_
      refine g_imul O (pc := 34) dX8_rowOf_34 ?_
      refine g_iload O (pc := 35) dX8_rowOf_35 4 rfl ?_
      refine g_iadd O (pc := 37) dX8_rowOf_37 ?_
      obtain ⟨h3, hF⟩ := gd hF
      refine g_il O (pc := 38) dX8_rowOf_38 ar_SMod_2 h3 ?_
      refine g_iload_n O (pc := 39) dX8_rowOf_39 1 rfl ?_
      refine g_icmp_ne O (pc := 40) 47 dX8_rowOf_40 (by decide) (fun h4 => ?_) (fun h4 => ?_)
      · rw [if_neg h4] at hF
        refine g_iload_n O (pc := 47) dX8_rowOf_47 2 rfl ?_
        refine g_sub [0, 1, 3, 4] (L' := [(0, .ref (0)), (1, .int (x1)), (3, .int (x3)), (4, .int (x4))]) rfl ?_
        exact c_X8_rowOf_b48 O hk5 ih _ _ _ _ _ _ hF
      · rw [if_pos h4] at hF
        refine g_iload_n O (pc := 43) dX8_rowOf_43 3 rfl ?_
        refine g_goto O (pc := 44) 48 dX8_rowOf_44 (by decide) ?_
        refine g_sub [0, 1, 3, 4] (L' := [(0, .ref (0)), (1, .int (x1)), (3, .int (x3)), (4, .int (x4))]) rfl ?_
        exact c_X8_rowOf_b48 O hk5 ih _ _ _ _ _ _ hF

def f_X8_rowOf_b5 : Nat → Int32 → Int32 → Int32 → IS → Option (Int32)
  | 0, _, _, _, _ => none
  | fu + 1, x1, x2, x3, I =>
    if (I (0) 0) ≤ x3 then
    (some (x2))
    else
    (f_X8_rowOf_b16 (f_X8_rowOf_b5 fu) LF (x1) (x2) (x3) ((0 : Int32)) (I))
set_option maxHeartbeats 4000000 in
set_option maxRecDepth 100000 in
theorem c_X8_rowOf_b5 {z : CTX} {J : JS} (O : OK z cX8_rowOf RX8 5 SMod 36 (rm_ 0 0) (some .int)) : ∀ (fu : Nat) (x1 : Int32) (x2 : Int32) (x3 : Int32) (I : IS) (q : Int32), f_X8_rowOf_b5 fu x1 x2 x3 I = some q → G z 5 [(0, .ref (0)), (1, .int (x1)), (2, .int (x2)), (3, .int (x3))] [] I J (some (.int q), I, J) := by
  intro fu
  induction fu with
  | zero =>
    intro x1 x2 x3 I q hF
    cases hF
  | succ fu ih =>
    intro x1 x2 x3 I q hF
    rw [f_X8_rowOf_b5] at hF
    refine g_iload_n O (pc := 5) dX8_rowOf_5 3 rfl ?_
    refine g_aload_n O (pc := 6) dX8_rowOf_6 0 rfl ?_
    refine g_getI O (pc := 7) isC_X8 dX8_rowOf_7 fw_X8_7 (by decide) fd_SMod_0_0 ?_
    refine g_icmp_ge O (pc := 10) 61 dX8_rowOf_10 (by decide) (fun h1 => ?_) (fun h1 => ?_)
    · rw [if_pos h1] at hF
      refine g_iload_n O (pc := 61) dX8_rowOf_61 2 rfl ?_
      obtain rfl := Option.some.inj hF
      exact g_ireturn O (pc := 62) dX8_rowOf_62 rfl
    · rw [if_neg h1] at hF
      refine g_iconst O (pc := 13) dX8_rowOf_13 (ic_0) ?_
      refine g_istore O (pc := 14) (L' := [(4, .int ((0 : Int32))), (0, .ref (0)), (1, .int (x1)), (2, .int (x2)), (3, .int (x3))]) dX8_rowOf_14 (by decide) rfl ?_
      refine g_sub [1, 2, 3, 4, 0] (L' := [(0, .ref (0)), (1, .int (x1)), (2, .int (x2)), (3, .int (x3)), (4, .int ((0 : Int32)))]) rfl ?_
      exact c_X8_rowOf_b16 O ih _ _ _ _ _ _ _ hF

def f_X8_rowOf (x1 : Int32) (I : IS) : Option (Int32) :=
  f_X8_rowOf_b5 LF (x1) ((-5 : Int32)) ((0 : Int32)) (I)
set_option maxHeartbeats 4000000 in
set_option maxRecDepth 100000 in
theorem c_X8_rowOf_e {z : CTX} {J : JS} (O : OK z cX8_rowOf RX8 5 SMod 36 (rm_ 0 0) (some .int)) : ∀ (x1 : Int32) (I : IS) (q : Int32), f_X8_rowOf x1 I = some q → G z 0 [(0, .ref (0)), (1, .int (x1))] [] I J (some (.int q), I, J) := by
  intro x1 I q hF
  rw [f_X8_rowOf] at hF
  refine g_bipush O (pc := 0) dX8_rowOf_0 bp_m5 ?_
  refine g_istore_n O (pc := 2) (L' := [(2, .int ((-5 : Int32))), (0, .ref (0)), (1, .int (x1))]) dX8_rowOf_2 (by decide) rfl ?_
  refine g_iconst O (pc := 3) dX8_rowOf_3 (ic_0) ?_
  refine g_istore_n O (pc := 4) (L' := [(3, .int ((0 : Int32))), (2, .int ((-5 : Int32))), (0, .ref (0)), (1, .int (x1))]) dX8_rowOf_4 (by decide) rfl ?_
  refine g_sub [2, 3, 1, 0] (L' := [(0, .ref (0)), (1, .int (x1)), (2, .int ((-5 : Int32))), (3, .int ((0 : Int32)))]) rfl ?_
  exact c_X8_rowOf_b5 O _ _ _ _ _ _ hF

theorem mc_X8_rowOf {x1 : Int32} {I : IS} (J : JS) {q : Int32} (hF : f_X8_rowOf x1 I = some q) : MC yX8_rowOf cX8_rowOf 5 (some .int) (rm_ 0 0) SMod 36 [.ref (0), .int (x1)] I J (some (.int q), I, J) :=
  mc_of pn_X8 (Nat.le_of_ble_eq_true rfl) (fun z O => c_X8_rowOf_e O _ _ _ hF)

def f_X8_workedBy_b28 (k5 : Int32 → Int32 → Int32 → IS → Option (Int32)) (x1 : Int32) (x3 : Int32) (s0 : Int32) (I : IS) : Option (Int32) :=
  k5 (x1) (s0) (x3 + (1 : Int32)) (I)
set_option maxHeartbeats 4000000 in
set_option maxRecDepth 100000 in
theorem c_X8_workedBy_b28 {z : CTX} {J : JS} (O : OK z cX8_workedBy RX8 4 SMod 36 (rm_ 0 0) (some .int)) {k5 : Int32 → Int32 → Int32 → IS → Option (Int32)} (hk5 : ∀ (x1 : Int32) (x2 : Int32) (x3 : Int32) (I : IS) (q : Int32), k5 x1 x2 x3 I = some q → G z 5 [(0, .ref (0)), (1, .int (x1)), (2, .int (x2)), (3, .int (x3))] [] I J (some (.int q), I, J)) : ∀ (x1 : Int32) (x3 : Int32) (s0 : Int32) (I : IS) (q : Int32), f_X8_workedBy_b28 k5 x1 x3 s0 I = some q → G z 28 [(0, .ref (0)), (1, .int (x1)), (3, .int (x3))] [.int (s0)] I J (some (.int q), I, J) := by
  intro x1 x3 s0 I q hF
  rw [f_X8_workedBy_b28] at hF
  refine g_istore_n O (pc := 28) (L' := [(2, .int (s0)), (0, .ref (0)), (1, .int (x1)), (3, .int (x3))]) dX8_workedBy_28 (by decide) rfl ?_
  refine g_iinc O (pc := 29) (v := x3 + (1 : Int32)) (L' := [(3, .int (x3 + (1 : Int32))), (2, .int (s0)), (0, .ref (0)), (1, .int (x1))]) dX8_workedBy_29 3 rfl rfl (by decide) rfl ?_
  refine g_goto O (pc := 32) 5 dX8_workedBy_32 (by decide) ?_
  refine g_sub [2, 3, 1, 0] (L' := [(0, .ref (0)), (1, .int (x1)), (2, .int (s0)), (3, .int (x3 + (1 : Int32)))]) rfl ?_
  exact hk5 _ _ _ _ _ hF

def f_X8_workedBy_b5 : Nat → Int32 → Int32 → Int32 → IS → Option (Int32)
  | 0, _, _, _, _ => none
  | fu + 1, x1, x2, x3, I =>
    if (I (0) 0) ≤ x3 then
    (some (x2))
    else
    (if okI (x3) 4 = true then
    (if (I (3) (x3).toNatClampNeg) = x1 then
    (f_X8_workedBy_b28 (f_X8_workedBy_b5 fu) (x1) (x3) (x3) (I))
    else
    (f_X8_workedBy_b28 (f_X8_workedBy_b5 fu) (x1) (x3) (x2) (I)))
    else none)
set_option maxHeartbeats 4000000 in
set_option maxRecDepth 100000 in
theorem c_X8_workedBy_b5 {z : CTX} {J : JS} (O : OK z cX8_workedBy RX8 4 SMod 36 (rm_ 0 0) (some .int)) : ∀ (fu : Nat) (x1 : Int32) (x2 : Int32) (x3 : Int32) (I : IS) (q : Int32), f_X8_workedBy_b5 fu x1 x2 x3 I = some q → G z 5 [(0, .ref (0)), (1, .int (x1)), (2, .int (x2)), (3, .int (x3))] [] I J (some (.int q), I, J) := by
  intro fu
  induction fu with
  | zero =>
    intro x1 x2 x3 I q hF
    cases hF
  | succ fu ih =>
    intro x1 x2 x3 I q hF
    rw [f_X8_workedBy_b5] at hF
    refine g_iload_n O (pc := 5) dX8_workedBy_5 3 rfl ?_
    refine g_aload_n O (pc := 6) dX8_workedBy_6 0 rfl ?_
    refine g_getI O (pc := 7) isC_X8 dX8_workedBy_7 fw_X8_7 (by decide) fd_SMod_0_0 ?_
    refine g_icmp_ge O (pc := 10) 35 dX8_workedBy_10 (by decide) (fun h1 => ?_) (fun h1 => ?_)
    · rw [if_pos h1] at hF
      refine g_iload_n O (pc := 35) dX8_workedBy_35 2 rfl ?_
      obtain rfl := Option.some.inj hF
      exact g_ireturn O (pc := 36) dX8_workedBy_36 rfl
    · rw [if_neg h1] at hF
      refine g_aload_n O (pc := 13) dX8_workedBy_13 0 rfl ?_
      refine g_getR O (pc := 14) isC_X8 dX8_workedBy_14 fw_X8_20 (by decide) fd_SMod_0_3 ?_
      refine g_iload_n O (pc := 17) dX8_workedBy_17 3 rfl ?_
      obtain ⟨h2, hF⟩ := gd hF
      refine g_il O (pc := 18) dX8_workedBy_18 ar_SMod_3 h2 ?_
      refine g_iload_n O (pc := 19) dX8_workedBy_19 1 rfl ?_
      refine g_icmp_ne O (pc := 20) 27 dX8_workedBy_20 (by decide) (fun h3 => ?_) (fun h3 => ?_)
      · rw [if_neg h3] at hF
        refine g_iload_n O (pc := 27) dX8_workedBy_27 2 rfl ?_
        refine g_sub [0, 1, 3] (L' := [(0, .ref (0)), (1, .int (x1)), (3, .int (x3))]) rfl ?_
        exact c_X8_workedBy_b28 O ih _ _ _ _ _ hF
      · rw [if_pos h3] at hF
        refine g_iload_n O (pc := 23) dX8_workedBy_23 3 rfl ?_
        refine g_goto O (pc := 24) 28 dX8_workedBy_24 (by decide) ?_
        refine g_sub [0, 1, 3] (L' := [(0, .ref (0)), (1, .int (x1)), (3, .int (x3))]) rfl ?_
        exact c_X8_workedBy_b28 O ih _ _ _ _ _ hF

def f_X8_workedBy (x1 : Int32) (I : IS) : Option (Int32) :=
  f_X8_workedBy_b5 LF (x1) ((-5 : Int32)) ((0 : Int32)) (I)
set_option maxHeartbeats 4000000 in
set_option maxRecDepth 100000 in
theorem c_X8_workedBy_e {z : CTX} {J : JS} (O : OK z cX8_workedBy RX8 4 SMod 36 (rm_ 0 0) (some .int)) : ∀ (x1 : Int32) (I : IS) (q : Int32), f_X8_workedBy x1 I = some q → G z 0 [(0, .ref (0)), (1, .int (x1))] [] I J (some (.int q), I, J) := by
  intro x1 I q hF
  rw [f_X8_workedBy] at hF
  refine g_bipush O (pc := 0) dX8_workedBy_0 bp_m5 ?_
  refine g_istore_n O (pc := 2) (L' := [(2, .int ((-5 : Int32))), (0, .ref (0)), (1, .int (x1))]) dX8_workedBy_2 (by decide) rfl ?_
  refine g_iconst O (pc := 3) dX8_workedBy_3 (ic_0) ?_
  refine g_istore_n O (pc := 4) (L' := [(3, .int ((0 : Int32))), (2, .int ((-5 : Int32))), (0, .ref (0)), (1, .int (x1))]) dX8_workedBy_4 (by decide) rfl ?_
  refine g_sub [2, 3, 1, 0] (L' := [(0, .ref (0)), (1, .int (x1)), (2, .int ((-5 : Int32))), (3, .int ((0 : Int32)))]) rfl ?_
  exact c_X8_workedBy_b5 O _ _ _ _ _ _ hF

theorem mc_X8_workedBy {x1 : Int32} {I : IS} (J : JS) {q : Int32} (hF : f_X8_workedBy x1 I = some q) : MC yX8_workedBy cX8_workedBy 4 (some .int) (rm_ 0 0) SMod 36 [.ref (0), .int (x1)] I J (some (.int q), I, J) :=
  mc_of pn_X8 (Nat.le_of_ble_eq_true rfl) (fun z O => c_X8_workedBy_e O _ _ _ hF)

def f_X8_treeOf (x1 : Int32) (x2 : Int32) (I : IS) : Option (Int32 × IS) :=
  (f_X8_laySpans I).bind fun q1 =>
  (if x2 = 6 then
  (if okI (x1) 32 = true then
  (some ((q1 (11) (x1).toNatClampNeg), q1))
  else none)
  else if x2 = 7 then
  (if okI (x1) 32 = true then
  (some ((q1 (29) (x1).toNatClampNeg), q1))
  else none)
  else if x2 = 8 then
  (if okI (x1) 32 = true then
  (some ((q1 (30) (x1).toNatClampNeg), q1))
  else none)
  else if x2 = 9 then
  ((f_X8_depthOf (x1) q1).bind fun q10 =>
  (some (q10, q1)))
  else if x2 = 10 then
  ((f_X8_workedBy (x1) q1).bind fun q13 =>
  (some (q13, q1)))
  else ((f_X8_rowOf (x1) q1).bind fun q15 =>
  (some (q15, q1))))
set_option maxHeartbeats 4000000 in
set_option maxRecDepth 100000 in
theorem c_X8_treeOf_e {z : CTX} {J : JS} (O : OK z cX8_treeOf RX8 3 SMod 36 (rm_ 1 24) (some .int)) : ∀ (x1 : Int32) (x2 : Int32) (I : IS) (q : Int32 × IS), f_X8_treeOf x1 x2 I = some q → G z 0 [(0, .ref (0)), (1, .int (x1)), (2, .int (x2))] [] I J (some (.int q.1), q.2, J) := by
  intro x1 x2 I q hF
  rw [f_X8_treeOf] at hF
  refine g_aload_n O (pc := 0) dX8_treeOf_0 0 rfl ?_
  obtain ⟨q1, e2, hF⟩ := bnd hF
  refine g_Vv O (pc := 1) (st := []) dX8_treeOf_1 (mc_X8_laySpans J e2) cb_X8_laySpans ml_X8_278 isC_X8 ob_SMod (zm0 _ _ _ _ _ _ _) (rmok (Nat.le_of_ble_eq_true rfl) (Nat.le_of_ble_eq_true rfl)) (Nat.le_of_ble_eq_true rfl) rfl ?_
  refine g_iload_n O (pc := 4) dX8_treeOf_4 2 rfl ?_
  by_cases h3 : x2 = 6
  · rw [if_pos h3] at hF
    refine g_tabIn O (pc := 5) (35) 40 dX8_treeOf_5 h3 (by decide) (by decide) rfl (by decide) ?_
    refine g_aload_n O (pc := 40) dX8_treeOf_40 0 rfl ?_
    refine g_getR O (pc := 41) isC_X8 dX8_treeOf_41 fw_X8_44 (by decide) fd_SMod_0_12 ?_
    refine g_iload_n O (pc := 44) dX8_treeOf_44 1 rfl ?_
    obtain ⟨h4, hF⟩ := gd hF
    refine g_il O (pc := 45) dX8_treeOf_45 ar_SMod_11 h4 ?_
    obtain rfl := Option.some.inj hF
    exact g_ireturn O (pc := 46) dX8_treeOf_46 rfl
  rw [if_neg h3] at hF
  by_cases h5 : x2 = 7
  · rw [if_pos h5] at hF
    refine g_tabIn O (pc := 5) (42) 47 dX8_treeOf_5 h5 (by decide) (by decide) rfl (by decide) ?_
    refine g_aload_n O (pc := 47) dX8_treeOf_47 0 rfl ?_
    refine g_getR O (pc := 48) isC_X8 dX8_treeOf_48 fw_X8_102 (by decide) fd_SMod_0_48 ?_
    refine g_iload_n O (pc := 51) dX8_treeOf_51 1 rfl ?_
    obtain ⟨h6, hF⟩ := gd hF
    refine g_il O (pc := 52) dX8_treeOf_52 ar_SMod_29 h6 ?_
    obtain rfl := Option.some.inj hF
    exact g_ireturn O (pc := 53) dX8_treeOf_53 rfl
  rw [if_neg h5] at hF
  by_cases h7 : x2 = 8
  · rw [if_pos h7] at hF
    refine g_tabIn O (pc := 5) (49) 54 dX8_treeOf_5 h7 (by decide) (by decide) rfl (by decide) ?_
    refine g_aload_n O (pc := 54) dX8_treeOf_54 0 rfl ?_
    refine g_getR O (pc := 55) isC_X8 dX8_treeOf_55 fw_X8_105 (by decide) fd_SMod_0_49 ?_
    refine g_iload_n O (pc := 58) dX8_treeOf_58 1 rfl ?_
    obtain ⟨h8, hF⟩ := gd hF
    refine g_il O (pc := 59) dX8_treeOf_59 ar_SMod_30 h8 ?_
    obtain rfl := Option.some.inj hF
    exact g_ireturn O (pc := 60) dX8_treeOf_60 rfl
  rw [if_neg h7] at hF
  by_cases h9 : x2 = 9
  · rw [if_pos h9] at hF
    refine g_tabIn O (pc := 5) (56) 61 dX8_treeOf_5 h9 (by decide) (by decide) rfl (by decide) ?_
    refine g_aload_n O (pc := 61) dX8_treeOf_61 0 rfl ?_
    refine g_iload_n O (pc := 62) dX8_treeOf_62 1 rfl ?_
    obtain ⟨q10, e11, hF⟩ := bnd hF
    refine g_Vi O (pc := 63) (st := []) dX8_treeOf_63 (mc_X8_depthOf J e11) cb_X8_depthOf ml_X8_281 isC_X8 ob_SMod (zm0 _ _ _ _ _ _ _) (rmok (Nat.le_of_ble_eq_true rfl) (Nat.le_of_ble_eq_true rfl)) (Nat.le_of_ble_eq_true rfl) rfl ?_
    obtain rfl := Option.some.inj hF
    exact g_ireturn O (pc := 66) dX8_treeOf_66 rfl
  rw [if_neg h9] at hF
  by_cases h12 : x2 = 10
  · rw [if_pos h12] at hF
    refine g_tabIn O (pc := 5) (62) 67 dX8_treeOf_5 h12 (by decide) (by decide) rfl (by decide) ?_
    refine g_aload_n O (pc := 67) dX8_treeOf_67 0 rfl ?_
    refine g_iload_n O (pc := 68) dX8_treeOf_68 1 rfl ?_
    obtain ⟨q13, e14, hF⟩ := bnd hF
    refine g_Vi O (pc := 69) (st := []) dX8_treeOf_69 (mc_X8_workedBy J e14) cb_X8_workedBy ml_X8_284 isC_X8 ob_SMod (zm0 _ _ _ _ _ _ _) (rmok (Nat.le_of_ble_eq_true rfl) (Nat.le_of_ble_eq_true rfl)) (Nat.le_of_ble_eq_true rfl) rfl ?_
    obtain rfl := Option.some.inj hF
    exact g_ireturn O (pc := 72) dX8_treeOf_72 rfl
  rw [if_neg h12] at hF
  have ih3 : ¬ (x2).toInt = 6 := fun q => h3 (Int32.toInt_inj.mp q)
  have ih5 : ¬ (x2).toInt = 7 := fun q => h5 (Int32.toInt_inj.mp q)
  have ih7 : ¬ (x2).toInt = 8 := fun q => h7 (Int32.toInt_inj.mp q)
  have ih9 : ¬ (x2).toInt = 9 := fun q => h9 (Int32.toInt_inj.mp q)
  have ih12 : ¬ (x2).toInt = 10 := fun q => h12 (Int32.toInt_inj.mp q)
  refine g_tabOut O (pc := 5) 73 dX8_treeOf_5 (by omega) (by decide) ?_
  refine g_aload_n O (pc := 73) dX8_treeOf_73 0 rfl ?_
  refine g_iload_n O (pc := 74) dX8_treeOf_74 1 rfl ?_
  obtain ⟨q15, e16, hF⟩ := bnd hF
  refine g_Vi O (pc := 75) (st := []) dX8_treeOf_75 (mc_X8_rowOf J e16) cb_X8_rowOf ml_X8_287 isC_X8 ob_SMod (zm0 _ _ _ _ _ _ _) (rmok (Nat.le_of_ble_eq_true rfl) (Nat.le_of_ble_eq_true rfl)) (Nat.le_of_ble_eq_true rfl) rfl ?_
  obtain rfl := Option.some.inj hF
  exact g_ireturn O (pc := 78) dX8_treeOf_78 rfl

theorem mc_X8_treeOf {x1 : Int32} {x2 : Int32} {I : IS} (J : JS) {q : Int32 × IS} (hF : f_X8_treeOf x1 x2 I = some q) : MC yX8_treeOf cX8_treeOf 3 (some .int) (rm_ 1 24) SMod 36 [.ref (0), .int (x1), .int (x2)] I J (some (.int q.1), q.2, J) :=
  mc_of pn_X8 (Nat.le_of_ble_eq_true rfl) (fun z O => c_X8_treeOf_e O _ _ _ _ hF)

def f_X8_of_b25 (I : IS) : Option (Int32 × IS) :=
  some ((-1 : Int32), I)
set_option maxHeartbeats 4000000 in
set_option maxRecDepth 100000 in
theorem c_X8_of_b25 {z : CTX} {J : JS} (O : OK z cX8_of RX8 3 SMod 36 (rm_ 2 46) (some .int)) : ∀ (I : IS) (q : Int32 × IS), f_X8_of_b25 I = some q → G z 25 [] [] I J (some (.int q.1), q.2, J) := by
  intro I q hF
  rw [f_X8_of_b25] at hF
  refine g_iconst O (pc := 25) dX8_of_25 (ic_m1) ?_
  obtain rfl := Option.some.inj hF
  exact g_ireturn O (pc := 26) dX8_of_26 rfl

def f_X8_of (x1 : Int32) (x2 : Int32) (I : IS) : Option (Int32 × IS) :=
  (f_X8_isTask (x1) (u2 I (0) 29 ((0 : Int32)))).bind fun q1 =>
  (if q1 = 0 then
  (f_X8_of_b25 ((u2 I (0) 29 ((0 : Int32)))))
  else
  ((f_X8_in ((x2).toInt64) ((0 : Int64)) ((11 : Int64))).bind fun q4 =>
  (if q4 = 0 then
  (f_X8_of_b25 ((u2 I (0) 29 ((0 : Int32)))))
  else
  (if x2 = 0 then
  (if okI (x1) 32 = true then
  (some (((u2 I (0) 29 ((0 : Int32))) (6) (x1).toNatClampNeg), (u2 I (0) 29 ((0 : Int32)))))
  else none)
  else if x2 = 1 then
  (if okI (x1) 32 = true then
  (some (((u2 I (0) 29 ((0 : Int32))) (7) (x1).toNatClampNeg), (u2 I (0) 29 ((0 : Int32)))))
  else none)
  else if x2 = 2 then
  (if okI (x1) 32 = true then
  (some (((u2 I (0) 29 ((0 : Int32))) (8) (x1).toNatClampNeg), (u2 I (0) 29 ((0 : Int32)))))
  else none)
  else if x2 = 3 then
  (if okI (x1) 32 = true then
  (some (((u2 I (0) 29 ((0 : Int32))) (9) (x1).toNatClampNeg), (u2 I (0) 29 ((0 : Int32)))))
  else none)
  else if x2 = 4 then
  (if okI (x1) 32 = true then
  (some (((u2 I (0) 29 ((0 : Int32))) (10) (x1).toNatClampNeg), (u2 I (0) 29 ((0 : Int32)))))
  else none)
  else if x2 = 5 then
  ((f_X8_manyIn (x1) (u2 I (0) 29 ((0 : Int32)))).bind fun q18 =>
  (some (q18, (u2 I (0) 29 ((0 : Int32))))))
  else ((f_X8_treeOf (x1) (x2) (u2 I (0) 29 ((0 : Int32)))).bind fun q20 =>
  (some (q20.1, q20.2)))))))
set_option maxHeartbeats 4000000 in
set_option maxRecDepth 100000 in
theorem c_X8_of_e {z : CTX} {J : JS} (O : OK z cX8_of RX8 3 SMod 36 (rm_ 2 46) (some .int)) : ∀ (x1 : Int32) (x2 : Int32) (I : IS) (q : Int32 × IS), f_X8_of x1 x2 I = some q → G z 0 [(0, .ref (0)), (1, .int (x1)), (2, .int (x2))] [] I J (some (.int q.1), q.2, J) := by
  intro x1 x2 I q hF
  rw [f_X8_of] at hF
  refine g_aload_n O (pc := 0) dX8_of_0 0 rfl ?_
  refine g_iconst O (pc := 1) dX8_of_1 (ic_0) ?_
  refine g_putI O (pc := 2) isC_X8 isT_X8 dX8_of_2 fw_X8_124 (by decide) rfl rfl fd_SMod_0_29 ?_
  refine g_aload_n O (pc := 5) dX8_of_5 0 rfl ?_
  refine g_iload_n O (pc := 6) dX8_of_6 1 rfl ?_
  obtain ⟨q1, e2, hF⟩ := bnd hF
  refine g_Vi O (pc := 7) (st := []) dX8_of_7 (mc_X8_isTask J e2) cb_X8_isTask ml_X8_290 isC_X8 ob_SMod (zm0 _ _ _ _ _ _ _) (rmok (Nat.le_of_ble_eq_true rfl) (Nat.le_of_ble_eq_true rfl)) (Nat.le_of_ble_eq_true rfl) rfl ?_
  refine g_if_eq O (pc := 10) 25 dX8_of_10 (by decide) (fun h3 => ?_) (fun h3 => ?_)
  · rw [if_pos h3] at hF
    refine g_sub [] (L' := []) rfl ?_
    exact c_X8_of_b25 O _ _ hF
  · rw [if_neg h3] at hF
    refine g_iload_n O (pc := 13) dX8_of_13 2 rfl ?_
    refine g_i2l O (pc := 14) dX8_of_14 ?_
    refine g_lconst O (pc := 15) dX8_of_15 lc_0 ?_
    refine g_ldc2 O (pc := 16) kw_X8_293 dX8_of_16 ?_
    obtain ⟨q4, e5, hF⟩ := bnd hF
    refine g_Si O (pc := 19) (st := []) dX8_of_19 (mc_X8_in (u2 I (0) 29 ((0 : Int32))) J e5) cs_X8_in ml_X8_130 rfl (rmok (Nat.le_of_ble_eq_true rfl) (Nat.le_of_ble_eq_true rfl)) (Nat.le_of_ble_eq_true rfl) (fun _ => rfl) rfl ?_
    refine g_if_ne O (pc := 22) 27 dX8_of_22 (by decide) (fun h6 => ?_) (fun h6 => ?_)
    · rw [if_neg h6] at hF
      refine g_iload_n O (pc := 27) dX8_of_27 2 rfl ?_
      by_cases h7 : x2 = 0
      · rw [if_pos h7] at hF
        refine g_tabIn O (pc := 28) (40) 68 dX8_of_28 h7 (by decide) (by decide) rfl (by decide) ?_
        refine g_aload_n O (pc := 68) dX8_of_68 0 rfl ?_
        refine g_getR O (pc := 69) isC_X8 dX8_of_69 fw_X8_29 (by decide) fd_SMod_0_7 ?_
        refine g_iload_n O (pc := 72) dX8_of_72 1 rfl ?_
        obtain ⟨h8, hF⟩ := gd hF
        refine g_il O (pc := 73) dX8_of_73 ar_SMod_6 h8 ?_
        obtain rfl := Option.some.inj hF
        exact g_ireturn O (pc := 74) dX8_of_74 rfl
      rw [if_neg h7] at hF
      by_cases h9 : x2 = 1
      · rw [if_pos h9] at hF
        refine g_tabIn O (pc := 28) (47) 75 dX8_of_28 h9 (by decide) (by decide) rfl (by decide) ?_
        refine g_aload_n O (pc := 75) dX8_of_75 0 rfl ?_
        refine g_getR O (pc := 76) isC_X8 dX8_of_76 fw_X8_32 (by decide) fd_SMod_0_8 ?_
        refine g_iload_n O (pc := 79) dX8_of_79 1 rfl ?_
        obtain ⟨h10, hF⟩ := gd hF
        refine g_il O (pc := 80) dX8_of_80 ar_SMod_7 h10 ?_
        obtain rfl := Option.some.inj hF
        exact g_ireturn O (pc := 81) dX8_of_81 rfl
      rw [if_neg h9] at hF
      by_cases h11 : x2 = 2
      · rw [if_pos h11] at hF
        refine g_tabIn O (pc := 28) (54) 82 dX8_of_28 h11 (by decide) (by decide) rfl (by decide) ?_
        refine g_aload_n O (pc := 82) dX8_of_82 0 rfl ?_
        refine g_getR O (pc := 83) isC_X8 dX8_of_83 fw_X8_35 (by decide) fd_SMod_0_9 ?_
        refine g_iload_n O (pc := 86) dX8_of_86 1 rfl ?_
        obtain ⟨h12, hF⟩ := gd hF
        refine g_il O (pc := 87) dX8_of_87 ar_SMod_8 h12 ?_
        obtain rfl := Option.some.inj hF
        exact g_ireturn O (pc := 88) dX8_of_88 rfl
      rw [if_neg h11] at hF
      by_cases h13 : x2 = 3
      · rw [if_pos h13] at hF
        refine g_tabIn O (pc := 28) (61) 89 dX8_of_28 h13 (by decide) (by decide) rfl (by decide) ?_
        refine g_aload_n O (pc := 89) dX8_of_89 0 rfl ?_
        refine g_getR O (pc := 90) isC_X8 dX8_of_90 fw_X8_38 (by decide) fd_SMod_0_10 ?_
        refine g_iload_n O (pc := 93) dX8_of_93 1 rfl ?_
        obtain ⟨h14, hF⟩ := gd hF
        refine g_il O (pc := 94) dX8_of_94 ar_SMod_9 h14 ?_
        obtain rfl := Option.some.inj hF
        exact g_ireturn O (pc := 95) dX8_of_95 rfl
      rw [if_neg h13] at hF
      by_cases h15 : x2 = 4
      · rw [if_pos h15] at hF
        refine g_tabIn O (pc := 28) (68) 96 dX8_of_28 h15 (by decide) (by decide) rfl (by decide) ?_
        refine g_aload_n O (pc := 96) dX8_of_96 0 rfl ?_
        refine g_getR O (pc := 97) isC_X8 dX8_of_97 fw_X8_41 (by decide) fd_SMod_0_11 ?_
        refine g_iload_n O (pc := 100) dX8_of_100 1 rfl ?_
        obtain ⟨h16, hF⟩ := gd hF
        refine g_il O (pc := 101) dX8_of_101 ar_SMod_10 h16 ?_
        obtain rfl := Option.some.inj hF
        exact g_ireturn O (pc := 102) dX8_of_102 rfl
      rw [if_neg h15] at hF
      by_cases h17 : x2 = 5
      · rw [if_pos h17] at hF
        refine g_tabIn O (pc := 28) (75) 103 dX8_of_28 h17 (by decide) (by decide) rfl (by decide) ?_
        refine g_aload_n O (pc := 103) dX8_of_103 0 rfl ?_
        refine g_iload_n O (pc := 104) dX8_of_104 1 rfl ?_
        obtain ⟨q18, e19, hF⟩ := bnd hF
        refine g_Vi O (pc := 105) (st := []) dX8_of_105 (mc_X8_manyIn J e19) cb_X8_manyIn ml_X8_295 isC_X8 ob_SMod (zm0 _ _ _ _ _ _ _) (rmok (Nat.le_of_ble_eq_true rfl) (Nat.le_of_ble_eq_true rfl)) (Nat.le_of_ble_eq_true rfl) rfl ?_
        obtain rfl := Option.some.inj hF
        exact g_ireturn O (pc := 108) dX8_of_108 rfl
      rw [if_neg h17] at hF
      have ih7 : ¬ (x2).toInt = 0 := fun q => h7 (Int32.toInt_inj.mp q)
      have ih9 : ¬ (x2).toInt = 1 := fun q => h9 (Int32.toInt_inj.mp q)
      have ih11 : ¬ (x2).toInt = 2 := fun q => h11 (Int32.toInt_inj.mp q)
      have ih13 : ¬ (x2).toInt = 3 := fun q => h13 (Int32.toInt_inj.mp q)
      have ih15 : ¬ (x2).toInt = 4 := fun q => h15 (Int32.toInt_inj.mp q)
      have ih17 : ¬ (x2).toInt = 5 := fun q => h17 (Int32.toInt_inj.mp q)
      refine g_tabOut O (pc := 28) 109 dX8_of_28 (by omega) (by decide) ?_
      refine g_aload_n O (pc := 109) dX8_of_109 0 rfl ?_
      refine g_iload_n O (pc := 110) dX8_of_110 1 rfl ?_
      refine g_iload_n O (pc := 111) dX8_of_111 2 rfl ?_
      obtain ⟨q20, e21, hF⟩ := bnd hF
      refine g_Vi O (pc := 112) (st := []) dX8_of_112 (mc_X8_treeOf J e21) cb_X8_treeOf ml_X8_298 isC_X8 ob_SMod (zm0 _ _ _ _ _ _ _) (rmok (Nat.le_of_ble_eq_true rfl) (Nat.le_of_ble_eq_true rfl)) (Nat.le_of_ble_eq_true rfl) rfl ?_
      obtain rfl := Option.some.inj hF
      exact g_ireturn O (pc := 115) dX8_of_115 rfl
    · rw [if_pos h6] at hF
      refine g_sub [] (L' := []) rfl ?_
      exact c_X8_of_b25 O _ _ hF

theorem mc_X8_of {x1 : Int32} {x2 : Int32} {I : IS} (J : JS) {q : Int32 × IS} (hF : f_X8_of x1 x2 I = some q) : MC yX8_of cX8_of 3 (some .int) (rm_ 2 46) SMod 36 [.ref (0), .int (x1), .int (x2)] I J (some (.int q.1), q.2, J) :=
  mc_of pn_X8 (Nat.le_of_ble_eq_true rfl) (fun z O => c_X8_of_e O _ _ _ _ hF)

def f_X8_ofArms_b33 (k4 : Int32 → Int32 → Int32 → IS → Option (Int32)) (x1 : Int32) (x3 : Int32) (s0 : Int32) (s1 : Int32) (I : IS) : Option (Int32) :=
  k4 (x1) ((s0 + s1)) (x3 + (1 : Int32)) (I)
set_option maxHeartbeats 4000000 in
set_option maxRecDepth 100000 in
theorem c_X8_ofArms_b33 {z : CTX} {J : JS} (O : OK z cX8_ofArms RX8 4 SMod 36 (rm_ 0 0) (some .int)) {k4 : Int32 → Int32 → Int32 → IS → Option (Int32)} (hk4 : ∀ (x1 : Int32) (x2 : Int32) (x3 : Int32) (I : IS) (q : Int32), k4 x1 x2 x3 I = some q → G z 4 [(0, .ref (0)), (1, .int (x1)), (2, .int (x2)), (3, .int (x3))] [] I J (some (.int q), I, J)) : ∀ (x1 : Int32) (x3 : Int32) (s0 : Int32) (s1 : Int32) (I : IS) (q : Int32), f_X8_ofArms_b33 k4 x1 x3 s0 s1 I = some q → G z 33 [(0, .ref (0)), (1, .int (x1)), (3, .int (x3))] [.int (s1), .int (s0)] I J (some (.int q), I, J) := by
  intro x1 x3 s0 s1 I q hF
  rw [f_X8_ofArms_b33] at hF
  refine g_iadd O (pc := 33) dX8_ofArms_33 ?_
  refine g_istore_n O (pc := 34) (L' := [(2, .int ((s0 + s1))), (0, .ref (0)), (1, .int (x1)), (3, .int (x3))]) dX8_ofArms_34 (by decide) rfl ?_
  refine g_iinc O (pc := 35) (v := x3 + (1 : Int32)) (L' := [(3, .int (x3 + (1 : Int32))), (2, .int ((s0 + s1))), (0, .ref (0)), (1, .int (x1))]) dX8_ofArms_35 3 rfl rfl (by decide) rfl ?_
  refine g_goto O (pc := 38) 4 dX8_ofArms_38 (by decide) ?_
  refine g_sub [2, 3, 1, 0] (L' := [(0, .ref (0)), (1, .int (x1)), (2, .int ((s0 + s1))), (3, .int (x3 + (1 : Int32)))]) rfl ?_
  exact hk4 _ _ _ _ _ hF

def f_X8_ofArms_b4 : Nat → Int32 → Int32 → Int32 → IS → Option (Int32)
  | 0, _, _, _, _ => none
  | fu + 1, x1, x2, x3, I =>
    if (I (0) 0) ≤ x3 then
    (some (x2))
    else
    (if x1 = (2 : Int32) then
    (if okI (x3) 4 = true then
    (f_X8_ofArms_b33 (f_X8_ofArms_b4 fu) (x1) (x3) (x2) ((I (4) (x3).toNatClampNeg)) (I))
    else none)
    else
    (if okI (x3) 4 = true then
    (f_X8_ofArms_b33 (f_X8_ofArms_b4 fu) (x1) (x3) (x2) ((I (5) (x3).toNatClampNeg)) (I))
    else none))
set_option maxHeartbeats 4000000 in
set_option maxRecDepth 100000 in
theorem c_X8_ofArms_b4 {z : CTX} {J : JS} (O : OK z cX8_ofArms RX8 4 SMod 36 (rm_ 0 0) (some .int)) : ∀ (fu : Nat) (x1 : Int32) (x2 : Int32) (x3 : Int32) (I : IS) (q : Int32), f_X8_ofArms_b4 fu x1 x2 x3 I = some q → G z 4 [(0, .ref (0)), (1, .int (x1)), (2, .int (x2)), (3, .int (x3))] [] I J (some (.int q), I, J) := by
  intro fu
  induction fu with
  | zero =>
    intro x1 x2 x3 I q hF
    cases hF
  | succ fu ih =>
    intro x1 x2 x3 I q hF
    rw [f_X8_ofArms_b4] at hF
    refine g_iload_n O (pc := 4) dX8_ofArms_4 3 rfl ?_
    refine g_aload_n O (pc := 5) dX8_ofArms_5 0 rfl ?_
    refine g_getI O (pc := 6) isC_X8 dX8_ofArms_6 fw_X8_7 (by decide) fd_SMod_0_0 ?_
    refine g_icmp_ge O (pc := 9) 41 dX8_ofArms_9 (by decide) (fun h1 => ?_) (fun h1 => ?_)
    · rw [if_pos h1] at hF
      refine g_iload_n O (pc := 41) dX8_ofArms_41 2 rfl ?_
      obtain rfl := Option.some.inj hF
      exact g_ireturn O (pc := 42) dX8_ofArms_42 rfl
    · rw [if_neg h1] at hF
      refine g_iload_n O (pc := 12) dX8_ofArms_12 2 rfl ?_
      refine g_iload_n O (pc := 13) dX8_ofArms_13 1 rfl ?_
      refine g_iconst O (pc := 14) dX8_ofArms_14 (ic_2) ?_
      refine g_icmp_ne O (pc := 15) 27 dX8_ofArms_15 (by decide) (fun h2 => ?_) (fun h2 => ?_)
      · rw [if_neg h2] at hF
        refine g_aload_n O (pc := 27) dX8_ofArms_27 0 rfl ?_
        refine g_getR O (pc := 28) isC_X8 dX8_ofArms_28 fw_X8_26 (by decide) fd_SMod_0_5 ?_
        refine g_iload_n O (pc := 31) dX8_ofArms_31 3 rfl ?_
        obtain ⟨h3, hF⟩ := gd hF
        refine g_il O (pc := 32) dX8_ofArms_32 ar_SMod_5 h3 ?_
        refine g_sub [0, 1, 3] (L' := [(0, .ref (0)), (1, .int (x1)), (3, .int (x3))]) rfl ?_
        exact c_X8_ofArms_b33 O ih _ _ _ _ _ _ hF
      · rw [if_pos h2] at hF
        refine g_aload_n O (pc := 18) dX8_ofArms_18 0 rfl ?_
        refine g_getR O (pc := 19) isC_X8 dX8_ofArms_19 fw_X8_23 (by decide) fd_SMod_0_4 ?_
        refine g_iload_n O (pc := 22) dX8_ofArms_22 3 rfl ?_
        obtain ⟨h4, hF⟩ := gd hF
        refine g_il O (pc := 23) dX8_ofArms_23 ar_SMod_4 h4 ?_
        refine g_goto O (pc := 24) 33 dX8_ofArms_24 (by decide) ?_
        refine g_sub [0, 1, 3] (L' := [(0, .ref (0)), (1, .int (x1)), (3, .int (x3))]) rfl ?_
        exact c_X8_ofArms_b33 O ih _ _ _ _ _ _ hF

def f_X8_ofArms (x1 : Int32) (I : IS) : Option (Int32) :=
  f_X8_ofArms_b4 LF (x1) ((0 : Int32)) ((0 : Int32)) (I)
set_option maxHeartbeats 4000000 in
set_option maxRecDepth 100000 in
theorem c_X8_ofArms_e {z : CTX} {J : JS} (O : OK z cX8_ofArms RX8 4 SMod 36 (rm_ 0 0) (some .int)) : ∀ (x1 : Int32) (I : IS) (q : Int32), f_X8_ofArms x1 I = some q → G z 0 [(0, .ref (0)), (1, .int (x1))] [] I J (some (.int q), I, J) := by
  intro x1 I q hF
  rw [f_X8_ofArms] at hF
  refine g_iconst O (pc := 0) dX8_ofArms_0 (ic_0) ?_
  refine g_istore_n O (pc := 1) (L' := [(2, .int ((0 : Int32))), (0, .ref (0)), (1, .int (x1))]) dX8_ofArms_1 (by decide) rfl ?_
  refine g_iconst O (pc := 2) dX8_ofArms_2 (ic_0) ?_
  refine g_istore_n O (pc := 3) (L' := [(3, .int ((0 : Int32))), (2, .int ((0 : Int32))), (0, .ref (0)), (1, .int (x1))]) dX8_ofArms_3 (by decide) rfl ?_
  refine g_sub [2, 3, 1, 0] (L' := [(0, .ref (0)), (1, .int (x1)), (2, .int ((0 : Int32))), (3, .int ((0 : Int32)))]) rfl ?_
  exact c_X8_ofArms_b4 O _ _ _ _ _ _ hF

theorem mc_X8_ofArms {x1 : Int32} {I : IS} (J : JS) {q : Int32} (hF : f_X8_ofArms x1 I = some q) : MC yX8_ofArms cX8_ofArms 4 (some .int) (rm_ 0 0) SMod 36 [.ref (0), .int (x1)] I J (some (.int q), I, J) :=
  mc_of pn_X8 (Nat.le_of_ble_eq_true rfl) (fun z O => c_X8_ofArms_e O _ _ _ hF)

def f_X8_on_b71 (s0 : Int32) (I : IS) : Option (Int32 × IS) :=
  (f_X8_again I).bind fun q1 =>
  (some (s0, q1))
set_option maxHeartbeats 4000000 in
set_option maxRecDepth 100000 in
theorem c_X8_on_b71 {z : CTX} {J : JS} (O : OK z cX8_on RX8 4 SMod 36 (rm_ 9 202) (some .int)) : ∀ (s0 : Int32) (I : IS) (q : Int32 × IS), f_X8_on_b71 s0 I = some q → G z 71 [(0, .ref (0))] [.int (s0)] I J (some (.int q.1), q.2, J) := by
  intro s0 I q hF
  rw [f_X8_on_b71] at hF
  refine g_istore_n O (pc := 71) (L' := [(3, .int (s0)), (0, .ref (0))]) dX8_on_71 (by decide) rfl ?_
  refine g_aload_n O (pc := 72) dX8_on_72 1 rfl ?_
  obtain ⟨q1, e2, hF⟩ := bnd hF
  refine g_Vv O (pc := 73) (st := []) dX8_on_73 (mc_X8_again J e2) cb_X8_again ml_X8_321 isC_X8 ob_SMod (zm0 _ _ _ _ _ _ _) (rmok (Nat.le_of_ble_eq_true rfl) (Nat.le_of_ble_eq_true rfl)) (Nat.le_of_ble_eq_true rfl) rfl ?_
  refine g_iload_n O (pc := 76) dX8_on_76 0 rfl ?_
  obtain rfl := Option.some.inj hF
  exact g_ireturn O (pc := 77) dX8_on_77 rfl

def f_X8_on (x1 : Int32) (x2 : Int32) (I : IS) : Option (Int32 × IS) :=
  (f_X8_in ((x2).toInt64) ((0 : Int64)) ((3 : Int64))).bind fun q1 =>
  (if q1 = 0 then
  (some ((-1 : Int32), (u2 I (0) 29 ((0 : Int32)))))
  else
  ((f_X8_in ((x1).toInt64) ((0 : Int64)) ((60 : Int64))).bind fun q4 =>
  (if q4 = 0 then
  (some ((-2 : Int32), (u2 I (0) 29 ((0 : Int32)))))
  else
  ((f_X8_open (u2 I (0) 29 ((0 : Int32)))).bind fun q7 =>
  ((f_X8_goRounds (x1) q7).bind fun q9 =>
  (if x2 = 0 then
  ((f_X8_endedMany q9).bind fun q17 =>
  (f_X8_on_b71 (q17) (q9)))
  else
  (if x2 = (1 : Int32) then
  ((f_X8_doneMany q9).bind fun q15 =>
  (f_X8_on_b71 (q15) (q9)))
  else
  ((f_X8_ofArms (x2) q9).bind fun q13 =>
  (f_X8_on_b71 (q13) (q9))))))))))
set_option maxHeartbeats 4000000 in
set_option maxRecDepth 100000 in
theorem c_X8_on_e {z : CTX} {J : JS} (O : OK z cX8_on RX8 4 SMod 36 (rm_ 9 202) (some .int)) : ∀ (x1 : Int32) (x2 : Int32) (I : IS) (q : Int32 × IS), f_X8_on x1 x2 I = some q → G z 0 [(0, .ref (0)), (1, .int (x1)), (2, .int (x2))] [] I J (some (.int q.1), q.2, J) := by
  intro x1 x2 I q hF
  rw [f_X8_on] at hF
  refine g_aload_n O (pc := 0) dX8_on_0 0 rfl ?_
  refine g_iconst O (pc := 1) dX8_on_1 (ic_0) ?_
  refine g_putI O (pc := 2) isC_X8 isT_X8 dX8_on_2 fw_X8_124 (by decide) rfl rfl fd_SMod_0_29 ?_
  refine g_iload_n O (pc := 5) dX8_on_5 2 rfl ?_
  refine g_i2l O (pc := 6) dX8_on_6 ?_
  refine g_lconst O (pc := 7) dX8_on_7 lc_0 ?_
  refine g_ldc2 O (pc := 8) kw_X8_302 dX8_on_8 ?_
  obtain ⟨q1, e2, hF⟩ := bnd hF
  refine g_Si O (pc := 11) (st := []) dX8_on_11 (mc_X8_in (u2 I (0) 29 ((0 : Int32))) J e2) cs_X8_in ml_X8_130 rfl (rmok (Nat.le_of_ble_eq_true rfl) (Nat.le_of_ble_eq_true rfl)) (Nat.le_of_ble_eq_true rfl) (fun _ => rfl) rfl ?_
  refine g_if_ne O (pc := 14) 19 dX8_on_14 (by decide) (fun h3 => ?_) (fun h3 => ?_)
  · rw [if_neg h3] at hF
    refine g_iload_n O (pc := 19) dX8_on_19 1 rfl ?_
    refine g_i2l O (pc := 20) dX8_on_20 ?_
    refine g_lconst O (pc := 21) dX8_on_21 lc_0 ?_
    refine g_ldc2 O (pc := 22) kw_X8_304 dX8_on_22 ?_
    obtain ⟨q4, e5, hF⟩ := bnd hF
    refine g_Si O (pc := 25) (st := []) dX8_on_25 (mc_X8_in (u2 I (0) 29 ((0 : Int32))) J e5) cs_X8_in ml_X8_130 rfl (rmok (Nat.le_of_ble_eq_true rfl) (Nat.le_of_ble_eq_true rfl)) (Nat.le_of_ble_eq_true rfl) (fun _ => rfl) rfl ?_
    refine g_if_ne O (pc := 28) 34 dX8_on_28 (by decide) (fun h6 => ?_) (fun h6 => ?_)
    · rw [if_neg h6] at hF
      refine g_aload_n O (pc := 34) dX8_on_34 0 rfl ?_
      obtain ⟨q7, e8, hF⟩ := bnd hF
      refine g_Vv O (pc := 35) (st := []) dX8_on_35 (mc_X8_open J e8) cb_X8_open ml_X8_315 isC_X8 ob_SMod (zm0 _ _ _ _ _ _ _) (rmok (Nat.le_of_ble_eq_true rfl) (Nat.le_of_ble_eq_true rfl)) (Nat.le_of_ble_eq_true rfl) rfl ?_
      refine g_aload_n O (pc := 38) dX8_on_38 0 rfl ?_
      refine g_iload_n O (pc := 39) dX8_on_39 1 rfl ?_
      obtain ⟨q9, e10, hF⟩ := bnd hF
      refine g_Vv O (pc := 40) (st := []) dX8_on_40 (mc_X8_goRounds J e10) cb_X8_goRounds ml_X8_306 isC_X8 ob_SMod (zm0 _ _ _ _ _ _ _) (rmok (Nat.le_of_ble_eq_true rfl) (Nat.le_of_ble_eq_true rfl)) (Nat.le_of_ble_eq_true rfl) rfl ?_
      refine g_iload_n O (pc := 43) dX8_on_43 2 rfl ?_
      refine g_if_ne O (pc := 44) 54 dX8_on_44 (by decide) (fun h11 => ?_) (fun h11 => ?_)
      · rw [if_neg h11] at hF
        refine g_iload_n O (pc := 54) dX8_on_54 2 rfl ?_
        refine g_iconst O (pc := 55) dX8_on_55 (ic_1) ?_
        refine g_icmp_ne O (pc := 56) 66 dX8_on_56 (by decide) (fun h12 => ?_) (fun h12 => ?_)
        · rw [if_neg h12] at hF
          refine g_aload_n O (pc := 66) dX8_on_66 0 rfl ?_
          refine g_iload_n O (pc := 67) dX8_on_67 2 rfl ?_
          obtain ⟨q13, e14, hF⟩ := bnd hF
          refine g_Vi O (pc := 68) (st := []) dX8_on_68 (mc_X8_ofArms J e14) cb_X8_ofArms ml_X8_336 isC_X8 ob_SMod (zm0 _ _ _ _ _ _ _) (rmok (Nat.le_of_ble_eq_true rfl) (Nat.le_of_ble_eq_true rfl)) (Nat.le_of_ble_eq_true rfl) rfl ?_
          refine g_sub [0] (L' := [(0, .ref (0))]) rfl ?_
          exact c_X8_on_b71 O _ _ _ hF
        · rw [if_pos h12] at hF
          refine g_aload_n O (pc := 59) dX8_on_59 0 rfl ?_
          obtain ⟨q15, e16, hF⟩ := bnd hF
          refine g_Vi O (pc := 60) (st := []) dX8_on_60 (mc_X8_doneMany J e16) cb_X8_doneMany ml_X8_333 isC_X8 ob_SMod (zm0 _ _ _ _ _ _ _) (rmok (Nat.le_of_ble_eq_true rfl) (Nat.le_of_ble_eq_true rfl)) (Nat.le_of_ble_eq_true rfl) rfl ?_
          refine g_goto O (pc := 63) 71 dX8_on_63 (by decide) ?_
          refine g_sub [0] (L' := [(0, .ref (0))]) rfl ?_
          exact c_X8_on_b71 O _ _ _ hF
      · rw [if_pos h11] at hF
        refine g_aload_n O (pc := 47) dX8_on_47 0 rfl ?_
        obtain ⟨q17, e18, hF⟩ := bnd hF
        refine g_Vi O (pc := 48) (st := []) dX8_on_48 (mc_X8_endedMany J e18) cb_X8_endedMany ml_X8_330 isC_X8 ob_SMod (zm0 _ _ _ _ _ _ _) (rmok (Nat.le_of_ble_eq_true rfl) (Nat.le_of_ble_eq_true rfl)) (Nat.le_of_ble_eq_true rfl) rfl ?_
        refine g_goto O (pc := 51) 71 dX8_on_51 (by decide) ?_
        refine g_sub [0] (L' := [(0, .ref (0))]) rfl ?_
        exact c_X8_on_b71 O _ _ _ hF
    · rw [if_pos h6] at hF
      refine g_bipush O (pc := 31) dX8_on_31 bp_m2 ?_
      obtain rfl := Option.some.inj hF
      exact g_ireturn O (pc := 33) dX8_on_33 rfl
  · rw [if_pos h3] at hF
    refine g_iconst O (pc := 17) dX8_on_17 (ic_m1) ?_
    obtain rfl := Option.some.inj hF
    exact g_ireturn O (pc := 18) dX8_on_18 rfl

theorem mc_X8_on {x1 : Int32} {x2 : Int32} {I : IS} (J : JS) {q : Int32 × IS} (hF : f_X8_on x1 x2 I = some q) : MC yX8_on cX8_on 4 (some .int) (rm_ 9 202) SMod 36 [.ref (0), .int (x1), .int (x2)] I J (some (.int q.1), q.2, J) :=
  mc_of pn_X8 (Nat.le_of_ble_eq_true rfl) (fun z O => c_X8_on_e O _ _ _ _ hF)

def f_X8_pass (x1 : Int32) (I : IS) : Option (Int32 × IS) :=
  (f_X8_in ((x1).toInt64) ((0 : Int64)) ((60 : Int64))).bind fun q1 =>
  (if q1 = 0 then
  (some ((-2 : Int32), (u2 I (0) 29 ((0 : Int32)))))
  else
  (if (((u2 I (0) 29 ((0 : Int32))) (0) 15) + x1) ≤ (9999 : Int32) then
  ((f_X8_goRounds (x1) (u2 I (0) 29 ((0 : Int32)))).bind fun q5 =>
  (some ((q5 (0) 15), q5)))
  else
  (some ((-3 : Int32), (u2 I (0) 29 ((0 : Int32)))))))
set_option maxHeartbeats 4000000 in
set_option maxRecDepth 100000 in
theorem c_X8_pass_e {z : CTX} {J : JS} (O : OK z cX8_pass RX8 2 SMod 36 (rm_ 9 202) (some .int)) : ∀ (x1 : Int32) (I : IS) (q : Int32 × IS), f_X8_pass x1 I = some q → G z 0 [(0, .ref (0)), (1, .int (x1))] [] I J (some (.int q.1), q.2, J) := by
  intro x1 I q hF
  rw [f_X8_pass] at hF
  refine g_aload_n O (pc := 0) dX8_pass_0 0 rfl ?_
  refine g_iconst O (pc := 1) dX8_pass_1 (ic_0) ?_
  refine g_putI O (pc := 2) isC_X8 isT_X8 dX8_pass_2 fw_X8_124 (by decide) rfl rfl fd_SMod_0_29 ?_
  refine g_iload_n O (pc := 5) dX8_pass_5 1 rfl ?_
  refine g_i2l O (pc := 6) dX8_pass_6 ?_
  refine g_lconst O (pc := 7) dX8_pass_7 lc_0 ?_
  refine g_ldc2 O (pc := 8) kw_X8_304 dX8_pass_8 ?_
  obtain ⟨q1, e2, hF⟩ := bnd hF
  refine g_Si O (pc := 11) (st := []) dX8_pass_11 (mc_X8_in (u2 I (0) 29 ((0 : Int32))) J e2) cs_X8_in ml_X8_130 rfl (rmok (Nat.le_of_ble_eq_true rfl) (Nat.le_of_ble_eq_true rfl)) (Nat.le_of_ble_eq_true rfl) (fun _ => rfl) rfl ?_
  refine g_if_ne O (pc := 14) 20 dX8_pass_14 (by decide) (fun h3 => ?_) (fun h3 => ?_)
  · rw [if_neg h3] at hF
    refine g_aload_n O (pc := 20) dX8_pass_20 0 rfl ?_
    refine g_getI O (pc := 21) isC_X8 dX8_pass_21 fw_X8_157 (by decide) fd_SMod_0_15 ?_
    refine g_iload_n O (pc := 24) dX8_pass_24 1 rfl ?_
    refine g_iadd O (pc := 25) dX8_pass_25 ?_
    refine g_sipush O (pc := 26) dX8_pass_26 sp_9999 ?_
    refine g_icmp_le O (pc := 29) 35 dX8_pass_29 (by decide) (fun h4 => ?_) (fun h4 => ?_)
    · rw [if_pos h4] at hF
      refine g_aload_n O (pc := 35) dX8_pass_35 0 rfl ?_
      refine g_iload_n O (pc := 36) dX8_pass_36 1 rfl ?_
      obtain ⟨q5, e6, hF⟩ := bnd hF
      refine g_Vv O (pc := 37) (st := []) dX8_pass_37 (mc_X8_goRounds J e6) cb_X8_goRounds ml_X8_306 isC_X8 ob_SMod (zm0 _ _ _ _ _ _ _) (rmok (Nat.le_of_ble_eq_true rfl) (Nat.le_of_ble_eq_true rfl)) (Nat.le_of_ble_eq_true rfl) rfl ?_
      refine g_aload_n O (pc := 40) dX8_pass_40 0 rfl ?_
      refine g_getI O (pc := 41) isC_X8 dX8_pass_41 fw_X8_157 (by decide) fd_SMod_0_15 ?_
      obtain rfl := Option.some.inj hF
      exact g_ireturn O (pc := 44) dX8_pass_44 rfl
    · rw [if_neg h4] at hF
      refine g_bipush O (pc := 32) dX8_pass_32 bp_m3 ?_
      obtain rfl := Option.some.inj hF
      exact g_ireturn O (pc := 34) dX8_pass_34 rfl
  · rw [if_pos h3] at hF
    refine g_bipush O (pc := 17) dX8_pass_17 bp_m2 ?_
    obtain rfl := Option.some.inj hF
    exact g_ireturn O (pc := 19) dX8_pass_19 rfl

theorem mc_X8_pass {x1 : Int32} {I : IS} (J : JS) {q : Int32 × IS} (hF : f_X8_pass x1 I = some q) : MC yX8_pass cX8_pass 2 (some .int) (rm_ 9 202) SMod 36 [.ref (0), .int (x1)] I J (some (.int q.1), q.2, J) :=
  mc_of pn_X8 (Nat.le_of_ble_eq_true rfl) (fun z O => c_X8_pass_e O _ _ _ hF)

def f_X8_plan_b42 (I : IS) : Option (Int32 × IS) :=
  some ((-1 : Int32), I)
set_option maxHeartbeats 4000000 in
set_option maxRecDepth 100000 in
theorem c_X8_plan_b42 {z : CTX} {J : JS} (O : OK z cX8_plan RX8 3 SMod 36 (rm_ 2 46) (some .int)) : ∀ (I : IS) (q : Int32 × IS), f_X8_plan_b42 I = some q → G z 42 [] [] I J (some (.int q.1), q.2, J) := by
  intro I q hF
  rw [f_X8_plan_b42] at hF
  refine g_iconst O (pc := 42) dX8_plan_42 (ic_m1) ?_
  obtain rfl := Option.some.inj hF
  exact g_ireturn O (pc := 43) dX8_plan_43 rfl

def f_X8_plan_b44 (x1 : Int32) (x2 : Int32) (I : IS) : Option (Int32 × IS) :=
  if (I (0) 21) = (10 : Int32) then
  (some ((-4 : Int32), I))
  else
  (if okI ((I (0) 21)) 10 = true then
  (if okI (((u2 I (16) ((I (0) 21)).toNatClampNeg (x1)) (0) 21)) 10 = true then
  ((some (u2 (u2 I (16) ((I (0) 21)).toNatClampNeg (x1)) (17) (((u2 I (16) ((I (0) 21)).toNatClampNeg (x1)) (0) 21)).toNatClampNeg (x2))).bind fun I4 =>
  (some (((u2 I4 (0) 21 (((I4 (0) 21) + (1 : Int32)))) (0) 21), (u2 I4 (0) 21 (((I4 (0) 21) + (1 : Int32)))))))
  else none)
  else none)
set_option maxHeartbeats 4000000 in
set_option maxRecDepth 100000 in
theorem c_X8_plan_b44 {z : CTX} {J : JS} (O : OK z cX8_plan RX8 3 SMod 36 (rm_ 2 46) (some .int)) : ∀ (x1 : Int32) (x2 : Int32) (I : IS) (q : Int32 × IS), f_X8_plan_b44 x1 x2 I = some q → G z 44 [(0, .ref (0)), (1, .int (x1)), (2, .int (x2))] [] I J (some (.int q.1), q.2, J) := by
  intro x1 x2 I q hF
  rw [f_X8_plan_b44] at hF
  refine g_aload_n O (pc := 44) dX8_plan_44 0 rfl ?_
  refine g_getI O (pc := 45) isC_X8 dX8_plan_45 fw_X8_151 (by decide) fd_SMod_0_21 ?_
  refine g_bipush O (pc := 48) dX8_plan_48 bp_10 ?_
  refine g_icmp_ne O (pc := 50) 56 dX8_plan_50 (by decide) (fun h1 => ?_) (fun h1 => ?_)
  · rw [if_neg h1] at hF
    refine g_aload_n O (pc := 56) dX8_plan_56 0 rfl ?_
    refine g_getR O (pc := 57) isC_X8 dX8_plan_57 fw_X8_62 (by decide) fd_SMod_0_22 ?_
    refine g_aload_n O (pc := 60) dX8_plan_60 0 rfl ?_
    refine g_getI O (pc := 61) isC_X8 dX8_plan_61 fw_X8_151 (by decide) fd_SMod_0_21 ?_
    refine g_iload_n O (pc := 64) dX8_plan_64 1 rfl ?_
    obtain ⟨h2, hF⟩ := gd hF
    refine g_is O (pc := 65) dX8_plan_65 ar_SMod_16 h2 ?_
    refine g_aload_n O (pc := 66) dX8_plan_66 0 rfl ?_
    refine g_getR O (pc := 67) isC_X8 dX8_plan_67 fw_X8_65 (by decide) fd_SMod_0_23 ?_
    refine g_aload_n O (pc := 70) dX8_plan_70 0 rfl ?_
    refine g_getI O (pc := 71) isC_X8 dX8_plan_71 fw_X8_151 (by decide) fd_SMod_0_21 ?_
    refine g_iload_n O (pc := 74) dX8_plan_74 2 rfl ?_
    obtain ⟨h3, hF⟩ := gd hF
    refine g_is O (pc := 75) dX8_plan_75 ar_SMod_17 h3 ?_
    obtain ⟨I4, g5, hF⟩ := bnd hF
    refine g_nmI (Option.some.inj g5) ?_
    refine g_aload_n O (pc := 76) dX8_plan_76 0 rfl ?_
    refine g_dup O (pc := 77) dX8_plan_77 rfl ?_
    refine g_getI O (pc := 78) isC_X8 dX8_plan_78 fw_X8_151 (by decide) fd_SMod_0_21 ?_
    refine g_iconst O (pc := 81) dX8_plan_81 (ic_1) ?_
    refine g_iadd O (pc := 82) dX8_plan_82 ?_
    refine g_putI O (pc := 83) isC_X8 isT_X8 dX8_plan_83 fw_X8_151 (by decide) rfl rfl fd_SMod_0_21 ?_
    refine g_aload_n O (pc := 86) dX8_plan_86 0 rfl ?_
    refine g_getI O (pc := 87) isC_X8 dX8_plan_87 fw_X8_151 (by decide) fd_SMod_0_21 ?_
    obtain rfl := Option.some.inj hF
    exact g_ireturn O (pc := 90) dX8_plan_90 rfl
  · rw [if_pos h1] at hF
    refine g_bipush O (pc := 53) dX8_plan_53 bp_m4 ?_
    obtain rfl := Option.some.inj hF
    exact g_ireturn O (pc := 55) dX8_plan_55 rfl

def f_X8_plan (x1 : Int32) (x2 : Int32) (I : IS) : Option (Int32 × IS) :=
  if x1 = (-1 : Int32) then
  (some ((0 : Int32), (u2 (u2 I (0) 29 ((0 : Int32))) (0) 21 ((0 : Int32)))))
  else
  ((f_X8_in ((x1).toInt64) ((0 : Int64)) ((2 : Int64))).bind fun q2 =>
  (if q2 = 0 then
  (f_X8_plan_b42 ((u2 I (0) 29 ((0 : Int32)))))
  else
  (if x1 = (1 : Int32) then
  ((f_X8_isTask (x2) (u2 I (0) 29 ((0 : Int32)))).bind fun q6 =>
  (if q6 = 0 then
  (f_X8_plan_b42 ((u2 I (0) 29 ((0 : Int32)))))
  else
  (f_X8_plan_b44 (x1) (x2) ((u2 I (0) 29 ((0 : Int32)))))))
  else
  (f_X8_plan_b44 (x1) (x2) ((u2 I (0) 29 ((0 : Int32))))))))
set_option maxHeartbeats 4000000 in
set_option maxRecDepth 100000 in
theorem c_X8_plan_e {z : CTX} {J : JS} (O : OK z cX8_plan RX8 3 SMod 36 (rm_ 2 46) (some .int)) : ∀ (x1 : Int32) (x2 : Int32) (I : IS) (q : Int32 × IS), f_X8_plan x1 x2 I = some q → G z 0 [(0, .ref (0)), (1, .int (x1)), (2, .int (x2))] [] I J (some (.int q.1), q.2, J) := by
  intro x1 x2 I q hF
  rw [f_X8_plan] at hF
  refine g_aload_n O (pc := 0) dX8_plan_0 0 rfl ?_
  refine g_iconst O (pc := 1) dX8_plan_1 (ic_0) ?_
  refine g_putI O (pc := 2) isC_X8 isT_X8 dX8_plan_2 fw_X8_124 (by decide) rfl rfl fd_SMod_0_29 ?_
  refine g_iload_n O (pc := 5) dX8_plan_5 1 rfl ?_
  refine g_iconst O (pc := 6) dX8_plan_6 (ic_m1) ?_
  refine g_icmp_ne O (pc := 7) 17 dX8_plan_7 (by decide) (fun h1 => ?_) (fun h1 => ?_)
  · rw [if_neg h1] at hF
    refine g_iload_n O (pc := 17) dX8_plan_17 1 rfl ?_
    refine g_i2l O (pc := 18) dX8_plan_18 ?_
    refine g_lconst O (pc := 19) dX8_plan_19 lc_0 ?_
    refine g_ldc2 O (pc := 20) kw_X8_359 dX8_plan_20 ?_
    obtain ⟨q2, e3, hF⟩ := bnd hF
    refine g_Si O (pc := 23) (st := []) dX8_plan_23 (mc_X8_in (u2 I (0) 29 ((0 : Int32))) J e3) cs_X8_in ml_X8_130 rfl (rmok (Nat.le_of_ble_eq_true rfl) (Nat.le_of_ble_eq_true rfl)) (Nat.le_of_ble_eq_true rfl) (fun _ => rfl) rfl ?_
    refine g_if_eq O (pc := 26) 42 dX8_plan_26 (by decide) (fun h4 => ?_) (fun h4 => ?_)
    · rw [if_pos h4] at hF
      refine g_sub [] (L' := []) rfl ?_
      exact c_X8_plan_b42 O _ _ hF
    · rw [if_neg h4] at hF
      refine g_iload_n O (pc := 29) dX8_plan_29 1 rfl ?_
      refine g_iconst O (pc := 30) dX8_plan_30 (ic_1) ?_
      refine g_icmp_ne O (pc := 31) 44 dX8_plan_31 (by decide) (fun h5 => ?_) (fun h5 => ?_)
      · rw [if_neg h5] at hF
        refine g_sub [0, 1, 2] (L' := [(0, .ref (0)), (1, .int (x1)), (2, .int (x2))]) rfl ?_
        exact c_X8_plan_b44 O _ _ _ _ hF
      · rw [if_pos h5] at hF
        refine g_aload_n O (pc := 34) dX8_plan_34 0 rfl ?_
        refine g_iload_n O (pc := 35) dX8_plan_35 2 rfl ?_
        obtain ⟨q6, e7, hF⟩ := bnd hF
        refine g_Vi O (pc := 36) (st := []) dX8_plan_36 (mc_X8_isTask J e7) cb_X8_isTask ml_X8_290 isC_X8 ob_SMod (zm0 _ _ _ _ _ _ _) (rmok (Nat.le_of_ble_eq_true rfl) (Nat.le_of_ble_eq_true rfl)) (Nat.le_of_ble_eq_true rfl) rfl ?_
        refine g_if_ne O (pc := 39) 44 dX8_plan_39 (by decide) (fun h8 => ?_) (fun h8 => ?_)
        · rw [if_neg h8] at hF
          refine g_sub [0, 1, 2] (L' := [(0, .ref (0)), (1, .int (x1)), (2, .int (x2))]) rfl ?_
          exact c_X8_plan_b44 O _ _ _ _ hF
        · rw [if_pos h8] at hF
          refine g_sub [] (L' := []) rfl ?_
          exact c_X8_plan_b42 O _ _ hF
  · rw [if_pos h1] at hF
    refine g_aload_n O (pc := 10) dX8_plan_10 0 rfl ?_
    refine g_iconst O (pc := 11) dX8_plan_11 (ic_0) ?_
    refine g_putI O (pc := 12) isC_X8 isT_X8 dX8_plan_12 fw_X8_151 (by decide) rfl rfl fd_SMod_0_21 ?_
    refine g_iconst O (pc := 15) dX8_plan_15 (ic_0) ?_
    obtain rfl := Option.some.inj hF
    exact g_ireturn O (pc := 16) dX8_plan_16 rfl

theorem mc_X8_plan {x1 : Int32} {x2 : Int32} {I : IS} (J : JS) {q : Int32 × IS} (hF : f_X8_plan x1 x2 I = some q) : MC yX8_plan cX8_plan 3 (some .int) (rm_ 2 46) SMod 36 [.ref (0), .int (x1), .int (x2)] I J (some (.int q.1), q.2, J) :=
  mc_of pn_X8 (Nat.le_of_ble_eq_true rfl) (fun z O => c_X8_plan_e O _ _ _ _ hF)

def f_X8_read_b57 (t0 : Int64) (I : IS) (J : JS) : Option (Int64 × IS) :=
  some (t0, I)
set_option maxHeartbeats 4000000 in
set_option maxRecDepth 100000 in
theorem c_X8_read_b57 {z : CTX} (O : OK z cX8_read RX8 3 SMod 36 (rm_ 2 46) (some .long)) : ∀ (t0 : Int64) (I : IS) (J : JS) (q : Int64 × IS), f_X8_read_b57 t0 I J = some q → G z 57 [] [.long (t0)] I J (some (.long q.1), q.2, J) := by
  intro t0 I J q hF
  rw [f_X8_read_b57] at hF
  obtain rfl := Option.some.inj hF
  exact g_lreturn O (pc := 57) dX8_read_57 rfl

def f_X8_read_b54 (I : IS) (J : JS) : Option (Int64 × IS) :=
  f_X8_read_b57 ((-9223372036854775808 : Int64)) (I) (J)
set_option maxHeartbeats 4000000 in
set_option maxRecDepth 100000 in
theorem c_X8_read_b54 {z : CTX} (O : OK z cX8_read RX8 3 SMod 36 (rm_ 2 46) (some .long)) : ∀ (I : IS) (J : JS) (q : Int64 × IS), f_X8_read_b54 I J = some q → G z 54 [] [] I J (some (.long q.1), q.2, J) := by
  intro I J q hF
  rw [f_X8_read_b54] at hF
  refine g_ldc2 O (pc := 54) kw_X8_348 dX8_read_54 ?_
  refine g_sub [] (L' := []) rfl ?_
  exact c_X8_read_b57 O _ _ _ _ hF

def f_X8_read (x1 : Int32) (x2 : Int32) (I : IS) (J : JS) : Option (Int64 × IS) :=
  (f_X8_isTape (x1) (u2 I (0) 29 ((0 : Int32)))).bind fun q1 =>
  (if q1 = 0 then
  (f_X8_read_b54 ((u2 I (0) 29 ((0 : Int32)))) (J))
  else
  (if okI (x1) 6 = true then
  (if ((u2 I (0) 29 ((0 : Int32))) (35) (x1).toNatClampNeg) = 0 then
  (f_X8_read_b54 ((u2 I (0) 29 ((0 : Int32)))) (J))
  else
  (if okI (x1) 6 = true then
  ((f_X8_in ((x2).toInt64) ((0 : Int64)) (((((u2 I (0) 29 ((0 : Int32))) (32) (x1).toNatClampNeg) - (1 : Int32))).toInt64)).bind fun q7 =>
  (if q7 = 0 then
  (f_X8_read_b54 ((u2 I (0) 29 ((0 : Int32)))) (J))
  else
  (if okI ((((60 : Int32) * x1) + x2)) 360 = true then
  (f_X8_read_b57 ((J (33) ((((60 : Int32) * x1) + x2)).toNatClampNeg)) ((u2 I (0) 29 ((0 : Int32)))) (J))
  else none)))
  else none))
  else none))
set_option maxHeartbeats 4000000 in
set_option maxRecDepth 100000 in
theorem c_X8_read_e {z : CTX} (O : OK z cX8_read RX8 3 SMod 36 (rm_ 2 46) (some .long)) : ∀ (x1 : Int32) (x2 : Int32) (I : IS) (J : JS) (q : Int64 × IS), f_X8_read x1 x2 I J = some q → G z 0 [(0, .ref (0)), (1, .int (x1)), (2, .int (x2))] [] I J (some (.long q.1), q.2, J) := by
  intro x1 x2 I J q hF
  rw [f_X8_read] at hF
  refine g_aload_n O (pc := 0) dX8_read_0 0 rfl ?_
  refine g_iconst O (pc := 1) dX8_read_1 (ic_0) ?_
  refine g_putI O (pc := 2) isC_X8 isT_X8 dX8_read_2 fw_X8_124 (by decide) rfl rfl fd_SMod_0_29 ?_
  refine g_aload_n O (pc := 5) dX8_read_5 0 rfl ?_
  refine g_iload_n O (pc := 6) dX8_read_6 1 rfl ?_
  obtain ⟨q1, e2, hF⟩ := bnd hF
  refine g_Vi O (pc := 7) (st := []) dX8_read_7 (mc_X8_isTape J e2) cb_X8_isTape ml_X8_366 isC_X8 ob_SMod (zm0 _ _ _ _ _ _ _) (rmok (Nat.le_of_ble_eq_true rfl) (Nat.le_of_ble_eq_true rfl)) (Nat.le_of_ble_eq_true rfl) rfl ?_
  refine g_if_eq O (pc := 10) 54 dX8_read_10 (by decide) (fun h3 => ?_) (fun h3 => ?_)
  · rw [if_pos h3] at hF
    refine g_sub [] (L' := []) rfl ?_
    exact c_X8_read_b54 O _ _ _ hF
  · rw [if_neg h3] at hF
    refine g_aload_n O (pc := 13) dX8_read_13 0 rfl ?_
    refine g_getR O (pc := 14) isC_X8 dX8_read_14 fw_X8_121 (by decide) fd_SMod_0_54 ?_
    refine g_iload_n O (pc := 17) dX8_read_17 1 rfl ?_
    obtain ⟨h4, hF⟩ := gd hF
    refine g_zl O (pc := 18) dX8_read_18 ar_SMod_35 h4 ?_
    refine g_if_eq O (pc := 19) 54 dX8_read_19 (by decide) (fun h5 => ?_) (fun h5 => ?_)
    · rw [if_pos h5] at hF
      refine g_sub [] (L' := []) rfl ?_
      exact c_X8_read_b54 O _ _ _ hF
    · rw [if_neg h5] at hF
      refine g_iload_n O (pc := 22) dX8_read_22 2 rfl ?_
      refine g_i2l O (pc := 23) dX8_read_23 ?_
      refine g_lconst O (pc := 24) dX8_read_24 lc_0 ?_
      refine g_aload_n O (pc := 25) dX8_read_25 0 rfl ?_
      refine g_getR O (pc := 26) isC_X8 dX8_read_26 fw_X8_111 (by decide) fd_SMod_0_51 ?_
      refine g_iload_n O (pc := 29) dX8_read_29 1 rfl ?_
      obtain ⟨h6, hF⟩ := gd hF
      refine g_il O (pc := 30) dX8_read_30 ar_SMod_32 h6 ?_
      refine g_iconst O (pc := 31) dX8_read_31 (ic_1) ?_
      refine g_isub O (pc := 32) dX8_read_32 ?_
      refine g_i2l O (pc := 33) dX8_read_33 ?_
      obtain ⟨q7, e8, hF⟩ := bnd hF
      refine g_Si O (pc := 34) (st := []) dX8_read_34 (mc_X8_in (u2 I (0) 29 ((0 : Int32))) J e8) cs_X8_in ml_X8_130 rfl (rmok (Nat.le_of_ble_eq_true rfl) (Nat.le_of_ble_eq_true rfl)) (Nat.le_of_ble_eq_true rfl) (fun _ => rfl) rfl ?_
      refine g_if_eq O (pc := 37) 54 dX8_read_37 (by decide) (fun h9 => ?_) (fun h9 => ?_)
      · rw [if_pos h9] at hF
        refine g_sub [] (L' := []) rfl ?_
        exact c_X8_read_b54 O _ _ _ hF
      · rw [if_neg h9] at hF
        refine g_aload_n O (pc := 40) dX8_read_40 0 rfl ?_
        refine g_getR O (pc := 41) isC_X8 dX8_read_41 fw_X8_114 (by decide) fd_SMod_0_52 ?_
        refine g_bipush O (pc := 44) dX8_read_44 bp_60 ?_
        refine g_iload_n O (pc := 46) dX8_read_46 1 rfl ?_
        refine g_imul O (pc := 47) dX8_read_47 ?_
        refine g_iload_n O (pc := 48) dX8_read_48 2 rfl ?_
        refine g_iadd O (pc := 49) dX8_read_49 ?_
        obtain ⟨h10, hF⟩ := gd hF
        refine g_ll O (pc := 50) dX8_read_50 ar_SMod_33 h10 ?_
        refine g_goto O (pc := 51) 57 dX8_read_51 (by decide) ?_
        refine g_sub [] (L' := []) rfl ?_
        exact c_X8_read_b57 O _ _ _ _ hF

theorem mc_X8_read {x1 : Int32} {x2 : Int32} {I : IS} {J : JS} {q : Int64 × IS} (hF : f_X8_read x1 x2 I J = some q) : MC yX8_read cX8_read 3 (some .long) (rm_ 2 46) SMod 36 [.ref (0), .int (x1), .int (x2)] I J (some (.long q.1), q.2, J) :=
  mc_of pn_X8 (Nat.le_of_ble_eq_true rfl) (fun z O => c_X8_read_e O _ _ _ _ _ hF)

def f_X8_readTask_b145 (s1 : Int32) (s2 : Int32) (I : IS) : Option (IS) :=
  if okI (s1) 101 = true then
  (some ((u2 (u2 I (25) (s1).toNatClampNeg (s2)) (0) 39 ((((u2 I (25) (s1).toNatClampNeg (s2)) (0) 39) + (1 : Int32))))))
  else none
set_option maxHeartbeats 4000000 in
set_option maxRecDepth 100000 in
theorem c_X8_readTask_b145 {z : CTX} {J : JS} (O : OK z cX8_readTask RX8 2 SMod 36 (rm_ 1 25) none) : ∀ (s1 : Int32) (s2 : Int32) (I : IS) (q : IS), f_X8_readTask_b145 s1 s2 I = some q → G z 145 [(0, .ref (0))] [.int (s2), .int (s1), .ref (25)] I J (none, q, J) := by
  intro s1 s2 I q hF
  rw [f_X8_readTask_b145] at hF
  obtain ⟨h1, hF⟩ := gd hF
  refine g_is O (pc := 145) dX8_readTask_145 ar_SMod_25 h1 ?_
  refine g_aload_n O (pc := 146) dX8_readTask_146 0 rfl ?_
  refine g_dup O (pc := 147) dX8_readTask_147 rfl ?_
  refine g_getI O (pc := 148) isC_X8 dX8_readTask_148 fw_X8_246 (by decide) fd_SMod_0_39 ?_
  refine g_iconst O (pc := 151) dX8_readTask_151 (ic_1) ?_
  refine g_iadd O (pc := 152) dX8_readTask_152 ?_
  refine g_putI O (pc := 153) isC_X8 isT_X8 dX8_readTask_153 fw_X8_246 (by decide) rfl rfl fd_SMod_0_39 ?_
  obtain rfl := Option.some.inj hF
  exact g_return O (pc := 156) dX8_readTask_156 rfl

def f_X8_readTask_b126 (x1 : Int32) (I : IS) : Option (IS) :=
  (f_X8_here I).bind fun q1 =>
  (if q1 = (33 : Int32) then
  (f_X8_readTask_b145 (x1) ((1 : Int32)) (I))
  else
  (f_X8_readTask_b145 (x1) ((2 : Int32)) (I)))
set_option maxHeartbeats 4000000 in
set_option maxRecDepth 100000 in
theorem c_X8_readTask_b126 {z : CTX} {J : JS} (O : OK z cX8_readTask RX8 2 SMod 36 (rm_ 1 25) none) : ∀ (x1 : Int32) (I : IS) (q : IS), f_X8_readTask_b126 x1 I = some q → G z 126 [(0, .ref (0)), (1, .int (x1))] [] I J (none, q, J) := by
  intro x1 I q hF
  rw [f_X8_readTask_b126] at hF
  refine g_aload_n O (pc := 126) dX8_readTask_126 0 rfl ?_
  refine g_getR O (pc := 127) isC_X8 dX8_readTask_127 fw_X8_90 (by decide) fd_SMod_0_43 ?_
  refine g_iload_n O (pc := 130) dX8_readTask_130 1 rfl ?_
  refine g_aload_n O (pc := 131) dX8_readTask_131 0 rfl ?_
  obtain ⟨q1, e2, hF⟩ := bnd hF
  refine g_Vi O (pc := 132) (st := [.int (x1), .ref (25)]) dX8_readTask_132 (mc_X8_here J e2) cb_X8_here ml_X8_252 isC_X8 ob_SMod (zm0 _ _ _ _ _ _ _) (rmok (Nat.le_of_ble_eq_true rfl) (Nat.le_of_ble_eq_true rfl)) (Nat.le_of_ble_eq_true rfl) rfl ?_
  refine g_bipush O (pc := 135) dX8_readTask_135 bp_33 ?_
  refine g_icmp_ne O (pc := 137) 144 dX8_readTask_137 (by decide) (fun h3 => ?_) (fun h3 => ?_)
  · rw [if_neg h3] at hF
    refine g_iconst O (pc := 144) dX8_readTask_144 (ic_2) ?_
    refine g_sub [0] (L' := [(0, .ref (0))]) rfl ?_
    exact c_X8_readTask_b145 O _ _ _ _ hF
  · rw [if_pos h3] at hF
    refine g_iconst O (pc := 140) dX8_readTask_140 (ic_1) ?_
    refine g_goto O (pc := 141) 145 dX8_readTask_141 (by decide) ?_
    refine g_sub [0] (L' := [(0, .ref (0))]) rfl ?_
    exact c_X8_readTask_b145 O _ _ _ _ hF

def f_X8_readTask_b80 (x1 : Int32) (s1 : Int32) (s2 : Int32) (I : IS) : Option (IS) :=
  if okI (s1) 101 = true then
  (if okI (x1) 101 = true then
  ((some (u2 (u2 (u2 I (26) (s1).toNatClampNeg (s2)) (25) (x1).toNatClampNeg ((0 : Int32))) (0) 41 ((((u2 (u2 I (26) (s1).toNatClampNeg (s2)) (25) (x1).toNatClampNeg ((0 : Int32))) (0) 41) + (1 : Int32))))).bind fun I3 =>
  ((f_X8_here (u2 I3 (0) 39 (((I3 (0) 39) + (1 : Int32))))).bind fun q5 =>
  (if q5 = (33 : Int32) then
  (f_X8_readTask_b126 (x1) ((u2 I3 (0) 39 (((I3 (0) 39) + (1 : Int32))))))
  else
  ((f_X8_here (u2 I3 (0) 39 (((I3 (0) 39) + (1 : Int32))))).bind fun q8 =>
  (if q8 = (63 : Int32) then
  (f_X8_readTask_b126 (x1) ((u2 I3 (0) 39 (((I3 (0) 39) + (1 : Int32))))))
  else
  (some ((u2 I3 (0) 39 (((I3 (0) 39) + (1 : Int32)))))))))))
  else none)
  else none
set_option maxHeartbeats 4000000 in
set_option maxRecDepth 100000 in
theorem c_X8_readTask_b80 {z : CTX} {J : JS} (O : OK z cX8_readTask RX8 2 SMod 36 (rm_ 1 25) none) : ∀ (x1 : Int32) (s1 : Int32) (s2 : Int32) (I : IS) (q : IS), f_X8_readTask_b80 x1 s1 s2 I = some q → G z 80 [(0, .ref (0)), (1, .int (x1))] [.int (s2), .int (s1), .ref (26)] I J (none, q, J) := by
  intro x1 s1 s2 I q hF
  rw [f_X8_readTask_b80] at hF
  obtain ⟨h1, hF⟩ := gd hF
  refine g_is O (pc := 80) dX8_readTask_80 ar_SMod_26 h1 ?_
  refine g_aload_n O (pc := 81) dX8_readTask_81 0 rfl ?_
  refine g_getR O (pc := 82) isC_X8 dX8_readTask_82 fw_X8_90 (by decide) fd_SMod_0_43 ?_
  refine g_iload_n O (pc := 85) dX8_readTask_85 1 rfl ?_
  refine g_iconst O (pc := 86) dX8_readTask_86 (ic_0) ?_
  obtain ⟨h2, hF⟩ := gd hF
  refine g_is O (pc := 87) dX8_readTask_87 ar_SMod_25 h2 ?_
  refine g_aload_n O (pc := 88) dX8_readTask_88 0 rfl ?_
  refine g_dup O (pc := 89) dX8_readTask_89 rfl ?_
  refine g_getI O (pc := 90) isC_X8 dX8_readTask_90 fw_X8_249 (by decide) fd_SMod_0_41 ?_
  refine g_iconst O (pc := 93) dX8_readTask_93 (ic_1) ?_
  refine g_iadd O (pc := 94) dX8_readTask_94 ?_
  refine g_putI O (pc := 95) isC_X8 isT_X8 dX8_readTask_95 fw_X8_249 (by decide) rfl rfl fd_SMod_0_41 ?_
  obtain ⟨I3, g4, hF⟩ := bnd hF
  refine g_nmI (Option.some.inj g4) ?_
  refine g_aload_n O (pc := 98) dX8_readTask_98 0 rfl ?_
  refine g_dup O (pc := 99) dX8_readTask_99 rfl ?_
  refine g_getI O (pc := 100) isC_X8 dX8_readTask_100 fw_X8_246 (by decide) fd_SMod_0_39 ?_
  refine g_iconst O (pc := 103) dX8_readTask_103 (ic_1) ?_
  refine g_iadd O (pc := 104) dX8_readTask_104 ?_
  refine g_putI O (pc := 105) isC_X8 isT_X8 dX8_readTask_105 fw_X8_246 (by decide) rfl rfl fd_SMod_0_39 ?_
  refine g_aload_n O (pc := 108) dX8_readTask_108 0 rfl ?_
  obtain ⟨q5, e6, hF⟩ := bnd hF
  refine g_Vi O (pc := 109) (st := []) dX8_readTask_109 (mc_X8_here J e6) cb_X8_here ml_X8_252 isC_X8 ob_SMod (zm0 _ _ _ _ _ _ _) (rmok (Nat.le_of_ble_eq_true rfl) (Nat.le_of_ble_eq_true rfl)) (Nat.le_of_ble_eq_true rfl) rfl ?_
  refine g_bipush O (pc := 112) dX8_readTask_112 bp_33 ?_
  refine g_icmp_eq O (pc := 114) 126 dX8_readTask_114 (by decide) (fun h7 => ?_) (fun h7 => ?_)
  · rw [if_pos h7] at hF
    refine g_sub [0, 1] (L' := [(0, .ref (0)), (1, .int (x1))]) rfl ?_
    exact c_X8_readTask_b126 O _ _ _ hF
  · rw [if_neg h7] at hF
    refine g_aload_n O (pc := 117) dX8_readTask_117 0 rfl ?_
    obtain ⟨q8, e9, hF⟩ := bnd hF
    refine g_Vi O (pc := 118) (st := []) dX8_readTask_118 (mc_X8_here J e9) cb_X8_here ml_X8_252 isC_X8 ob_SMod (zm0 _ _ _ _ _ _ _) (rmok (Nat.le_of_ble_eq_true rfl) (Nat.le_of_ble_eq_true rfl)) (Nat.le_of_ble_eq_true rfl) rfl ?_
    refine g_bipush O (pc := 121) dX8_readTask_121 bp_63 ?_
    refine g_icmp_ne O (pc := 123) 156 dX8_readTask_123 (by decide) (fun h10 => ?_) (fun h10 => ?_)
    · rw [if_neg h10] at hF
      obtain rfl := Option.some.inj hF
      exact g_return O (pc := 156) dX8_readTask_156 rfl
    · rw [if_pos h10] at hF
      refine g_sub [0, 1] (L' := [(0, .ref (0)), (1, .int (x1))]) rfl ?_
      exact c_X8_readTask_b126 O _ _ _ hF

def f_X8_readTask_b28 (x1 : Int32) (s1 : Int32) (I : IS) : Option (IS) :=
  if okZ (s1) = true then
  (if ((u2 I (0) 40 (s1)) (0) 40) = 0 then
  ((f_X8_here (u2 I (0) 40 (s1))).bind fun q3 =>
  (if okI (x1) 101 = true then
  (if ((u2 (u2 I (0) 40 (s1)) (24) (x1).toNatClampNeg ((q3 - (48 : Int32)))) (0) 45) = 0 then
  (f_X8_readTask_b80 (x1) (x1) ((-5 : Int32)) ((u2 (u2 I (0) 40 (s1)) (24) (x1).toNatClampNeg ((q3 - (48 : Int32))))))
  else
  (if okI ((((u2 (u2 I (0) 40 (s1)) (24) (x1).toNatClampNeg ((q3 - (48 : Int32)))) (0) 45) - (1 : Int32))) 5 = true then
  (f_X8_readTask_b80 (x1) (x1) (((u2 (u2 I (0) 40 (s1)) (24) (x1).toNatClampNeg ((q3 - (48 : Int32)))) (27) ((((u2 (u2 I (0) 40 (s1)) (24) (x1).toNatClampNeg ((q3 - (48 : Int32)))) (0) 45) - (1 : Int32))).toNatClampNeg)) ((u2 (u2 I (0) 40 (s1)) (24) (x1).toNatClampNeg ((q3 - (48 : Int32))))))
  else none))
  else none))
  else
  (some ((u2 I (0) 40 (s1)))))
  else none
set_option maxHeartbeats 4000000 in
set_option maxRecDepth 100000 in
theorem c_X8_readTask_b28 {z : CTX} {J : JS} (O : OK z cX8_readTask RX8 2 SMod 36 (rm_ 1 25) none) : ∀ (x1 : Int32) (s1 : Int32) (I : IS) (q : IS), f_X8_readTask_b28 x1 s1 I = some q → G z 28 [(0, .ref (0)), (1, .int (x1))] [.int (s1), .ref (0)] I J (none, q, J) := by
  intro x1 s1 I q hF
  rw [f_X8_readTask_b28] at hF
  obtain ⟨h1, hF⟩ := gd hF
  refine g_putZ O (pc := 28) isC_X8 isT_X8 dX8_readTask_28 fw_X8_259 (by decide) rfl rfl h1 fd_SMod_0_40 ?_
  refine g_aload_n O (pc := 31) dX8_readTask_31 0 rfl ?_
  refine g_getI O (pc := 32) isC_X8 dX8_readTask_32 fw_X8_259 (by decide) fd_SMod_0_40 ?_
  refine g_if_eq O (pc := 35) 39 dX8_readTask_35 (by decide) (fun h2 => ?_) (fun h2 => ?_)
  · rw [if_pos h2] at hF
    refine g_aload_n O (pc := 39) dX8_readTask_39 0 rfl ?_
    refine g_getR O (pc := 40) isC_X8 dX8_readTask_40 fw_X8_87 (by decide) fd_SMod_0_42 ?_
    refine g_iload_n O (pc := 43) dX8_readTask_43 1 rfl ?_
    refine g_aload_n O (pc := 44) dX8_readTask_44 0 rfl ?_
    obtain ⟨q3, e4, hF⟩ := bnd hF
    refine g_Vi O (pc := 45) (st := [.int (x1), .ref (24)]) dX8_readTask_45 (mc_X8_here J e4) cb_X8_here ml_X8_252 isC_X8 ob_SMod (zm0 _ _ _ _ _ _ _) (rmok (Nat.le_of_ble_eq_true rfl) (Nat.le_of_ble_eq_true rfl)) (Nat.le_of_ble_eq_true rfl) rfl ?_
    refine g_bipush O (pc := 48) dX8_readTask_48 bp_48 ?_
    refine g_isub O (pc := 50) dX8_readTask_50 ?_
    obtain ⟨h5, hF⟩ := gd hF
    refine g_is O (pc := 51) dX8_readTask_51 ar_SMod_24 h5 ?_
    refine g_aload_n O (pc := 52) dX8_readTask_52 0 rfl ?_
    refine g_getR O (pc := 53) isC_X8 dX8_readTask_53 fw_X8_93 (by decide) fd_SMod_0_44 ?_
    refine g_iload_n O (pc := 56) dX8_readTask_56 1 rfl ?_
    refine g_aload_n O (pc := 57) dX8_readTask_57 0 rfl ?_
    refine g_getI O (pc := 58) isC_X8 dX8_readTask_58 fw_X8_262 (by decide) fd_SMod_0_45 ?_
    refine g_if_ne O (pc := 61) 69 dX8_readTask_61 (by decide) (fun h6 => ?_) (fun h6 => ?_)
    · rw [if_neg h6] at hF
      refine g_aload_n O (pc := 69) dX8_readTask_69 0 rfl ?_
      refine g_getR O (pc := 70) isC_X8 dX8_readTask_70 fw_X8_96 (by decide) fd_SMod_0_46 ?_
      refine g_aload_n O (pc := 73) dX8_readTask_73 0 rfl ?_
      refine g_getI O (pc := 74) isC_X8 dX8_readTask_74 fw_X8_262 (by decide) fd_SMod_0_45 ?_
      refine g_iconst O (pc := 77) dX8_readTask_77 (ic_1) ?_
      refine g_isub O (pc := 78) dX8_readTask_78 ?_
      obtain ⟨h7, hF⟩ := gd hF
      refine g_il O (pc := 79) dX8_readTask_79 ar_SMod_27 h7 ?_
      refine g_sub [0, 1] (L' := [(0, .ref (0)), (1, .int (x1))]) rfl ?_
      exact c_X8_readTask_b80 O _ _ _ _ _ hF
    · rw [if_pos h6] at hF
      refine g_bipush O (pc := 64) dX8_readTask_64 bp_m5 ?_
      refine g_goto O (pc := 66) 80 dX8_readTask_66 (by decide) ?_
      refine g_sub [0, 1] (L' := [(0, .ref (0)), (1, .int (x1))]) rfl ?_
      exact c_X8_readTask_b80 O _ _ _ _ _ hF
  · rw [if_neg h2] at hF
    obtain rfl := Option.some.inj hF
    exact g_return O (pc := 38) dX8_readTask_38 rfl

def f_X8_readTask (I : IS) : Option (IS) :=
  (f_X8_here I).bind fun q1 =>
  ((f_X8_in ((q1).toInt64) ((49 : Int64)) ((57 : Int64))).bind fun q3 =>
  (if q3 = 0 then
  (f_X8_readTask_b28 ((I (0) 41)) ((1 : Int32)) (I))
  else
  (f_X8_readTask_b28 ((I (0) 41)) ((0 : Int32)) (I))))
set_option maxHeartbeats 4000000 in
set_option maxRecDepth 100000 in
theorem c_X8_readTask_e {z : CTX} {J : JS} (O : OK z cX8_readTask RX8 2 SMod 36 (rm_ 1 25) none) : ∀ (I : IS) (q : IS), f_X8_readTask I = some q → G z 0 [(0, .ref (0))] [] I J (none, q, J) := by
  intro I q hF
  rw [f_X8_readTask] at hF
  refine g_aload_n O (pc := 0) dX8_readTask_0 0 rfl ?_
  refine g_getI O (pc := 1) isC_X8 dX8_readTask_1 fw_X8_249 (by decide) fd_SMod_0_41 ?_
  refine g_istore_n O (pc := 4) (L' := [(1, .int ((I (0) 41))), (0, .ref (0))]) dX8_readTask_4 (by decide) rfl ?_
  refine g_aload_n O (pc := 5) dX8_readTask_5 1 rfl ?_
  refine g_aload_n O (pc := 6) dX8_readTask_6 1 rfl ?_
  obtain ⟨q1, e2, hF⟩ := bnd hF
  refine g_Vi O (pc := 7) (st := [.ref (0)]) dX8_readTask_7 (mc_X8_here J e2) cb_X8_here ml_X8_252 isC_X8 ob_SMod (zm0 _ _ _ _ _ _ _) (rmok (Nat.le_of_ble_eq_true rfl) (Nat.le_of_ble_eq_true rfl)) (Nat.le_of_ble_eq_true rfl) rfl ?_
  refine g_i2l O (pc := 10) dX8_readTask_10 ?_
  refine g_ldc2 O (pc := 11) kw_X8_255 dX8_readTask_11 ?_
  refine g_ldc2 O (pc := 14) kw_X8_257 dX8_readTask_14 ?_
  obtain ⟨q3, e4, hF⟩ := bnd hF
  refine g_Si O (pc := 17) (st := [.ref (0)]) dX8_readTask_17 (mc_X8_in I J e4) cs_X8_in ml_X8_130 rfl (rmok (Nat.le_of_ble_eq_true rfl) (Nat.le_of_ble_eq_true rfl)) (Nat.le_of_ble_eq_true rfl) (fun _ => rfl) rfl ?_
  refine g_if_ne O (pc := 20) 27 dX8_readTask_20 (by decide) (fun h5 => ?_) (fun h5 => ?_)
  · rw [if_neg h5] at hF
    refine g_iconst O (pc := 27) dX8_readTask_27 (ic_0) ?_
    refine g_sub [1, 0] (L' := [(0, .ref (0)), (1, .int ((I (0) 41)))]) rfl ?_
    exact c_X8_readTask_b28 O _ _ _ _ hF
  · rw [if_pos h5] at hF
    refine g_iconst O (pc := 23) dX8_readTask_23 (ic_1) ?_
    refine g_goto O (pc := 24) 28 dX8_readTask_24 (by decide) ?_
    refine g_sub [1, 0] (L' := [(0, .ref (0)), (1, .int ((I (0) 41)))]) rfl ?_
    exact c_X8_readTask_b28 O _ _ _ _ hF

theorem mc_X8_readTask {I : IS} (J : JS) {q : IS} (hF : f_X8_readTask I = some q) : MC yX8_readTask cX8_readTask 2 none (rm_ 1 25) SMod 36 [.ref (0)] I J (none, q, J) :=
  mc_of pn_X8 (Nat.le_of_ble_eq_true rfl) (fun z O => c_X8_readTask_e O _ _ hF)

def f_X8_readTree_b72 (s0 : Int32) (I : IS) : Option (Int32 × IS) :=
  if okZ (s0) = true then some (s0, I) else none
set_option maxHeartbeats 4000000 in
set_option maxRecDepth 100000 in
theorem c_X8_readTree_b72 {z : CTX} {J : JS} (O : OK z cX8_readTree RX8 2 SMod 36 (rm_ 2 46) (some .boolean)) : ∀ (s0 : Int32) (I : IS) (q : Int32 × IS), f_X8_readTree_b72 s0 I = some q → G z 72 [] [.int (s0)] I J (some (.int q.1), q.2, J) := by
  intro s0 I q hF
  rw [f_X8_readTree_b72] at hF
  obtain ⟨h1, hF⟩ := gd hF
  obtain rfl := Option.some.inj hF
  exact g_zreturn O (pc := 72) dX8_readTree_72 h1 rfl

def f_X8_readTree_b60 (I : IS) : Option (Int32 × IS) :=
  if (I (0) 40) = 0 then
  (f_X8_readTree_b72 ((1 : Int32)) (I))
  else
  (f_X8_readTree_b72 ((0 : Int32)) (I))
set_option maxHeartbeats 4000000 in
set_option maxRecDepth 100000 in
theorem c_X8_readTree_b60 {z : CTX} {J : JS} (O : OK z cX8_readTree RX8 2 SMod 36 (rm_ 2 46) (some .boolean)) : ∀ (I : IS) (q : Int32 × IS), f_X8_readTree_b60 I = some q → G z 60 [(0, .ref (0))] [] I J (some (.int q.1), q.2, J) := by
  intro I q hF
  rw [f_X8_readTree_b60] at hF
  refine g_aload_n O (pc := 60) dX8_readTree_60 0 rfl ?_
  refine g_getI O (pc := 61) isC_X8 dX8_readTree_61 fw_X8_259 (by decide) fd_SMod_0_40 ?_
  refine g_if_ne O (pc := 64) 71 dX8_readTree_64 (by decide) (fun h1 => ?_) (fun h1 => ?_)
  · rw [if_neg h1] at hF
    refine g_iconst O (pc := 71) dX8_readTree_71 (ic_0) ?_
    refine g_sub [] (L' := []) rfl ?_
    exact c_X8_readTree_b72 O _ _ _ hF
  · rw [if_pos h1] at hF
    refine g_iconst O (pc := 67) dX8_readTree_67 (ic_1) ?_
    refine g_goto O (pc := 68) 72 dX8_readTree_68 (by decide) ?_
    refine g_sub [] (L' := []) rfl ?_
    exact c_X8_readTree_b72 O _ _ _ hF

def f_X8_readTree_b56 (k22 : Int32 → IS → Option (Int32 × IS)) (s0 : Int32) (I : IS) : Option (Int32 × IS) :=
  k22 (s0) (I)
set_option maxHeartbeats 4000000 in
set_option maxRecDepth 100000 in
theorem c_X8_readTree_b56 {z : CTX} {J : JS} (O : OK z cX8_readTree RX8 2 SMod 36 (rm_ 2 46) (some .boolean)) {k22 : Int32 → IS → Option (Int32 × IS)} (hk22 : ∀ (x1 : Int32) (I : IS) (q : Int32 × IS), k22 x1 I = some q → G z 22 [(0, .ref (0)), (1, .int (x1))] [] I J (some (.int q.1), q.2, J)) : ∀ (s0 : Int32) (I : IS) (q : Int32 × IS), f_X8_readTree_b56 k22 s0 I = some q → G z 56 [(0, .ref (0))] [.int (s0)] I J (some (.int q.1), q.2, J) := by
  intro s0 I q hF
  rw [f_X8_readTree_b56] at hF
  refine g_istore_n O (pc := 56) (L' := [(1, .int (s0)), (0, .ref (0))]) dX8_readTree_56 (by decide) rfl ?_
  refine g_goto O (pc := 57) 22 dX8_readTree_57 (by decide) ?_
  refine g_sub [1, 0] (L' := [(0, .ref (0)), (1, .int (s0))]) rfl ?_
  exact hk22 _ _ _ hF

def f_X8_readTree_b55 (k22 : Int32 → IS → Option (Int32 × IS)) (I : IS) : Option (Int32 × IS) :=
  f_X8_readTree_b56 k22 ((0 : Int32)) (I)
set_option maxHeartbeats 4000000 in
set_option maxRecDepth 100000 in
theorem c_X8_readTree_b55 {z : CTX} {J : JS} (O : OK z cX8_readTree RX8 2 SMod 36 (rm_ 2 46) (some .boolean)) {k22 : Int32 → IS → Option (Int32 × IS)} (hk22 : ∀ (x1 : Int32) (I : IS) (q : Int32 × IS), k22 x1 I = some q → G z 22 [(0, .ref (0)), (1, .int (x1))] [] I J (some (.int q.1), q.2, J)) : ∀ (I : IS) (q : Int32 × IS), f_X8_readTree_b55 k22 I = some q → G z 55 [(0, .ref (0))] [] I J (some (.int q.1), q.2, J) := by
  intro I q hF
  rw [f_X8_readTree_b55] at hF
  refine g_iconst O (pc := 55) dX8_readTree_55 (ic_0) ?_
  refine g_sub [0] (L' := [(0, .ref (0))]) rfl ?_
  exact c_X8_readTree_b56 O hk22 _ _ _ hF

def f_X8_readTree_b22 : Nat → Int32 → IS → Option (Int32 × IS)
  | 0, _, _ => none
  | fu + 1, x1, I =>
    if x1 = 0 then
    (f_X8_readTree_b60 (I))
    else
    (if (I (0) 40) = 0 then
    ((f_X8_readTask I).bind fun q3 =>
    (if (q3 (0) 40) = 0 then
    ((f_X8_goesOn q3).bind fun q6 =>
    (if q6.1 = 0 then
    (f_X8_readTree_b55 (f_X8_readTree_b22 fu) (q6.2))
    else
    (f_X8_readTree_b56 (f_X8_readTree_b22 fu) ((1 : Int32)) (q6.2))))
    else
    (f_X8_readTree_b55 (f_X8_readTree_b22 fu) (q3))))
    else
    (f_X8_readTree_b60 (I)))
set_option maxHeartbeats 4000000 in
set_option maxRecDepth 100000 in
theorem c_X8_readTree_b22 {z : CTX} {J : JS} (O : OK z cX8_readTree RX8 2 SMod 36 (rm_ 2 46) (some .boolean)) : ∀ (fu : Nat) (x1 : Int32) (I : IS) (q : Int32 × IS), f_X8_readTree_b22 fu x1 I = some q → G z 22 [(0, .ref (0)), (1, .int (x1))] [] I J (some (.int q.1), q.2, J) := by
  intro fu
  induction fu with
  | zero =>
    intro x1 I q hF
    cases hF
  | succ fu ih =>
    intro x1 I q hF
    rw [f_X8_readTree_b22] at hF
    refine g_iload_n O (pc := 22) dX8_readTree_22 1 rfl ?_
    refine g_if_eq O (pc := 23) 60 dX8_readTree_23 (by decide) (fun h1 => ?_) (fun h1 => ?_)
    · rw [if_pos h1] at hF
      refine g_sub [0] (L' := [(0, .ref (0))]) rfl ?_
      exact c_X8_readTree_b60 O _ _ hF
    · rw [if_neg h1] at hF
      refine g_aload_n O (pc := 26) dX8_readTree_26 0 rfl ?_
      refine g_getI O (pc := 27) isC_X8 dX8_readTree_27 fw_X8_259 (by decide) fd_SMod_0_40 ?_
      refine g_if_ne O (pc := 30) 60 dX8_readTree_30 (by decide) (fun h2 => ?_) (fun h2 => ?_)
      · rw [if_neg h2] at hF
        refine g_sub [0] (L' := [(0, .ref (0))]) rfl ?_
        exact c_X8_readTree_b60 O _ _ hF
      · rw [if_pos h2] at hF
        refine g_aload_n O (pc := 33) dX8_readTree_33 0 rfl ?_
        obtain ⟨q3, e4, hF⟩ := bnd hF
        refine g_Vv O (pc := 34) (st := []) dX8_readTree_34 (mc_X8_readTask J e4) cb_X8_readTask ml_X8_265 isC_X8 ob_SMod (zm0 _ _ _ _ _ _ _) (rmok (Nat.le_of_ble_eq_true rfl) (Nat.le_of_ble_eq_true rfl)) (Nat.le_of_ble_eq_true rfl) rfl ?_
        refine g_aload_n O (pc := 37) dX8_readTree_37 0 rfl ?_
        refine g_getI O (pc := 38) isC_X8 dX8_readTree_38 fw_X8_259 (by decide) fd_SMod_0_40 ?_
        refine g_if_ne O (pc := 41) 55 dX8_readTree_41 (by decide) (fun h5 => ?_) (fun h5 => ?_)
        · rw [if_neg h5] at hF
          refine g_sub [0] (L' := [(0, .ref (0))]) rfl ?_
          exact c_X8_readTree_b55 O ih _ _ hF
        · rw [if_pos h5] at hF
          refine g_aload_n O (pc := 44) dX8_readTree_44 0 rfl ?_
          obtain ⟨q6, e7, hF⟩ := bnd hF
          refine g_Vi O (pc := 45) (st := []) dX8_readTree_45 (mc_X8_goesOn J e7) cb_X8_goesOn ml_X8_268 isC_X8 ob_SMod (zm0 _ _ _ _ _ _ _) (rmok (Nat.le_of_ble_eq_true rfl) (Nat.le_of_ble_eq_true rfl)) (Nat.le_of_ble_eq_true rfl) rfl ?_
          refine g_if_eq O (pc := 48) 55 dX8_readTree_48 (by decide) (fun h8 => ?_) (fun h8 => ?_)
          · rw [if_pos h8] at hF
            refine g_sub [0] (L' := [(0, .ref (0))]) rfl ?_
            exact c_X8_readTree_b55 O ih _ _ hF
          · rw [if_neg h8] at hF
            refine g_iconst O (pc := 51) dX8_readTree_51 (ic_1) ?_
            refine g_goto O (pc := 52) 56 dX8_readTree_52 (by decide) ?_
            refine g_sub [0] (L' := [(0, .ref (0))]) rfl ?_
            exact c_X8_readTree_b56 O ih _ _ _ hF

def f_X8_readTree (I : IS) : Option (Int32 × IS) :=
  f_X8_readTree_b22 LF ((1 : Int32)) ((u2 (u2 (u2 (u2 I (0) 39 ((0 : Int32))) (0) 40 ((0 : Int32))) (0) 41 ((0 : Int32))) (0) 45 ((0 : Int32))))
set_option maxHeartbeats 4000000 in
set_option maxRecDepth 100000 in
theorem c_X8_readTree_e {z : CTX} {J : JS} (O : OK z cX8_readTree RX8 2 SMod 36 (rm_ 2 46) (some .boolean)) : ∀ (I : IS) (q : Int32 × IS), f_X8_readTree I = some q → G z 0 [(0, .ref (0))] [] I J (some (.int q.1), q.2, J) := by
  intro I q hF
  rw [f_X8_readTree] at hF
  refine g_aload_n O (pc := 0) dX8_readTree_0 0 rfl ?_
  refine g_iconst O (pc := 1) dX8_readTree_1 (ic_0) ?_
  refine g_putI O (pc := 2) isC_X8 isT_X8 dX8_readTree_2 fw_X8_246 (by decide) rfl rfl fd_SMod_0_39 ?_
  refine g_aload_n O (pc := 5) dX8_readTree_5 0 rfl ?_
  refine g_iconst O (pc := 6) dX8_readTree_6 (ic_0) ?_
  refine g_putZ O (pc := 7) isC_X8 isT_X8 dX8_readTree_7 fw_X8_259 (by decide) rfl rfl (by decide) fd_SMod_0_40 ?_
  refine g_aload_n O (pc := 10) dX8_readTree_10 0 rfl ?_
  refine g_iconst O (pc := 11) dX8_readTree_11 (ic_0) ?_
  refine g_putI O (pc := 12) isC_X8 isT_X8 dX8_readTree_12 fw_X8_249 (by decide) rfl rfl fd_SMod_0_41 ?_
  refine g_aload_n O (pc := 15) dX8_readTree_15 0 rfl ?_
  refine g_iconst O (pc := 16) dX8_readTree_16 (ic_0) ?_
  refine g_putI O (pc := 17) isC_X8 isT_X8 dX8_readTree_17 fw_X8_262 (by decide) rfl rfl fd_SMod_0_45 ?_
  refine g_iconst O (pc := 20) dX8_readTree_20 (ic_1) ?_
  refine g_istore_n O (pc := 21) (L' := [(1, .int ((1 : Int32))), (0, .ref (0))]) dX8_readTree_21 (by decide) rfl ?_
  refine g_sub [1, 0] (L' := [(0, .ref (0)), (1, .int ((1 : Int32)))]) rfl ?_
  exact c_X8_readTree_b22 O _ _ _ _ hF

theorem mc_X8_readTree {I : IS} (J : JS) {q : Int32 × IS} (hF : f_X8_readTree I = some q) : MC yX8_readTree cX8_readTree 2 (some .boolean) (rm_ 2 46) SMod 36 [.ref (0)] I J (some (.int q.1), q.2, J) :=
  mc_of pn_X8 (Nat.le_of_ble_eq_true rfl) (fun z O => c_X8_readTree_e O _ _ hF)

def f_X8_see (x1 : Int32) (x2 : Int32) (I : IS) : Option (Int32 × IS) :=
  if x1 = (-1 : Int32) then
  (some ((0 : Int32), (u2 (u2 I (0) 29 ((0 : Int32))) (0) 18 ((0 : Int32)))))
  else
  ((f_X8_isTask (x1) (u2 I (0) 29 ((0 : Int32)))).bind fun q2 =>
  (if q2 = 0 then
  (some ((-1 : Int32), (u2 I (0) 29 ((0 : Int32)))))
  else
  ((f_X8_in ((x2).toInt64) ((0 : Int64)) ((39 : Int64))).bind fun q5 =>
  (if q5 = 0 then
  (some ((-2 : Int32), (u2 I (0) 29 ((0 : Int32)))))
  else
  (if ((u2 I (0) 29 ((0 : Int32))) (0) 18) = (5 : Int32) then
  (some ((-4 : Int32), (u2 I (0) 29 ((0 : Int32)))))
  else
  (if okI (((u2 I (0) 29 ((0 : Int32))) (0) 18)) 5 = true then
  (if okI (((u2 (u2 I (0) 29 ((0 : Int32))) (14) (((u2 I (0) 29 ((0 : Int32))) (0) 18)).toNatClampNeg (x1)) (0) 18)) 5 = true then
  ((some (u2 (u2 (u2 I (0) 29 ((0 : Int32))) (14) (((u2 I (0) 29 ((0 : Int32))) (0) 18)).toNatClampNeg (x1)) (15) (((u2 (u2 I (0) 29 ((0 : Int32))) (14) (((u2 I (0) 29 ((0 : Int32))) (0) 18)).toNatClampNeg (x1)) (0) 18)).toNatClampNeg (x2))).bind fun I11 =>
  (some (((u2 I11 (0) 18 (((I11 (0) 18) + (1 : Int32)))) (0) 18), (u2 I11 (0) 18 (((I11 (0) 18) + (1 : Int32)))))))
  else none)
  else none))))))
set_option maxHeartbeats 4000000 in
set_option maxRecDepth 100000 in
theorem c_X8_see_e {z : CTX} {J : JS} (O : OK z cX8_see RX8 3 SMod 36 (rm_ 2 46) (some .int)) : ∀ (x1 : Int32) (x2 : Int32) (I : IS) (q : Int32 × IS), f_X8_see x1 x2 I = some q → G z 0 [(0, .ref (0)), (1, .int (x1)), (2, .int (x2))] [] I J (some (.int q.1), q.2, J) := by
  intro x1 x2 I q hF
  rw [f_X8_see] at hF
  refine g_aload_n O (pc := 0) dX8_see_0 0 rfl ?_
  refine g_iconst O (pc := 1) dX8_see_1 (ic_0) ?_
  refine g_putI O (pc := 2) isC_X8 isT_X8 dX8_see_2 fw_X8_124 (by decide) rfl rfl fd_SMod_0_29 ?_
  refine g_iload_n O (pc := 5) dX8_see_5 1 rfl ?_
  refine g_iconst O (pc := 6) dX8_see_6 (ic_m1) ?_
  refine g_icmp_ne O (pc := 7) 17 dX8_see_7 (by decide) (fun h1 => ?_) (fun h1 => ?_)
  · rw [if_neg h1] at hF
    refine g_aload_n O (pc := 17) dX8_see_17 0 rfl ?_
    refine g_iload_n O (pc := 18) dX8_see_18 1 rfl ?_
    obtain ⟨q2, e3, hF⟩ := bnd hF
    refine g_Vi O (pc := 19) (st := []) dX8_see_19 (mc_X8_isTask J e3) cb_X8_isTask ml_X8_290 isC_X8 ob_SMod (zm0 _ _ _ _ _ _ _) (rmok (Nat.le_of_ble_eq_true rfl) (Nat.le_of_ble_eq_true rfl)) (Nat.le_of_ble_eq_true rfl) rfl ?_
    refine g_if_ne O (pc := 22) 27 dX8_see_22 (by decide) (fun h4 => ?_) (fun h4 => ?_)
    · rw [if_neg h4] at hF
      refine g_iload_n O (pc := 27) dX8_see_27 2 rfl ?_
      refine g_i2l O (pc := 28) dX8_see_28 ?_
      refine g_lconst O (pc := 29) dX8_see_29 lc_0 ?_
      refine g_ldc2 O (pc := 30) kw_X8_339 dX8_see_30 ?_
      obtain ⟨q5, e6, hF⟩ := bnd hF
      refine g_Si O (pc := 33) (st := []) dX8_see_33 (mc_X8_in (u2 I (0) 29 ((0 : Int32))) J e6) cs_X8_in ml_X8_130 rfl (rmok (Nat.le_of_ble_eq_true rfl) (Nat.le_of_ble_eq_true rfl)) (Nat.le_of_ble_eq_true rfl) (fun _ => rfl) rfl ?_
      refine g_if_ne O (pc := 36) 42 dX8_see_36 (by decide) (fun h7 => ?_) (fun h7 => ?_)
      · rw [if_neg h7] at hF
        refine g_aload_n O (pc := 42) dX8_see_42 0 rfl ?_
        refine g_getI O (pc := 43) isC_X8 dX8_see_43 fw_X8_144 (by decide) fd_SMod_0_18 ?_
        refine g_iconst O (pc := 46) dX8_see_46 (ic_5) ?_
        refine g_icmp_ne O (pc := 47) 53 dX8_see_47 (by decide) (fun h8 => ?_) (fun h8 => ?_)
        · rw [if_neg h8] at hF
          refine g_aload_n O (pc := 53) dX8_see_53 0 rfl ?_
          refine g_getR O (pc := 54) isC_X8 dX8_see_54 fw_X8_56 (by decide) fd_SMod_0_19 ?_
          refine g_aload_n O (pc := 57) dX8_see_57 0 rfl ?_
          refine g_getI O (pc := 58) isC_X8 dX8_see_58 fw_X8_144 (by decide) fd_SMod_0_18 ?_
          refine g_iload_n O (pc := 61) dX8_see_61 1 rfl ?_
          obtain ⟨h9, hF⟩ := gd hF
          refine g_is O (pc := 62) dX8_see_62 ar_SMod_14 h9 ?_
          refine g_aload_n O (pc := 63) dX8_see_63 0 rfl ?_
          refine g_getR O (pc := 64) isC_X8 dX8_see_64 fw_X8_59 (by decide) fd_SMod_0_20 ?_
          refine g_aload_n O (pc := 67) dX8_see_67 0 rfl ?_
          refine g_getI O (pc := 68) isC_X8 dX8_see_68 fw_X8_144 (by decide) fd_SMod_0_18 ?_
          refine g_iload_n O (pc := 71) dX8_see_71 2 rfl ?_
          obtain ⟨h10, hF⟩ := gd hF
          refine g_is O (pc := 72) dX8_see_72 ar_SMod_15 h10 ?_
          obtain ⟨I11, g12, hF⟩ := bnd hF
          refine g_nmI (Option.some.inj g12) ?_
          refine g_aload_n O (pc := 73) dX8_see_73 0 rfl ?_
          refine g_dup O (pc := 74) dX8_see_74 rfl ?_
          refine g_getI O (pc := 75) isC_X8 dX8_see_75 fw_X8_144 (by decide) fd_SMod_0_18 ?_
          refine g_iconst O (pc := 78) dX8_see_78 (ic_1) ?_
          refine g_iadd O (pc := 79) dX8_see_79 ?_
          refine g_putI O (pc := 80) isC_X8 isT_X8 dX8_see_80 fw_X8_144 (by decide) rfl rfl fd_SMod_0_18 ?_
          refine g_aload_n O (pc := 83) dX8_see_83 0 rfl ?_
          refine g_getI O (pc := 84) isC_X8 dX8_see_84 fw_X8_144 (by decide) fd_SMod_0_18 ?_
          obtain rfl := Option.some.inj hF
          exact g_ireturn O (pc := 87) dX8_see_87 rfl
        · rw [if_pos h8] at hF
          refine g_bipush O (pc := 50) dX8_see_50 bp_m4 ?_
          obtain rfl := Option.some.inj hF
          exact g_ireturn O (pc := 52) dX8_see_52 rfl
      · rw [if_pos h7] at hF
        refine g_bipush O (pc := 39) dX8_see_39 bp_m2 ?_
        obtain rfl := Option.some.inj hF
        exact g_ireturn O (pc := 41) dX8_see_41 rfl
    · rw [if_pos h4] at hF
      refine g_iconst O (pc := 25) dX8_see_25 (ic_m1) ?_
      obtain rfl := Option.some.inj hF
      exact g_ireturn O (pc := 26) dX8_see_26 rfl
  · rw [if_pos h1] at hF
    refine g_aload_n O (pc := 10) dX8_see_10 0 rfl ?_
    refine g_iconst O (pc := 11) dX8_see_11 (ic_0) ?_
    refine g_putI O (pc := 12) isC_X8 isT_X8 dX8_see_12 fw_X8_144 (by decide) rfl rfl fd_SMod_0_18 ?_
    refine g_iconst O (pc := 15) dX8_see_15 (ic_0) ?_
    obtain rfl := Option.some.inj hF
    exact g_ireturn O (pc := 16) dX8_see_16 rfl

theorem mc_X8_see {x1 : Int32} {x2 : Int32} {I : IS} (J : JS) {q : Int32 × IS} (hF : f_X8_see x1 x2 I = some q) : MC yX8_see cX8_see 3 (some .int) (rm_ 2 46) SMod 36 [.ref (0), .int (x1), .int (x2)] I J (some (.int q.1), q.2, J) :=
  mc_of pn_X8 (Nat.le_of_ble_eq_true rfl) (fun z O => c_X8_see_e O _ _ _ _ hF)

def f_X8_seed (x1 : Int32) (I : IS) : Option (Int32 × IS) :=
  some (((u2 I (0) 29 ((0 : Int32))) (0) 14), (u2 (u2 I (0) 29 ((0 : Int32))) (0) 14 (x1)))
set_option maxHeartbeats 4000000 in
set_option maxRecDepth 100000 in
theorem c_X8_seed_e {z : CTX} {J : JS} (O : OK z cX8_seed RX8 3 SMod 36 (rm_ 0 0) (some .int)) : ∀ (x1 : Int32) (I : IS) (q : Int32 × IS), f_X8_seed x1 I = some q → G z 0 [(0, .ref (0)), (1, .int (x1))] [] I J (some (.int q.1), q.2, J) := by
  intro x1 I q hF
  rw [f_X8_seed] at hF
  refine g_aload_n O (pc := 0) dX8_seed_0 0 rfl ?_
  refine g_iconst O (pc := 1) dX8_seed_1 (ic_0) ?_
  refine g_putI O (pc := 2) isC_X8 isT_X8 dX8_seed_2 fw_X8_124 (by decide) rfl rfl fd_SMod_0_29 ?_
  refine g_aload_n O (pc := 5) dX8_seed_5 0 rfl ?_
  refine g_getI O (pc := 6) isC_X8 dX8_seed_6 fw_X8_50 (by decide) fd_SMod_0_14 ?_
  refine g_istore_n O (pc := 9) (L' := [(2, .int (((u2 I (0) 29 ((0 : Int32))) (0) 14))), (0, .ref (0)), (1, .int (x1))]) dX8_seed_9 (by decide) rfl ?_
  refine g_aload_n O (pc := 10) dX8_seed_10 1 rfl ?_
  refine g_iload_n O (pc := 11) dX8_seed_11 2 rfl ?_
  refine g_putI O (pc := 12) isC_X8 isT_X8 dX8_seed_12 fw_X8_50 (by decide) rfl rfl fd_SMod_0_14 ?_
  refine g_iload_n O (pc := 15) dX8_seed_15 0 rfl ?_
  obtain rfl := Option.some.inj hF
  exact g_ireturn O (pc := 16) dX8_seed_16 rfl

theorem mc_X8_seed {x1 : Int32} {I : IS} (J : JS) {q : Int32 × IS} (hF : f_X8_seed x1 I = some q) : MC yX8_seed cX8_seed 3 (some .int) (rm_ 0 0) SMod 36 [.ref (0), .int (x1)] I J (some (.int q.1), q.2, J) :=
  mc_of pn_X8 (Nat.le_of_ble_eq_true rfl) (fun z O => c_X8_seed_e O _ _ _ hF)

def f_X8_seeds_b35 (k13 : Int32 → Int32 → IS → Option (Int32 × IS)) (x2 : Int32) (s0 : Int32) (s1 : Int32) (I : IS) : Option (Int32 × IS) :=
  k13 ((s0 ||| s1)) (x2 + (1 : Int32)) (I)
set_option maxHeartbeats 4000000 in
set_option maxRecDepth 100000 in
theorem c_X8_seeds_b35 {z : CTX} {J : JS} (O : OK z cX8_seeds RX8 3 SMod 36 (rm_ 9 203) (some .int)) {k13 : Int32 → Int32 → IS → Option (Int32 × IS)} (hk13 : ∀ (x1 : Int32) (x2 : Int32) (I : IS) (q : Int32 × IS), k13 x1 x2 I = some q → G z 13 [(0, .ref (0)), (1, .int (x1)), (2, .int (x2))] [] I J (some (.int q.1), q.2, J)) : ∀ (x2 : Int32) (s0 : Int32) (s1 : Int32) (I : IS) (q : Int32 × IS), f_X8_seeds_b35 k13 x2 s0 s1 I = some q → G z 35 [(0, .ref (0)), (2, .int (x2))] [.int (s1), .int (s0)] I J (some (.int q.1), q.2, J) := by
  intro x2 s0 s1 I q hF
  rw [f_X8_seeds_b35] at hF
  refine g_ior O (pc := 35) dX8_seeds_35 ?_
  refine g_istore_n O (pc := 36) (L' := [(1, .int ((s0 ||| s1))), (0, .ref (0)), (2, .int (x2))]) dX8_seeds_36 (by decide) rfl ?_
  refine g_iinc O (pc := 37) (v := x2 + (1 : Int32)) (L' := [(2, .int (x2 + (1 : Int32))), (1, .int ((s0 ||| s1))), (0, .ref (0))]) dX8_seeds_37 2 rfl rfl (by decide) rfl ?_
  refine g_goto O (pc := 40) 13 dX8_seeds_40 (by decide) ?_
  refine g_sub [2, 1, 0] (L' := [(0, .ref (0)), (1, .int ((s0 ||| s1))), (2, .int (x2 + (1 : Int32)))]) rfl ?_
  exact hk13 _ _ _ _ hF

def f_X8_seeds_b13 : Nat → Int32 → Int32 → IS → Option (Int32 × IS)
  | 0, _, _, _ => none
  | fu + 1, x1, x2, I =>
    if (30 : Int32) < x2 then
    (some (x1, I))
    else
    ((f_X8_allSeen (x2) I).bind fun q2 =>
    (if q2.1 = 0 then
    (f_X8_seeds_b35 (f_X8_seeds_b13 fu) (x2) (x1) ((0 : Int32)) (q2.2))
    else
    (f_X8_seeds_b35 (f_X8_seeds_b13 fu) (x2) (x1) (((1 : Int32) <<< (x2 &&& 31))) (q2.2))))
set_option maxHeartbeats 4000000 in
set_option maxRecDepth 100000 in
theorem c_X8_seeds_b13 {z : CTX} {J : JS} (O : OK z cX8_seeds RX8 3 SMod 36 (rm_ 9 203) (some .int)) : ∀ (fu : Nat) (x1 : Int32) (x2 : Int32) (I : IS) (q : Int32 × IS), f_X8_seeds_b13 fu x1 x2 I = some q → G z 13 [(0, .ref (0)), (1, .int (x1)), (2, .int (x2))] [] I J (some (.int q.1), q.2, J) := by
  intro fu
  induction fu with
  | zero =>
    intro x1 x2 I q hF
    cases hF
  | succ fu ih =>
    intro x1 x2 I q hF
    rw [f_X8_seeds_b13] at hF
    refine g_iload_n O (pc := 13) dX8_seeds_13 2 rfl ?_
    refine g_bipush O (pc := 14) dX8_seeds_14 bp_30 ?_
    refine g_icmp_gt O (pc := 16) 43 dX8_seeds_16 (by decide) (fun h1 => ?_) (fun h1 => ?_)
    · rw [if_pos h1] at hF
      refine g_iload_n O (pc := 43) dX8_seeds_43 1 rfl ?_
      obtain rfl := Option.some.inj hF
      exact g_ireturn O (pc := 44) dX8_seeds_44 rfl
    · rw [if_neg h1] at hF
      refine g_iload_n O (pc := 19) dX8_seeds_19 1 rfl ?_
      refine g_aload_n O (pc := 20) dX8_seeds_20 0 rfl ?_
      refine g_iload_n O (pc := 21) dX8_seeds_21 2 rfl ?_
      obtain ⟨q2, e3, hF⟩ := bnd hF
      refine g_Vi O (pc := 22) (st := [.int (x1)]) dX8_seeds_22 (mc_X8_allSeen J e3) cb_X8_allSeen ml_X8_341 isC_X8 ob_SMod (zm0 _ _ _ _ _ _ _) (rmok (Nat.le_of_ble_eq_true rfl) (Nat.le_of_ble_eq_true rfl)) (Nat.le_of_ble_eq_true rfl) rfl ?_
      refine g_if_eq O (pc := 25) 34 dX8_seeds_25 (by decide) (fun h4 => ?_) (fun h4 => ?_)
      · rw [if_pos h4] at hF
        refine g_iconst O (pc := 34) dX8_seeds_34 (ic_0) ?_
        refine g_sub [0, 2] (L' := [(0, .ref (0)), (2, .int (x2))]) rfl ?_
        exact c_X8_seeds_b35 O ih _ _ _ _ _ hF
      · rw [if_neg h4] at hF
        refine g_iconst O (pc := 28) dX8_seeds_28 (ic_1) ?_
        refine g_iload_n O (pc := 29) dX8_seeds_29 2 rfl ?_
        refine g_ishl O (pc := 30) dX8_seeds_30 ?_
        refine g_goto O (pc := 31) 35 dX8_seeds_31 (by decide) ?_
        refine g_sub [0, 2] (L' := [(0, .ref (0)), (2, .int (x2))]) rfl ?_
        exact c_X8_seeds_b35 O ih _ _ _ _ _ hF

def f_X8_seeds (I : IS) : Option (Int32 × IS) :=
  (f_X8_open (u2 I (0) 29 ((0 : Int32)))).bind fun q1 =>
  (f_X8_seeds_b13 LF ((0 : Int32)) ((0 : Int32)) (q1))
set_option maxHeartbeats 4000000 in
set_option maxRecDepth 100000 in
theorem c_X8_seeds_e {z : CTX} {J : JS} (O : OK z cX8_seeds RX8 3 SMod 36 (rm_ 9 203) (some .int)) : ∀ (I : IS) (q : Int32 × IS), f_X8_seeds I = some q → G z 0 [(0, .ref (0))] [] I J (some (.int q.1), q.2, J) := by
  intro I q hF
  rw [f_X8_seeds] at hF
  refine g_aload_n O (pc := 0) dX8_seeds_0 0 rfl ?_
  refine g_iconst O (pc := 1) dX8_seeds_1 (ic_0) ?_
  refine g_putI O (pc := 2) isC_X8 isT_X8 dX8_seeds_2 fw_X8_124 (by decide) rfl rfl fd_SMod_0_29 ?_
  refine g_iconst O (pc := 5) dX8_seeds_5 (ic_0) ?_
  refine g_istore_n O (pc := 6) (L' := [(1, .int ((0 : Int32))), (0, .ref (0))]) dX8_seeds_6 (by decide) rfl ?_
  refine g_aload_n O (pc := 7) dX8_seeds_7 1 rfl ?_
  obtain ⟨q1, e2, hF⟩ := bnd hF
  refine g_Vv O (pc := 8) (st := []) dX8_seeds_8 (mc_X8_open J e2) cb_X8_open ml_X8_315 isC_X8 ob_SMod (zm0 _ _ _ _ _ _ _) (rmok (Nat.le_of_ble_eq_true rfl) (Nat.le_of_ble_eq_true rfl)) (Nat.le_of_ble_eq_true rfl) rfl ?_
  refine g_iconst O (pc := 11) dX8_seeds_11 (ic_0) ?_
  refine g_istore_n O (pc := 12) (L' := [(2, .int ((0 : Int32))), (1, .int ((0 : Int32))), (0, .ref (0))]) dX8_seeds_12 (by decide) rfl ?_
  refine g_sub [2, 1, 0] (L' := [(0, .ref (0)), (1, .int ((0 : Int32))), (2, .int ((0 : Int32)))]) rfl ?_
  exact c_X8_seeds_b13 O _ _ _ _ _ hF

theorem mc_X8_seeds {I : IS} (J : JS) {q : Int32 × IS} (hF : f_X8_seeds I = some q) : MC yX8_seeds cX8_seeds 3 (some .int) (rm_ 9 203) SMod 36 [.ref (0)] I J (some (.int q.1), q.2, J) :=
  mc_of pn_X8 (Nat.le_of_ble_eq_true rfl) (fun z O => c_X8_seeds_e O _ _ hF)

def f_X8_shift_b21 (I : IS) (J : JS) : Option (Int32 × IS × JS) :=
  some ((-1 : Int32), I, J)
set_option maxHeartbeats 4000000 in
set_option maxRecDepth 100000 in
theorem c_X8_shift_b21 {z : CTX} (O : OK z cX8_shift RX8 7 SMod 36 (rm_ 2 46) (some .int)) : ∀ (I : IS) (J : JS) (q : Int32 × IS × JS), f_X8_shift_b21 I J = some q → G z 21 [] [] I J (some (.int q.1), q.2.1, q.2.2) := by
  intro I J q hF
  rw [f_X8_shift_b21] at hF
  refine g_iconst O (pc := 21) dX8_shift_21 (ic_m1) ?_
  obtain rfl := Option.some.inj hF
  exact g_ireturn O (pc := 22) dX8_shift_22 rfl

def f_X8_shift_b41 (I : IS) (J : JS) : Option (Int32 × IS × JS) :=
  some ((-11 : Int32), I, J)
set_option maxHeartbeats 4000000 in
set_option maxRecDepth 100000 in
theorem c_X8_shift_b41 {z : CTX} (O : OK z cX8_shift RX8 7 SMod 36 (rm_ 2 46) (some .int)) : ∀ (I : IS) (J : JS) (q : Int32 × IS × JS), f_X8_shift_b41 I J = some q → G z 41 [] [] I J (some (.int q.1), q.2.1, q.2.2) := by
  intro I J q hF
  rw [f_X8_shift_b41] at hF
  refine g_bipush O (pc := 41) dX8_shift_41 bp_m11 ?_
  obtain rfl := Option.some.inj hF
  exact g_ireturn O (pc := 43) dX8_shift_43 rfl

def f_X8_shift_b111 (I : IS) (J : JS) : Option (Int32 × IS × JS) :=
  some ((-13 : Int32), I, J)
set_option maxHeartbeats 4000000 in
set_option maxRecDepth 100000 in
theorem c_X8_shift_b111 {z : CTX} (O : OK z cX8_shift RX8 7 SMod 36 (rm_ 2 46) (some .int)) : ∀ (I : IS) (J : JS) (q : Int32 × IS × JS), f_X8_shift_b111 I J = some q → G z 111 [] [] I J (some (.int q.1), q.2.1, q.2.2) := by
  intro I J q hF
  rw [f_X8_shift_b111] at hF
  refine g_bipush O (pc := 111) dX8_shift_111 bp_m13 ?_
  obtain rfl := Option.some.inj hF
  exact g_ireturn O (pc := 113) dX8_shift_113 rfl

def f_X8_shift_b154 : Nat → Int32 → Int32 → Int32 → Int32 → IS → JS → Option (Int32 × IS × JS)
  | 0, _, _, _, _, _, _ => none
  | fu + 1, x3, x4, x5, x6, I, J =>
    if x5 ≤ x6 then
    (some (x5, I, J))
    else
    (if okI (x6) 60 = true then
    (if okI (((((60 : Int32) * x3) + x4) + x6)) 360 = true then
    (f_X8_shift_b154 fu (x3) (x4) (x5) (x6 + (1 : Int32)) (I) ((u2 J (33) (((((60 : Int32) * x3) + x4) + x6)).toNatClampNeg ((J (34) (x6).toNatClampNeg)))))
    else none)
    else none)
set_option maxHeartbeats 4000000 in
set_option maxRecDepth 100000 in
theorem c_X8_shift_b154 {z : CTX} (O : OK z cX8_shift RX8 7 SMod 36 (rm_ 2 46) (some .int)) : ∀ (fu : Nat) (x3 : Int32) (x4 : Int32) (x5 : Int32) (x6 : Int32) (I : IS) (J : JS) (q : Int32 × IS × JS), f_X8_shift_b154 fu x3 x4 x5 x6 I J = some q → G z 154 [(0, .ref (0)), (3, .int (x3)), (4, .int (x4)), (5, .int (x5)), (6, .int (x6))] [] I J (some (.int q.1), q.2.1, q.2.2) := by
  intro fu
  induction fu with
  | zero =>
    intro x3 x4 x5 x6 I J q hF
    cases hF
  | succ fu ih =>
    intro x3 x4 x5 x6 I J q hF
    rw [f_X8_shift_b154] at hF
    refine g_iload O (pc := 154) dX8_shift_154 4 rfl ?_
    refine g_iload O (pc := 156) dX8_shift_156 3 rfl ?_
    refine g_icmp_ge O (pc := 158) 189 dX8_shift_158 (by decide) (fun h1 => ?_) (fun h1 => ?_)
    · rw [if_pos h1] at hF
      refine g_iload O (pc := 189) dX8_shift_189 3 rfl ?_
      obtain rfl := Option.some.inj hF
      exact g_ireturn O (pc := 191) dX8_shift_191 rfl
    · rw [if_neg h1] at hF
      refine g_aload_n O (pc := 161) dX8_shift_161 0 rfl ?_
      refine g_getR O (pc := 162) isC_X8 dX8_shift_162 fw_X8_114 (by decide) fd_SMod_0_52 ?_
      refine g_bipush O (pc := 165) dX8_shift_165 bp_60 ?_
      refine g_iload_n O (pc := 167) dX8_shift_167 1 rfl ?_
      refine g_imul O (pc := 168) dX8_shift_168 ?_
      refine g_iload O (pc := 169) dX8_shift_169 2 rfl ?_
      refine g_iadd O (pc := 171) dX8_shift_171 ?_
      refine g_iload O (pc := 172) dX8_shift_172 4 rfl ?_
      refine g_iadd O (pc := 174) dX8_shift_174 ?_
      refine g_aload_n O (pc := 175) dX8_shift_175 0 rfl ?_
      refine g_getR O (pc := 176) isC_X8 dX8_shift_176 fw_X8_118 (by decide) fd_SMod_0_53 ?_
      refine g_iload O (pc := 179) dX8_shift_179 4 rfl ?_
      obtain ⟨h2, hF⟩ := gd hF
      refine g_ll O (pc := 181) dX8_shift_181 ar_SMod_34 h2 ?_
      obtain ⟨h3, hF⟩ := gd hF
      refine g_ls O (pc := 182) dX8_shift_182 ar_SMod_33 h3 ?_
      refine g_iinc O (pc := 183) (v := x6 + (1 : Int32)) (L' := [(6, .int (x6 + (1 : Int32))), (0, .ref (0)), (3, .int (x3)), (4, .int (x4)), (5, .int (x5))]) dX8_shift_183 4 rfl rfl (by decide) rfl ?_
      refine g_goto O (pc := 186) 154 dX8_shift_186 (by decide) ?_
      refine g_sub [1, 2, 3, 4, 0] (L' := [(0, .ref (0)), (3, .int (x3)), (4, .int (x4)), (5, .int (x5)), (6, .int (x6 + (1 : Int32)))]) rfl ?_
      exact ih _ _ _ _ _ _ _ hF

def f_X8_shift_b117 : Nat → Int32 → Int32 → Int32 → Int32 → Int32 → Int32 → IS → JS → Option (Int32 × IS × JS)
  | 0, _, _, _, _, _, _, _, _ => none
  | fu + 1, x1, x2, x3, x4, x5, x6, I, J =>
    if x5 ≤ x6 then
    (f_X8_shift_b154 LF (x3) (x4) (x5) ((0 : Int32)) (I) (J))
    else
    (if okI (((((60 : Int32) * x1) + x2) + x6)) 360 = true then
    (if okI (x6) 60 = true then
    (f_X8_shift_b117 fu (x1) (x2) (x3) (x4) (x5) (x6 + (1 : Int32)) (I) ((u2 J (34) (x6).toNatClampNeg ((J (33) (((((60 : Int32) * x1) + x2) + x6)).toNatClampNeg)))))
    else none)
    else none)
set_option maxHeartbeats 4000000 in
set_option maxRecDepth 100000 in
theorem c_X8_shift_b117 {z : CTX} (O : OK z cX8_shift RX8 7 SMod 36 (rm_ 2 46) (some .int)) : ∀ (fu : Nat) (x1 : Int32) (x2 : Int32) (x3 : Int32) (x4 : Int32) (x5 : Int32) (x6 : Int32) (I : IS) (J : JS) (q : Int32 × IS × JS), f_X8_shift_b117 fu x1 x2 x3 x4 x5 x6 I J = some q → G z 117 [(0, .ref (0)), (1, .int (x1)), (2, .int (x2)), (3, .int (x3)), (4, .int (x4)), (5, .int (x5)), (6, .int (x6))] [] I J (some (.int q.1), q.2.1, q.2.2) := by
  intro fu
  induction fu with
  | zero =>
    intro x1 x2 x3 x4 x5 x6 I J q hF
    cases hF
  | succ fu ih =>
    intro x1 x2 x3 x4 x5 x6 I J q hF
    rw [f_X8_shift_b117] at hF
    refine g_iload O (pc := 117) dX8_shift_117 6 rfl ?_
    refine g_iload O (pc := 119) dX8_shift_119 5 rfl ?_
    refine g_icmp_ge O (pc := 121) 151 dX8_shift_121 (by decide) (fun h1 => ?_) (fun h1 => ?_)
    · rw [if_pos h1] at hF
      refine g_iconst O (pc := 151) dX8_shift_151 (ic_0) ?_
      refine g_istore O (pc := 152) (L' := [(6, .int ((0 : Int32))), (0, .ref (0)), (1, .int (x1)), (2, .int (x2)), (3, .int (x3)), (4, .int (x4)), (5, .int (x5))]) dX8_shift_152 (by decide) rfl ?_
      refine g_sub [1, 4, 5, 6, 0] (L' := [(0, .ref (0)), (3, .int (x3)), (4, .int (x4)), (5, .int (x5)), (6, .int ((0 : Int32)))]) rfl ?_
      exact c_X8_shift_b154 O _ _ _ _ _ _ _ _ hF
    · rw [if_neg h1] at hF
      refine g_aload_n O (pc := 124) dX8_shift_124 0 rfl ?_
      refine g_getR O (pc := 125) isC_X8 dX8_shift_125 fw_X8_118 (by decide) fd_SMod_0_53 ?_
      refine g_iload O (pc := 128) dX8_shift_128 6 rfl ?_
      refine g_aload_n O (pc := 130) dX8_shift_130 0 rfl ?_
      refine g_getR O (pc := 131) isC_X8 dX8_shift_131 fw_X8_114 (by decide) fd_SMod_0_52 ?_
      refine g_bipush O (pc := 134) dX8_shift_134 bp_60 ?_
      refine g_iload_n O (pc := 136) dX8_shift_136 1 rfl ?_
      refine g_imul O (pc := 137) dX8_shift_137 ?_
      refine g_iload_n O (pc := 138) dX8_shift_138 2 rfl ?_
      refine g_iadd O (pc := 139) dX8_shift_139 ?_
      refine g_iload O (pc := 140) dX8_shift_140 6 rfl ?_
      refine g_iadd O (pc := 142) dX8_shift_142 ?_
      obtain ⟨h2, hF⟩ := gd hF
      refine g_ll O (pc := 143) dX8_shift_143 ar_SMod_33 h2 ?_
      obtain ⟨h3, hF⟩ := gd hF
      refine g_ls O (pc := 144) dX8_shift_144 ar_SMod_34 h3 ?_
      refine g_iinc O (pc := 145) (v := x6 + (1 : Int32)) (L' := [(6, .int (x6 + (1 : Int32))), (0, .ref (0)), (1, .int (x1)), (2, .int (x2)), (3, .int (x3)), (4, .int (x4)), (5, .int (x5))]) dX8_shift_145 6 rfl rfl (by decide) rfl ?_
      refine g_goto O (pc := 148) 117 dX8_shift_148 (by decide) ?_
      refine g_sub [1, 2, 3, 4, 5, 6, 0] (L' := [(0, .ref (0)), (1, .int (x1)), (2, .int (x2)), (3, .int (x3)), (4, .int (x4)), (5, .int (x5)), (6, .int (x6 + (1 : Int32)))]) rfl ?_
      exact ih _ _ _ _ _ _ _ _ _ hF

def f_X8_shift (x1 : Int32) (x2 : Int32) (x3 : Int32) (x4 : Int32) (x5 : Int32) (I : IS) (J : JS) : Option (Int32 × IS × JS) :=
  (f_X8_isTape (x1) (u2 I (0) 29 ((0 : Int32)))).bind fun q1 =>
  (if q1 = 0 then
  (f_X8_shift_b21 ((u2 I (0) 29 ((0 : Int32)))) (J))
  else
  ((f_X8_isTape (x3) (u2 I (0) 29 ((0 : Int32)))).bind fun q4 =>
  (if q4 = 0 then
  (f_X8_shift_b21 ((u2 I (0) 29 ((0 : Int32)))) (J))
  else
  (if okI (x1) 6 = true then
  (if ((u2 I (0) 29 ((0 : Int32))) (35) (x1).toNatClampNeg) = 0 then
  (f_X8_shift_b41 ((u2 I (0) 29 ((0 : Int32)))) (J))
  else
  (if okI (x3) 6 = true then
  (if ((u2 I (0) 29 ((0 : Int32))) (35) (x3).toNatClampNeg) = 0 then
  (f_X8_shift_b41 ((u2 I (0) 29 ((0 : Int32)))) (J))
  else
  (if okI (x1) 6 = true then
  (if okI (x3) 6 = true then
  (if ((u2 I (0) 29 ((0 : Int32))) (31) (x1).toNatClampNeg) = ((u2 I (0) 29 ((0 : Int32))) (31) (x3).toNatClampNeg) then
  (if x5 < 0 then
  (f_X8_shift_b111 ((u2 I (0) 29 ((0 : Int32)))) (J))
  else
  (if x2 < 0 then
  (f_X8_shift_b111 ((u2 I (0) 29 ((0 : Int32)))) (J))
  else
  (if x4 < 0 then
  (f_X8_shift_b111 ((u2 I (0) 29 ((0 : Int32)))) (J))
  else
  (if okI (x1) 6 = true then
  (if 0 < (lg_cmp (((x2).toInt64 + (x5).toInt64)) ((((u2 I (0) 29 ((0 : Int32))) (32) (x1).toNatClampNeg)).toInt64)) then
  (f_X8_shift_b111 ((u2 I (0) 29 ((0 : Int32)))) (J))
  else
  (if okI (x3) 6 = true then
  (if (lg_cmp (((x4).toInt64 + (x5).toInt64)) ((((u2 I (0) 29 ((0 : Int32))) (32) (x3).toNatClampNeg)).toInt64)) ≤ 0 then
  (f_X8_shift_b117 LF (x1) (x2) (x3) (x4) (x5) ((0 : Int32)) ((u2 I (0) 29 ((0 : Int32)))) (J))
  else
  (f_X8_shift_b111 ((u2 I (0) 29 ((0 : Int32)))) (J)))
  else none))
  else none))))
  else
  (some ((-12 : Int32), (u2 I (0) 29 ((0 : Int32))), J)))
  else none)
  else none))
  else none))
  else none))))
set_option maxHeartbeats 4000000 in
set_option maxRecDepth 100000 in
theorem c_X8_shift_e {z : CTX} (O : OK z cX8_shift RX8 7 SMod 36 (rm_ 2 46) (some .int)) : ∀ (x1 : Int32) (x2 : Int32) (x3 : Int32) (x4 : Int32) (x5 : Int32) (I : IS) (J : JS) (q : Int32 × IS × JS), f_X8_shift x1 x2 x3 x4 x5 I J = some q → G z 0 [(0, .ref (0)), (1, .int (x1)), (2, .int (x2)), (3, .int (x3)), (4, .int (x4)), (5, .int (x5))] [] I J (some (.int q.1), q.2.1, q.2.2) := by
  intro x1 x2 x3 x4 x5 I J q hF
  rw [f_X8_shift] at hF
  refine g_aload_n O (pc := 0) dX8_shift_0 0 rfl ?_
  refine g_iconst O (pc := 1) dX8_shift_1 (ic_0) ?_
  refine g_putI O (pc := 2) isC_X8 isT_X8 dX8_shift_2 fw_X8_124 (by decide) rfl rfl fd_SMod_0_29 ?_
  refine g_aload_n O (pc := 5) dX8_shift_5 0 rfl ?_
  refine g_iload_n O (pc := 6) dX8_shift_6 1 rfl ?_
  obtain ⟨q1, e2, hF⟩ := bnd hF
  refine g_Vi O (pc := 7) (st := []) dX8_shift_7 (mc_X8_isTape J e2) cb_X8_isTape ml_X8_366 isC_X8 ob_SMod (zm0 _ _ _ _ _ _ _) (rmok (Nat.le_of_ble_eq_true rfl) (Nat.le_of_ble_eq_true rfl)) (Nat.le_of_ble_eq_true rfl) rfl ?_
  refine g_if_eq O (pc := 10) 21 dX8_shift_10 (by decide) (fun h3 => ?_) (fun h3 => ?_)
  · rw [if_pos h3] at hF
    refine g_sub [] (L' := []) rfl ?_
    exact c_X8_shift_b21 O _ _ _ hF
  · rw [if_neg h3] at hF
    refine g_aload_n O (pc := 13) dX8_shift_13 0 rfl ?_
    refine g_iload_n O (pc := 14) dX8_shift_14 3 rfl ?_
    obtain ⟨q4, e5, hF⟩ := bnd hF
    refine g_Vi O (pc := 15) (st := []) dX8_shift_15 (mc_X8_isTape J e5) cb_X8_isTape ml_X8_366 isC_X8 ob_SMod (zm0 _ _ _ _ _ _ _) (rmok (Nat.le_of_ble_eq_true rfl) (Nat.le_of_ble_eq_true rfl)) (Nat.le_of_ble_eq_true rfl) rfl ?_
    refine g_if_ne O (pc := 18) 23 dX8_shift_18 (by decide) (fun h6 => ?_) (fun h6 => ?_)
    · rw [if_neg h6] at hF
      refine g_aload_n O (pc := 23) dX8_shift_23 0 rfl ?_
      refine g_getR O (pc := 24) isC_X8 dX8_shift_24 fw_X8_121 (by decide) fd_SMod_0_54 ?_
      refine g_iload_n O (pc := 27) dX8_shift_27 1 rfl ?_
      obtain ⟨h7, hF⟩ := gd hF
      refine g_zl O (pc := 28) dX8_shift_28 ar_SMod_35 h7 ?_
      refine g_if_eq O (pc := 29) 41 dX8_shift_29 (by decide) (fun h8 => ?_) (fun h8 => ?_)
      · rw [if_pos h8] at hF
        refine g_sub [] (L' := []) rfl ?_
        exact c_X8_shift_b41 O _ _ _ hF
      · rw [if_neg h8] at hF
        refine g_aload_n O (pc := 32) dX8_shift_32 0 rfl ?_
        refine g_getR O (pc := 33) isC_X8 dX8_shift_33 fw_X8_121 (by decide) fd_SMod_0_54 ?_
        refine g_iload_n O (pc := 36) dX8_shift_36 3 rfl ?_
        obtain ⟨h9, hF⟩ := gd hF
        refine g_zl O (pc := 37) dX8_shift_37 ar_SMod_35 h9 ?_
        refine g_if_ne O (pc := 38) 44 dX8_shift_38 (by decide) (fun h10 => ?_) (fun h10 => ?_)
        · rw [if_neg h10] at hF
          refine g_aload_n O (pc := 44) dX8_shift_44 0 rfl ?_
          refine g_getR O (pc := 45) isC_X8 dX8_shift_45 fw_X8_108 (by decide) fd_SMod_0_50 ?_
          refine g_iload_n O (pc := 48) dX8_shift_48 1 rfl ?_
          obtain ⟨h11, hF⟩ := gd hF
          refine g_il O (pc := 49) dX8_shift_49 ar_SMod_31 h11 ?_
          refine g_aload_n O (pc := 50) dX8_shift_50 0 rfl ?_
          refine g_getR O (pc := 51) isC_X8 dX8_shift_51 fw_X8_108 (by decide) fd_SMod_0_50 ?_
          refine g_iload_n O (pc := 54) dX8_shift_54 3 rfl ?_
          obtain ⟨h12, hF⟩ := gd hF
          refine g_il O (pc := 55) dX8_shift_55 ar_SMod_31 h12 ?_
          refine g_icmp_eq O (pc := 56) 62 dX8_shift_56 (by decide) (fun h13 => ?_) (fun h13 => ?_)
          · rw [if_pos h13] at hF
            refine g_iload O (pc := 62) dX8_shift_62 5 rfl ?_
            refine g_if_lt O (pc := 64) 111 dX8_shift_64 (by decide) (fun h14 => ?_) (fun h14 => ?_)
            · rw [if_pos h14] at hF
              refine g_sub [] (L' := []) rfl ?_
              exact c_X8_shift_b111 O _ _ _ hF
            · rw [if_neg h14] at hF
              refine g_iload_n O (pc := 67) dX8_shift_67 2 rfl ?_
              refine g_if_lt O (pc := 68) 111 dX8_shift_68 (by decide) (fun h15 => ?_) (fun h15 => ?_)
              · rw [if_pos h15] at hF
                refine g_sub [] (L' := []) rfl ?_
                exact c_X8_shift_b111 O _ _ _ hF
              · rw [if_neg h15] at hF
                refine g_iload O (pc := 71) dX8_shift_71 4 rfl ?_
                refine g_if_lt O (pc := 73) 111 dX8_shift_73 (by decide) (fun h16 => ?_) (fun h16 => ?_)
                · rw [if_pos h16] at hF
                  refine g_sub [] (L' := []) rfl ?_
                  exact c_X8_shift_b111 O _ _ _ hF
                · rw [if_neg h16] at hF
                  refine g_iload_n O (pc := 76) dX8_shift_76 2 rfl ?_
                  refine g_i2l O (pc := 77) dX8_shift_77 ?_
                  refine g_iload O (pc := 78) dX8_shift_78 5 rfl ?_
                  refine g_i2l O (pc := 80) dX8_shift_80 ?_
                  refine g_ladd O (pc := 81) dX8_shift_81 ?_
                  refine g_aload_n O (pc := 82) dX8_shift_82 0 rfl ?_
                  refine g_getR O (pc := 83) isC_X8 dX8_shift_83 fw_X8_111 (by decide) fd_SMod_0_51 ?_
                  refine g_iload_n O (pc := 86) dX8_shift_86 1 rfl ?_
                  obtain ⟨h17, hF⟩ := gd hF
                  refine g_il O (pc := 87) dX8_shift_87 ar_SMod_32 h17 ?_
                  refine g_i2l O (pc := 88) dX8_shift_88 ?_
                  refine g_lcmp O (pc := 89) dX8_shift_89 ?_
                  refine g_if_gt O (pc := 90) 111 dX8_shift_90 (by decide) (fun h18 => ?_) (fun h18 => ?_)
                  · rw [if_pos h18] at hF
                    refine g_sub [] (L' := []) rfl ?_
                    exact c_X8_shift_b111 O _ _ _ hF
                  · rw [if_neg h18] at hF
                    refine g_iload O (pc := 93) dX8_shift_93 4 rfl ?_
                    refine g_i2l O (pc := 95) dX8_shift_95 ?_
                    refine g_iload O (pc := 96) dX8_shift_96 5 rfl ?_
                    refine g_i2l O (pc := 98) dX8_shift_98 ?_
                    refine g_ladd O (pc := 99) dX8_shift_99 ?_
                    refine g_aload_n O (pc := 100) dX8_shift_100 0 rfl ?_
                    refine g_getR O (pc := 101) isC_X8 dX8_shift_101 fw_X8_111 (by decide) fd_SMod_0_51 ?_
                    refine g_iload_n O (pc := 104) dX8_shift_104 3 rfl ?_
                    obtain ⟨h19, hF⟩ := gd hF
                    refine g_il O (pc := 105) dX8_shift_105 ar_SMod_32 h19 ?_
                    refine g_i2l O (pc := 106) dX8_shift_106 ?_
                    refine g_lcmp O (pc := 107) dX8_shift_107 ?_
                    refine g_if_le O (pc := 108) 114 dX8_shift_108 (by decide) (fun h20 => ?_) (fun h20 => ?_)
                    · rw [if_pos h20] at hF
                      refine g_iconst O (pc := 114) dX8_shift_114 (ic_0) ?_
                      refine g_istore O (pc := 115) (L' := [(6, .int ((0 : Int32))), (0, .ref (0)), (1, .int (x1)), (2, .int (x2)), (3, .int (x3)), (4, .int (x4)), (5, .int (x5))]) dX8_shift_115 (by decide) rfl ?_
                      refine g_sub [1, 2, 3, 4, 5, 6, 0] (L' := [(0, .ref (0)), (1, .int (x1)), (2, .int (x2)), (3, .int (x3)), (4, .int (x4)), (5, .int (x5)), (6, .int ((0 : Int32)))]) rfl ?_
                      exact c_X8_shift_b117 O _ _ _ _ _ _ _ _ _ _ hF
                    · rw [if_neg h20] at hF
                      refine g_sub [] (L' := []) rfl ?_
                      exact c_X8_shift_b111 O _ _ _ hF
          · rw [if_neg h13] at hF
            refine g_bipush O (pc := 59) dX8_shift_59 bp_m12 ?_
            obtain rfl := Option.some.inj hF
            exact g_ireturn O (pc := 61) dX8_shift_61 rfl
        · rw [if_pos h10] at hF
          refine g_sub [] (L' := []) rfl ?_
          exact c_X8_shift_b41 O _ _ _ hF
    · rw [if_pos h6] at hF
      refine g_sub [] (L' := []) rfl ?_
      exact c_X8_shift_b21 O _ _ _ hF

theorem mc_X8_shift {x1 : Int32} {x2 : Int32} {x3 : Int32} {x4 : Int32} {x5 : Int32} {I : IS} {J : JS} {q : Int32 × IS × JS} (hF : f_X8_shift x1 x2 x3 x4 x5 I J = some q) : MC yX8_shift cX8_shift 7 (some .int) (rm_ 2 46) SMod 36 [.ref (0), .int (x1), .int (x2), .int (x3), .int (x4), .int (x5)] I J (some (.int q.1), q.2.1, q.2.2) :=
  mc_of pn_X8 (Nat.le_of_ble_eq_true rfl) (fun z O => c_X8_shift_e O _ _ _ _ _ _ _ _ hF)

def f_X8_tape_b39 (I : IS) (J : JS) : Option (Int32 × IS × JS) :=
  some ((-2 : Int32), I, J)
set_option maxHeartbeats 4000000 in
set_option maxRecDepth 100000 in
theorem c_X8_tape_b39 {z : CTX} (O : OK z cX8_tape RX8 5 SMod 36 (rm_ 2 46) (some .int)) : ∀ (I : IS) (J : JS) (q : Int32 × IS × JS), f_X8_tape_b39 I J = some q → G z 39 [] [] I J (some (.int q.1), q.2.1, q.2.2) := by
  intro I J q hF
  rw [f_X8_tape_b39] at hF
  refine g_bipush O (pc := 39) dX8_tape_39 bp_m2 ?_
  obtain rfl := Option.some.inj hF
  exact g_ireturn O (pc := 41) dX8_tape_41 rfl

def f_X8_tape_b93 : Nat → Int32 → Int32 → IS → JS → Option (Int32 × IS × JS)
  | 0, _, _, _, _ => none
  | fu + 1, x1, x4, I, J =>
    if (60 : Int32) ≤ x4 then
    (some ((1 : Int32), I, J))
    else
    (if okI ((((60 : Int32) * x1) + x4)) 360 = true then
    (f_X8_tape_b93 fu (x1) (x4 + (1 : Int32)) (I) ((u2 J (33) ((((60 : Int32) * x1) + x4)).toNatClampNeg ((0 : Int64)))))
    else none)
set_option maxHeartbeats 4000000 in
set_option maxRecDepth 100000 in
theorem c_X8_tape_b93 {z : CTX} (O : OK z cX8_tape RX8 5 SMod 36 (rm_ 2 46) (some .int)) : ∀ (fu : Nat) (x1 : Int32) (x4 : Int32) (I : IS) (J : JS) (q : Int32 × IS × JS), f_X8_tape_b93 fu x1 x4 I J = some q → G z 93 [(0, .ref (0)), (1, .int (x1)), (4, .int (x4))] [] I J (some (.int q.1), q.2.1, q.2.2) := by
  intro fu
  induction fu with
  | zero =>
    intro x1 x4 I J q hF
    cases hF
  | succ fu ih =>
    intro x1 x4 I J q hF
    rw [f_X8_tape_b93] at hF
    refine g_iload O (pc := 93) dX8_tape_93 2 rfl ?_
    refine g_bipush O (pc := 95) dX8_tape_95 bp_60 ?_
    refine g_icmp_ge O (pc := 97) 119 dX8_tape_97 (by decide) (fun h1 => ?_) (fun h1 => ?_)
    · rw [if_pos h1] at hF
      refine g_iconst O (pc := 119) dX8_tape_119 (ic_1) ?_
      obtain rfl := Option.some.inj hF
      exact g_ireturn O (pc := 120) dX8_tape_120 rfl
    · rw [if_neg h1] at hF
      refine g_aload_n O (pc := 100) dX8_tape_100 0 rfl ?_
      refine g_getR O (pc := 101) isC_X8 dX8_tape_101 fw_X8_114 (by decide) fd_SMod_0_52 ?_
      refine g_bipush O (pc := 104) dX8_tape_104 bp_60 ?_
      refine g_iload_n O (pc := 106) dX8_tape_106 1 rfl ?_
      refine g_imul O (pc := 107) dX8_tape_107 ?_
      refine g_iload O (pc := 108) dX8_tape_108 2 rfl ?_
      refine g_iadd O (pc := 110) dX8_tape_110 ?_
      refine g_lconst O (pc := 111) dX8_tape_111 lc_0 ?_
      obtain ⟨h2, hF⟩ := gd hF
      refine g_ls O (pc := 112) dX8_tape_112 ar_SMod_33 h2 ?_
      refine g_iinc O (pc := 113) (v := x4 + (1 : Int32)) (L' := [(4, .int (x4 + (1 : Int32))), (0, .ref (0)), (1, .int (x1))]) dX8_tape_113 2 rfl rfl (by decide) rfl ?_
      refine g_goto O (pc := 116) 93 dX8_tape_116 (by decide) ?_
      refine g_sub [1, 2, 0] (L' := [(0, .ref (0)), (1, .int (x1)), (4, .int (x4 + (1 : Int32)))]) rfl ?_
      exact ih _ _ _ _ _ hF

def f_X8_tape_b89 (x1 : Int32) (s1 : Int32) (s2 : Int32) (I : IS) (J : JS) : Option (Int32 × IS × JS) :=
  if okI (s1) 6 = true then
  (f_X8_tape_b93 LF (x1) ((0 : Int32)) ((u2 I (32) (s1).toNatClampNeg (s2))) (J))
  else none
set_option maxHeartbeats 4000000 in
set_option maxRecDepth 100000 in
theorem c_X8_tape_b89 {z : CTX} (O : OK z cX8_tape RX8 5 SMod 36 (rm_ 2 46) (some .int)) : ∀ (x1 : Int32) (s1 : Int32) (s2 : Int32) (I : IS) (J : JS) (q : Int32 × IS × JS), f_X8_tape_b89 x1 s1 s2 I J = some q → G z 89 [(0, .ref (0)), (1, .int (x1))] [.int (s2), .int (s1), .ref (32)] I J (some (.int q.1), q.2.1, q.2.2) := by
  intro x1 s1 s2 I J q hF
  rw [f_X8_tape_b89] at hF
  obtain ⟨h1, hF⟩ := gd hF
  refine g_is O (pc := 89) dX8_tape_89 ar_SMod_32 h1 ?_
  refine g_iconst O (pc := 90) dX8_tape_90 (ic_0) ?_
  refine g_istore O (pc := 91) (L' := [(4, .int ((0 : Int32))), (0, .ref (0)), (1, .int (x1))]) dX8_tape_91 (by decide) rfl ?_
  refine g_sub [1, 2, 0] (L' := [(0, .ref (0)), (1, .int (x1)), (4, .int ((0 : Int32)))]) rfl ?_
  exact c_X8_tape_b93 O _ _ _ _ _ _ hF

def f_X8_tape_b67 (x1 : Int32) (x2 : Int32) (x3 : Int32) (s1 : Int32) (s2 : Int32) (I : IS) (J : JS) : Option (Int32 × IS × JS) :=
  if okI (s1) 6 = true then
  (if okZ (s2) = true then
  (if okI (x1) 6 = true then
  (if 0 ≤ x2 then
  (f_X8_tape_b89 (x1) (x1) (x3) ((u2 (u2 I (35) (s1).toNatClampNeg (s2)) (31) (x1).toNatClampNeg (x2))) (J))
  else
  (f_X8_tape_b89 (x1) (x1) ((0 : Int32)) ((u2 (u2 I (35) (s1).toNatClampNeg (s2)) (31) (x1).toNatClampNeg (x2))) (J)))
  else none)
  else none)
  else none
set_option maxHeartbeats 4000000 in
set_option maxRecDepth 100000 in
theorem c_X8_tape_b67 {z : CTX} (O : OK z cX8_tape RX8 5 SMod 36 (rm_ 2 46) (some .int)) : ∀ (x1 : Int32) (x2 : Int32) (x3 : Int32) (s1 : Int32) (s2 : Int32) (I : IS) (J : JS) (q : Int32 × IS × JS), f_X8_tape_b67 x1 x2 x3 s1 s2 I J = some q → G z 67 [(0, .ref (0)), (1, .int (x1)), (2, .int (x2)), (3, .int (x3))] [.int (s2), .int (s1), .ref (35)] I J (some (.int q.1), q.2.1, q.2.2) := by
  intro x1 x2 x3 s1 s2 I J q hF
  rw [f_X8_tape_b67] at hF
  obtain ⟨h1, hF⟩ := gd hF
  obtain ⟨h2, hF⟩ := gd hF
  refine g_zs O (pc := 67) dX8_tape_67 ar_SMod_35 h1 h2 ?_
  refine g_aload_n O (pc := 68) dX8_tape_68 0 rfl ?_
  refine g_getR O (pc := 69) isC_X8 dX8_tape_69 fw_X8_108 (by decide) fd_SMod_0_50 ?_
  refine g_iload_n O (pc := 72) dX8_tape_72 1 rfl ?_
  refine g_iload_n O (pc := 73) dX8_tape_73 2 rfl ?_
  obtain ⟨h3, hF⟩ := gd hF
  refine g_is O (pc := 74) dX8_tape_74 ar_SMod_31 h3 ?_
  refine g_aload_n O (pc := 75) dX8_tape_75 0 rfl ?_
  refine g_getR O (pc := 76) isC_X8 dX8_tape_76 fw_X8_111 (by decide) fd_SMod_0_51 ?_
  refine g_iload_n O (pc := 79) dX8_tape_79 1 rfl ?_
  refine g_iload_n O (pc := 80) dX8_tape_80 2 rfl ?_
  refine g_if_ge O (pc := 81) 88 dX8_tape_81 (by decide) (fun h4 => ?_) (fun h4 => ?_)
  · rw [if_pos h4] at hF
    refine g_iload_n O (pc := 88) dX8_tape_88 3 rfl ?_
    refine g_sub [0, 1] (L' := [(0, .ref (0)), (1, .int (x1))]) rfl ?_
    exact c_X8_tape_b89 O _ _ _ _ _ _ hF
  · rw [if_neg h4] at hF
    refine g_iconst O (pc := 84) dX8_tape_84 (ic_0) ?_
    refine g_goto O (pc := 85) 89 dX8_tape_85 (by decide) ?_
    refine g_sub [0, 1] (L' := [(0, .ref (0)), (1, .int (x1))]) rfl ?_
    exact c_X8_tape_b89 O _ _ _ _ _ _ hF

def f_X8_tape_b53 (x1 : Int32) (x2 : Int32) (x3 : Int32) (I : IS) (J : JS) : Option (Int32 × IS × JS) :=
  if x2 < 0 then
  (f_X8_tape_b67 (x1) (x2) (x3) (x1) ((0 : Int32)) (I) (J))
  else
  (f_X8_tape_b67 (x1) (x2) (x3) (x1) ((1 : Int32)) (I) (J))
set_option maxHeartbeats 4000000 in
set_option maxRecDepth 100000 in
theorem c_X8_tape_b53 {z : CTX} (O : OK z cX8_tape RX8 5 SMod 36 (rm_ 2 46) (some .int)) : ∀ (x1 : Int32) (x2 : Int32) (x3 : Int32) (I : IS) (J : JS) (q : Int32 × IS × JS), f_X8_tape_b53 x1 x2 x3 I J = some q → G z 53 [(0, .ref (0)), (1, .int (x1)), (2, .int (x2)), (3, .int (x3))] [] I J (some (.int q.1), q.2.1, q.2.2) := by
  intro x1 x2 x3 I J q hF
  rw [f_X8_tape_b53] at hF
  refine g_aload_n O (pc := 53) dX8_tape_53 0 rfl ?_
  refine g_getR O (pc := 54) isC_X8 dX8_tape_54 fw_X8_121 (by decide) fd_SMod_0_54 ?_
  refine g_iload_n O (pc := 57) dX8_tape_57 1 rfl ?_
  refine g_iload_n O (pc := 58) dX8_tape_58 2 rfl ?_
  refine g_if_lt O (pc := 59) 66 dX8_tape_59 (by decide) (fun h1 => ?_) (fun h1 => ?_)
  · rw [if_pos h1] at hF
    refine g_iconst O (pc := 66) dX8_tape_66 (ic_0) ?_
    refine g_sub [0, 1, 2, 3] (L' := [(0, .ref (0)), (1, .int (x1)), (2, .int (x2)), (3, .int (x3))]) rfl ?_
    exact c_X8_tape_b67 O _ _ _ _ _ _ _ _ hF
  · rw [if_neg h1] at hF
    refine g_iconst O (pc := 62) dX8_tape_62 (ic_1) ?_
    refine g_goto O (pc := 63) 67 dX8_tape_63 (by decide) ?_
    refine g_sub [0, 1, 2, 3] (L' := [(0, .ref (0)), (1, .int (x1)), (2, .int (x2)), (3, .int (x3))]) rfl ?_
    exact c_X8_tape_b67 O _ _ _ _ _ _ _ _ hF

def f_X8_tape_b42 (x1 : Int32) (x2 : Int32) (x3 : Int32) (I : IS) (J : JS) : Option (Int32 × IS × JS) :=
  if x2 < 0 then
  (f_X8_tape_b53 (x1) (x2) (x3) (I) (J))
  else
  (if 0 ≤ x3 then
  (f_X8_tape_b53 (x1) (x2) (x3) (I) (J))
  else
  (some ((-14 : Int32), I, J)))
set_option maxHeartbeats 4000000 in
set_option maxRecDepth 100000 in
theorem c_X8_tape_b42 {z : CTX} (O : OK z cX8_tape RX8 5 SMod 36 (rm_ 2 46) (some .int)) : ∀ (x1 : Int32) (x2 : Int32) (x3 : Int32) (I : IS) (J : JS) (q : Int32 × IS × JS), f_X8_tape_b42 x1 x2 x3 I J = some q → G z 42 [(0, .ref (0)), (1, .int (x1)), (2, .int (x2)), (3, .int (x3))] [] I J (some (.int q.1), q.2.1, q.2.2) := by
  intro x1 x2 x3 I J q hF
  rw [f_X8_tape_b42] at hF
  refine g_iload_n O (pc := 42) dX8_tape_42 2 rfl ?_
  refine g_if_lt O (pc := 43) 53 dX8_tape_43 (by decide) (fun h1 => ?_) (fun h1 => ?_)
  · rw [if_pos h1] at hF
    refine g_sub [0, 1, 2, 3] (L' := [(0, .ref (0)), (1, .int (x1)), (2, .int (x2)), (3, .int (x3))]) rfl ?_
    exact c_X8_tape_b53 O _ _ _ _ _ _ hF
  · rw [if_neg h1] at hF
    refine g_iload_n O (pc := 46) dX8_tape_46 3 rfl ?_
    refine g_if_ge O (pc := 47) 53 dX8_tape_47 (by decide) (fun h2 => ?_) (fun h2 => ?_)
    · rw [if_pos h2] at hF
      refine g_sub [0, 1, 2, 3] (L' := [(0, .ref (0)), (1, .int (x1)), (2, .int (x2)), (3, .int (x3))]) rfl ?_
      exact c_X8_tape_b53 O _ _ _ _ _ _ hF
    · rw [if_neg h2] at hF
      refine g_bipush O (pc := 50) dX8_tape_50 bp_m14 ?_
      obtain rfl := Option.some.inj hF
      exact g_ireturn O (pc := 52) dX8_tape_52 rfl

def f_X8_tape (x1 : Int32) (x2 : Int32) (x3 : Int32) (I : IS) (J : JS) : Option (Int32 × IS × JS) :=
  (f_X8_isTape (x1) (u2 I (0) 29 ((0 : Int32)))).bind fun q1 =>
  (if q1 = 0 then
  (some ((-1 : Int32), (u2 I (0) 29 ((0 : Int32))), J))
  else
  ((f_X8_in ((x2).toInt64) ((-1 : Int64)) ((4 : Int64))).bind fun q4 =>
  (if q4 = 0 then
  (f_X8_tape_b39 ((u2 I (0) 29 ((0 : Int32)))) (J))
  else
  (if x2 < 0 then
  (f_X8_tape_b42 (x1) (x2) (x3) ((u2 I (0) 29 ((0 : Int32)))) (J))
  else
  (if x3 ≤ (60 : Int32) then
  (f_X8_tape_b42 (x1) (x2) (x3) ((u2 I (0) 29 ((0 : Int32)))) (J))
  else
  (f_X8_tape_b39 ((u2 I (0) 29 ((0 : Int32)))) (J)))))))
set_option maxHeartbeats 4000000 in
set_option maxRecDepth 100000 in
theorem c_X8_tape_e {z : CTX} (O : OK z cX8_tape RX8 5 SMod 36 (rm_ 2 46) (some .int)) : ∀ (x1 : Int32) (x2 : Int32) (x3 : Int32) (I : IS) (J : JS) (q : Int32 × IS × JS), f_X8_tape x1 x2 x3 I J = some q → G z 0 [(0, .ref (0)), (1, .int (x1)), (2, .int (x2)), (3, .int (x3))] [] I J (some (.int q.1), q.2.1, q.2.2) := by
  intro x1 x2 x3 I J q hF
  rw [f_X8_tape] at hF
  refine g_aload_n O (pc := 0) dX8_tape_0 0 rfl ?_
  refine g_iconst O (pc := 1) dX8_tape_1 (ic_0) ?_
  refine g_putI O (pc := 2) isC_X8 isT_X8 dX8_tape_2 fw_X8_124 (by decide) rfl rfl fd_SMod_0_29 ?_
  refine g_aload_n O (pc := 5) dX8_tape_5 0 rfl ?_
  refine g_iload_n O (pc := 6) dX8_tape_6 1 rfl ?_
  obtain ⟨q1, e2, hF⟩ := bnd hF
  refine g_Vi O (pc := 7) (st := []) dX8_tape_7 (mc_X8_isTape J e2) cb_X8_isTape ml_X8_366 isC_X8 ob_SMod (zm0 _ _ _ _ _ _ _) (rmok (Nat.le_of_ble_eq_true rfl) (Nat.le_of_ble_eq_true rfl)) (Nat.le_of_ble_eq_true rfl) rfl ?_
  refine g_if_ne O (pc := 10) 15 dX8_tape_10 (by decide) (fun h3 => ?_) (fun h3 => ?_)
  · rw [if_neg h3] at hF
    refine g_iload_n O (pc := 15) dX8_tape_15 2 rfl ?_
    refine g_i2l O (pc := 16) dX8_tape_16 ?_
    refine g_ldc2 O (pc := 17) kw_X8_369 dX8_tape_17 ?_
    refine g_ldc2 O (pc := 20) kw_X8_236 dX8_tape_20 ?_
    obtain ⟨q4, e5, hF⟩ := bnd hF
    refine g_Si O (pc := 23) (st := []) dX8_tape_23 (mc_X8_in (u2 I (0) 29 ((0 : Int32))) J e5) cs_X8_in ml_X8_130 rfl (rmok (Nat.le_of_ble_eq_true rfl) (Nat.le_of_ble_eq_true rfl)) (Nat.le_of_ble_eq_true rfl) (fun _ => rfl) rfl ?_
    refine g_if_eq O (pc := 26) 39 dX8_tape_26 (by decide) (fun h6 => ?_) (fun h6 => ?_)
    · rw [if_pos h6] at hF
      refine g_sub [] (L' := []) rfl ?_
      exact c_X8_tape_b39 O _ _ _ hF
    · rw [if_neg h6] at hF
      refine g_iload_n O (pc := 29) dX8_tape_29 2 rfl ?_
      refine g_if_lt O (pc := 30) 42 dX8_tape_30 (by decide) (fun h7 => ?_) (fun h7 => ?_)
      · rw [if_pos h7] at hF
        refine g_sub [0, 1, 2, 3] (L' := [(0, .ref (0)), (1, .int (x1)), (2, .int (x2)), (3, .int (x3))]) rfl ?_
        exact c_X8_tape_b42 O _ _ _ _ _ _ hF
      · rw [if_neg h7] at hF
        refine g_iload_n O (pc := 33) dX8_tape_33 3 rfl ?_
        refine g_bipush O (pc := 34) dX8_tape_34 bp_60 ?_
        refine g_icmp_le O (pc := 36) 42 dX8_tape_36 (by decide) (fun h8 => ?_) (fun h8 => ?_)
        · rw [if_pos h8] at hF
          refine g_sub [0, 1, 2, 3] (L' := [(0, .ref (0)), (1, .int (x1)), (2, .int (x2)), (3, .int (x3))]) rfl ?_
          exact c_X8_tape_b42 O _ _ _ _ _ _ hF
        · rw [if_neg h8] at hF
          refine g_sub [] (L' := []) rfl ?_
          exact c_X8_tape_b39 O _ _ _ hF
  · rw [if_pos h3] at hF
    refine g_iconst O (pc := 13) dX8_tape_13 (ic_m1) ?_
    obtain rfl := Option.some.inj hF
    exact g_ireturn O (pc := 14) dX8_tape_14 rfl

theorem mc_X8_tape {x1 : Int32} {x2 : Int32} {x3 : Int32} {I : IS} {J : JS} {q : Int32 × IS × JS} (hF : f_X8_tape x1 x2 x3 I J = some q) : MC yX8_tape cX8_tape 5 (some .int) (rm_ 2 46) SMod 36 [.ref (0), .int (x1), .int (x2), .int (x3)] I J (some (.int q.1), q.2.1, q.2.2) :=
  mc_of pn_X8 (Nat.le_of_ble_eq_true rfl) (fun z O => c_X8_tape_e O _ _ _ _ _ _ hF)

def f_X8_till_b27 (s0 : Int32) (I : IS) : Option (Int32 × IS) :=
  some (s0, I)
set_option maxHeartbeats 4000000 in
set_option maxRecDepth 100000 in
theorem c_X8_till_b27 {z : CTX} {J : JS} (O : OK z cX8_till RX8 2 SMod 36 (rm_ 10 223) (some .int)) : ∀ (s0 : Int32) (I : IS) (q : Int32 × IS), f_X8_till_b27 s0 I = some q → G z 27 [] [.int (s0)] I J (some (.int q.1), q.2, J) := by
  intro s0 I q hF
  rw [f_X8_till_b27] at hF
  obtain rfl := Option.some.inj hF
  exact g_ireturn O (pc := 27) dX8_till_27 rfl

def f_X8_till (x1 : Int32) (I : IS) : Option (Int32 × IS) :=
  (f_X8_in ((x1).toInt64) ((1 : Int64)) ((4 : Int64))).bind fun q1 =>
  (if q1 = 0 then
  (f_X8_till_b27 ((-2 : Int32)) ((u2 I (0) 29 ((0 : Int32)))))
  else
  ((f_X8_tillBy (x1) (u2 I (0) 29 ((0 : Int32)))).bind fun q4 =>
  (f_X8_till_b27 (q4.1) (q4.2))))
set_option maxHeartbeats 4000000 in
set_option maxRecDepth 100000 in
theorem c_X8_till_e {z : CTX} {J : JS} (O : OK z cX8_till RX8 2 SMod 36 (rm_ 10 223) (some .int)) : ∀ (x1 : Int32) (I : IS) (q : Int32 × IS), f_X8_till x1 I = some q → G z 0 [(0, .ref (0)), (1, .int (x1))] [] I J (some (.int q.1), q.2, J) := by
  intro x1 I q hF
  rw [f_X8_till] at hF
  refine g_aload_n O (pc := 0) dX8_till_0 0 rfl ?_
  refine g_iconst O (pc := 1) dX8_till_1 (ic_0) ?_
  refine g_putI O (pc := 2) isC_X8 isT_X8 dX8_till_2 fw_X8_124 (by decide) rfl rfl fd_SMod_0_29 ?_
  refine g_iload_n O (pc := 5) dX8_till_5 1 rfl ?_
  refine g_i2l O (pc := 6) dX8_till_6 ?_
  refine g_lconst O (pc := 7) dX8_till_7 lc_1 ?_
  refine g_ldc2 O (pc := 8) kw_X8_236 dX8_till_8 ?_
  obtain ⟨q1, e2, hF⟩ := bnd hF
  refine g_Si O (pc := 11) (st := []) dX8_till_11 (mc_X8_in (u2 I (0) 29 ((0 : Int32))) J e2) cs_X8_in ml_X8_130 rfl (rmok (Nat.le_of_ble_eq_true rfl) (Nat.le_of_ble_eq_true rfl)) (Nat.le_of_ble_eq_true rfl) (fun _ => rfl) rfl ?_
  refine g_if_eq O (pc := 14) 25 dX8_till_14 (by decide) (fun h3 => ?_) (fun h3 => ?_)
  · rw [if_pos h3] at hF
    refine g_bipush O (pc := 25) dX8_till_25 bp_m2 ?_
    refine g_sub [] (L' := []) rfl ?_
    exact c_X8_till_b27 O _ _ _ hF
  · rw [if_neg h3] at hF
    refine g_aload_n O (pc := 17) dX8_till_17 0 rfl ?_
    refine g_iload_n O (pc := 18) dX8_till_18 1 rfl ?_
    obtain ⟨q4, e5, hF⟩ := bnd hF
    refine g_Vi O (pc := 19) (st := []) dX8_till_19 (mc_X8_tillBy J e5) cb_X8_tillBy ml_X8_324 isC_X8 ob_SMod (zm0 _ _ _ _ _ _ _) (rmok (Nat.le_of_ble_eq_true rfl) (Nat.le_of_ble_eq_true rfl)) (Nat.le_of_ble_eq_true rfl) rfl ?_
    refine g_goto O (pc := 22) 27 dX8_till_22 (by decide) ?_
    refine g_sub [] (L' := []) rfl ?_
    exact c_X8_till_b27 O _ _ _ hF

theorem mc_X8_till {x1 : Int32} {I : IS} (J : JS) {q : Int32 × IS} (hF : f_X8_till x1 I = some q) : MC yX8_till cX8_till 2 (some .int) (rm_ 10 223) SMod 36 [.ref (0), .int (x1)] I J (some (.int q.1), q.2, J) :=
  mc_of pn_X8 (Nat.le_of_ble_eq_true rfl) (fun z O => c_X8_till_e O _ _ _ hF)

def f_X8_told_b75 (s0 : Int32) (I : IS) : Option (Int32 × IS) :=
  some (s0, I)
set_option maxHeartbeats 4000000 in
set_option maxRecDepth 100000 in
theorem c_X8_told_b75 {z : CTX} {J : JS} (O : OK z cX8_told RX8 2 SMod 36 (rm_ 11 247) (some .int)) : ∀ (s0 : Int32) (I : IS) (q : Int32 × IS), f_X8_told_b75 s0 I = some q → G z 75 [] [.int (s0)] I J (some (.int q.1), q.2, J) := by
  intro s0 I q hF
  rw [f_X8_told_b75] at hF
  obtain rfl := Option.some.inj hF
  exact g_ireturn O (pc := 75) dX8_told_75 rfl

def f_X8_told (x1 : Int32) (I : IS) : Option (Int32 × IS) :=
  if x1 = 0 then
  (some (((u2 I (0) 29 ((0 : Int32))) (0) 15), (u2 I (0) 29 ((0 : Int32)))))
  else if x1 = 1 then
  (some (((u2 I (0) 29 ((0 : Int32))) (0) 14), (u2 I (0) 29 ((0 : Int32)))))
  else if x1 = 2 then
  (some (((u2 I (0) 29 ((0 : Int32))) (0) 0), (u2 I (0) 29 ((0 : Int32)))))
  else if x1 = 3 then
  ((f_X8_isOver (u2 I (0) 29 ((0 : Int32)))).bind fun q5 =>
  (if q5 = 0 then
  (f_X8_told_b75 ((0 : Int32)) ((u2 I (0) 29 ((0 : Int32)))))
  else
  (f_X8_told_b75 ((1 : Int32)) ((u2 I (0) 29 ((0 : Int32)))))))
  else if x1 = 4 then
  ((f_X8_tillBy (((u2 I (0) 29 ((0 : Int32))) (0) 0)) (u2 I (0) 29 ((0 : Int32)))).bind fun q9 =>
  (some (q9.1, q9.2)))
  else if x1 = 5 then
  ((f_X8_bestArms (u2 I (0) 29 ((0 : Int32)))).bind fun q12 =>
  (some (q12.1, q12.2)))
  else if x1 = 6 then
  (some (((u2 I (0) 29 ((0 : Int32))) (0) 16), (u2 I (0) 29 ((0 : Int32)))))
  else (some ((-10001 : Int32), (u2 I (0) 29 ((0 : Int32)))))
set_option maxHeartbeats 4000000 in
set_option maxRecDepth 100000 in
theorem c_X8_told_e {z : CTX} {J : JS} (O : OK z cX8_told RX8 2 SMod 36 (rm_ 11 247) (some .int)) : ∀ (x1 : Int32) (I : IS) (q : Int32 × IS), f_X8_told x1 I = some q → G z 0 [(0, .ref (0)), (1, .int (x1))] [] I J (some (.int q.1), q.2, J) := by
  intro x1 I q hF
  rw [f_X8_told] at hF
  refine g_aload_n O (pc := 0) dX8_told_0 0 rfl ?_
  refine g_iconst O (pc := 1) dX8_told_1 (ic_0) ?_
  refine g_putI O (pc := 2) isC_X8 isT_X8 dX8_told_2 fw_X8_124 (by decide) rfl rfl fd_SMod_0_29 ?_
  refine g_iload_n O (pc := 5) dX8_told_5 1 rfl ?_
  by_cases h1 : x1 = 0
  · rw [if_pos h1] at hF
    refine g_tabIn O (pc := 6) (42) 48 dX8_told_6 h1 (by decide) (by decide) rfl (by decide) ?_
    refine g_aload_n O (pc := 48) dX8_told_48 0 rfl ?_
    refine g_getI O (pc := 49) isC_X8 dX8_told_49 fw_X8_157 (by decide) fd_SMod_0_15 ?_
    obtain rfl := Option.some.inj hF
    exact g_ireturn O (pc := 52) dX8_told_52 rfl
  rw [if_neg h1] at hF
  by_cases h2 : x1 = 1
  · rw [if_pos h2] at hF
    refine g_tabIn O (pc := 6) (47) 53 dX8_told_6 h2 (by decide) (by decide) rfl (by decide) ?_
    refine g_aload_n O (pc := 53) dX8_told_53 0 rfl ?_
    refine g_getI O (pc := 54) isC_X8 dX8_told_54 fw_X8_50 (by decide) fd_SMod_0_14 ?_
    obtain rfl := Option.some.inj hF
    exact g_ireturn O (pc := 57) dX8_told_57 rfl
  rw [if_neg h2] at hF
  by_cases h3 : x1 = 2
  · rw [if_pos h3] at hF
    refine g_tabIn O (pc := 6) (52) 58 dX8_told_6 h3 (by decide) (by decide) rfl (by decide) ?_
    refine g_aload_n O (pc := 58) dX8_told_58 0 rfl ?_
    refine g_getI O (pc := 59) isC_X8 dX8_told_59 fw_X8_7 (by decide) fd_SMod_0_0 ?_
    obtain rfl := Option.some.inj hF
    exact g_ireturn O (pc := 62) dX8_told_62 rfl
  rw [if_neg h3] at hF
  by_cases h4 : x1 = 3
  · rw [if_pos h4] at hF
    refine g_tabIn O (pc := 6) (57) 63 dX8_told_6 h4 (by decide) (by decide) rfl (by decide) ?_
    refine g_aload_n O (pc := 63) dX8_told_63 0 rfl ?_
    obtain ⟨q5, e6, hF⟩ := bnd hF
    refine g_Vi O (pc := 64) (st := []) dX8_told_64 (mc_X8_isOver J e6) cb_X8_isOver ml_X8_312 isC_X8 ob_SMod (zm0 _ _ _ _ _ _ _) (rmok (Nat.le_of_ble_eq_true rfl) (Nat.le_of_ble_eq_true rfl)) (Nat.le_of_ble_eq_true rfl) rfl ?_
    refine g_if_eq O (pc := 67) 74 dX8_told_67 (by decide) (fun h7 => ?_) (fun h7 => ?_)
    · rw [if_pos h7] at hF
      refine g_iconst O (pc := 74) dX8_told_74 (ic_0) ?_
      refine g_sub [] (L' := []) rfl ?_
      exact c_X8_told_b75 O _ _ _ hF
    · rw [if_neg h7] at hF
      refine g_iconst O (pc := 70) dX8_told_70 (ic_1) ?_
      refine g_goto O (pc := 71) 75 dX8_told_71 (by decide) ?_
      refine g_sub [] (L' := []) rfl ?_
      exact c_X8_told_b75 O _ _ _ hF
  rw [if_neg h4] at hF
  by_cases h8 : x1 = 4
  · rw [if_pos h8] at hF
    refine g_tabIn O (pc := 6) (70) 76 dX8_told_6 h8 (by decide) (by decide) rfl (by decide) ?_
    refine g_aload_n O (pc := 76) dX8_told_76 0 rfl ?_
    refine g_aload_n O (pc := 77) dX8_told_77 0 rfl ?_
    refine g_getI O (pc := 78) isC_X8 dX8_told_78 fw_X8_7 (by decide) fd_SMod_0_0 ?_
    obtain ⟨q9, e10, hF⟩ := bnd hF
    refine g_Vi O (pc := 81) (st := []) dX8_told_81 (mc_X8_tillBy J e10) cb_X8_tillBy ml_X8_324 isC_X8 ob_SMod (zm0 _ _ _ _ _ _ _) (rmok (Nat.le_of_ble_eq_true rfl) (Nat.le_of_ble_eq_true rfl)) (Nat.le_of_ble_eq_true rfl) rfl ?_
    obtain rfl := Option.some.inj hF
    exact g_ireturn O (pc := 84) dX8_told_84 rfl
  rw [if_neg h8] at hF
  by_cases h11 : x1 = 5
  · rw [if_pos h11] at hF
    refine g_tabIn O (pc := 6) (79) 85 dX8_told_6 h11 (by decide) (by decide) rfl (by decide) ?_
    refine g_aload_n O (pc := 85) dX8_told_85 0 rfl ?_
    obtain ⟨q12, e13, hF⟩ := bnd hF
    refine g_Vi O (pc := 86) (st := []) dX8_told_86 (mc_X8_bestArms J e13) cb_X8_bestArms ml_X8_327 isC_X8 ob_SMod (zm0 _ _ _ _ _ _ _) (rmok (Nat.le_of_ble_eq_true rfl) (Nat.le_of_ble_eq_true rfl)) (Nat.le_of_ble_eq_true rfl) rfl ?_
    obtain rfl := Option.some.inj hF
    exact g_ireturn O (pc := 89) dX8_told_89 rfl
  rw [if_neg h11] at hF
  by_cases h14 : x1 = 6
  · rw [if_pos h14] at hF
    refine g_tabIn O (pc := 6) (84) 90 dX8_told_6 h14 (by decide) (by decide) rfl (by decide) ?_
    refine g_aload_n O (pc := 90) dX8_told_90 0 rfl ?_
    refine g_getI O (pc := 91) isC_X8 dX8_told_91 fw_X8_160 (by decide) fd_SMod_0_16 ?_
    obtain rfl := Option.some.inj hF
    exact g_ireturn O (pc := 94) dX8_told_94 rfl
  rw [if_neg h14] at hF
  have ih1 : ¬ (x1).toInt = 0 := fun q => h1 (Int32.toInt_inj.mp q)
  have ih2 : ¬ (x1).toInt = 1 := fun q => h2 (Int32.toInt_inj.mp q)
  have ih3 : ¬ (x1).toInt = 2 := fun q => h3 (Int32.toInt_inj.mp q)
  have ih4 : ¬ (x1).toInt = 3 := fun q => h4 (Int32.toInt_inj.mp q)
  have ih8 : ¬ (x1).toInt = 4 := fun q => h8 (Int32.toInt_inj.mp q)
  have ih11 : ¬ (x1).toInt = 5 := fun q => h11 (Int32.toInt_inj.mp q)
  have ih14 : ¬ (x1).toInt = 6 := fun q => h14 (Int32.toInt_inj.mp q)
  refine g_tabOut O (pc := 6) 95 dX8_told_6 (by omega) (by decide) ?_
  refine g_sipush O (pc := 95) dX8_told_95 sp_m10001 ?_
  obtain rfl := Option.some.inj hF
  exact g_ireturn O (pc := 98) dX8_told_98 rfl

theorem mc_X8_told {x1 : Int32} {I : IS} (J : JS) {q : Int32 × IS} (hF : f_X8_told x1 I = some q) : MC yX8_told cX8_told 2 (some .int) (rm_ 11 247) SMod 36 [.ref (0), .int (x1)] I J (some (.int q.1), q.2, J) :=
  mc_of pn_X8 (Nat.le_of_ble_eq_true rfl) (fun z O => c_X8_told_e O _ _ _ hF)

def f_X8_trace_b47 (s0 : Int32) (I : IS) : Option (Int32 × IS) :=
  some (s0, I)
set_option maxHeartbeats 4000000 in
set_option maxRecDepth 100000 in
theorem c_X8_trace_b47 {z : CTX} {J : JS} (O : OK z cX8_trace RX8 3 SMod 36 (rm_ 1 25) (some .int)) : ∀ (s0 : Int32) (I : IS) (q : Int32 × IS), f_X8_trace_b47 s0 I = some q → G z 47 [] [.int (s0)] I J (some (.int q.1), q.2, J) := by
  intro s0 I q hF
  rw [f_X8_trace_b47] at hF
  obtain rfl := Option.some.inj hF
  exact g_ireturn O (pc := 47) dX8_trace_47 rfl

def f_X8_trace_b46 (I : IS) : Option (Int32 × IS) :=
  f_X8_trace_b47 ((-1 : Int32)) (I)
set_option maxHeartbeats 4000000 in
set_option maxRecDepth 100000 in
theorem c_X8_trace_b46 {z : CTX} {J : JS} (O : OK z cX8_trace RX8 3 SMod 36 (rm_ 1 25) (some .int)) : ∀ (I : IS) (q : Int32 × IS), f_X8_trace_b46 I = some q → G z 46 [] [] I J (some (.int q.1), q.2, J) := by
  intro I q hF
  rw [f_X8_trace_b46] at hF
  refine g_iconst O (pc := 46) dX8_trace_46 (ic_m1) ?_
  refine g_sub [] (L' := []) rfl ?_
  exact c_X8_trace_b47 O _ _ _ hF

def f_X8_trace (x1 : Int32) (x2 : Int32) (I : IS) : Option (Int32 × IS) :=
  (f_X8_in ((x1).toInt64) ((0 : Int64)) (((((u2 I (0) 29 ((0 : Int32))) (0) 16) - (1 : Int32))).toInt64)).bind fun q1 =>
  (if q1 = 0 then
  (f_X8_trace_b46 ((u2 I (0) 29 ((0 : Int32)))))
  else
  ((f_X8_in ((x2).toInt64) ((0 : Int64)) ((3 : Int64))).bind fun q4 =>
  (if q4 = 0 then
  (f_X8_trace_b46 ((u2 I (0) 29 ((0 : Int32)))))
  else
  (if okI ((((4 : Int32) * x1) + x2)) 160 = true then
  (f_X8_trace_b47 (((u2 I (0) 29 ((0 : Int32))) (13) ((((4 : Int32) * x1) + x2)).toNatClampNeg)) ((u2 I (0) 29 ((0 : Int32)))))
  else none))))
set_option maxHeartbeats 4000000 in
set_option maxRecDepth 100000 in
theorem c_X8_trace_e {z : CTX} {J : JS} (O : OK z cX8_trace RX8 3 SMod 36 (rm_ 1 25) (some .int)) : ∀ (x1 : Int32) (x2 : Int32) (I : IS) (q : Int32 × IS), f_X8_trace x1 x2 I = some q → G z 0 [(0, .ref (0)), (1, .int (x1)), (2, .int (x2))] [] I J (some (.int q.1), q.2, J) := by
  intro x1 x2 I q hF
  rw [f_X8_trace] at hF
  refine g_aload_n O (pc := 0) dX8_trace_0 0 rfl ?_
  refine g_iconst O (pc := 1) dX8_trace_1 (ic_0) ?_
  refine g_putI O (pc := 2) isC_X8 isT_X8 dX8_trace_2 fw_X8_124 (by decide) rfl rfl fd_SMod_0_29 ?_
  refine g_iload_n O (pc := 5) dX8_trace_5 1 rfl ?_
  refine g_i2l O (pc := 6) dX8_trace_6 ?_
  refine g_lconst O (pc := 7) dX8_trace_7 lc_0 ?_
  refine g_aload_n O (pc := 8) dX8_trace_8 0 rfl ?_
  refine g_getI O (pc := 9) isC_X8 dX8_trace_9 fw_X8_160 (by decide) fd_SMod_0_16 ?_
  refine g_iconst O (pc := 12) dX8_trace_12 (ic_1) ?_
  refine g_isub O (pc := 13) dX8_trace_13 ?_
  refine g_i2l O (pc := 14) dX8_trace_14 ?_
  obtain ⟨q1, e2, hF⟩ := bnd hF
  refine g_Si O (pc := 15) (st := []) dX8_trace_15 (mc_X8_in (u2 I (0) 29 ((0 : Int32))) J e2) cs_X8_in ml_X8_130 rfl (rmok (Nat.le_of_ble_eq_true rfl) (Nat.le_of_ble_eq_true rfl)) (Nat.le_of_ble_eq_true rfl) (fun _ => rfl) rfl ?_
  refine g_if_eq O (pc := 18) 46 dX8_trace_18 (by decide) (fun h3 => ?_) (fun h3 => ?_)
  · rw [if_pos h3] at hF
    refine g_sub [] (L' := []) rfl ?_
    exact c_X8_trace_b46 O _ _ hF
  · rw [if_neg h3] at hF
    refine g_iload_n O (pc := 21) dX8_trace_21 2 rfl ?_
    refine g_i2l O (pc := 22) dX8_trace_22 ?_
    refine g_lconst O (pc := 23) dX8_trace_23 lc_0 ?_
    refine g_ldc2 O (pc := 24) kw_X8_302 dX8_trace_24 ?_
    obtain ⟨q4, e5, hF⟩ := bnd hF
    refine g_Si O (pc := 27) (st := []) dX8_trace_27 (mc_X8_in (u2 I (0) 29 ((0 : Int32))) J e5) cs_X8_in ml_X8_130 rfl (rmok (Nat.le_of_ble_eq_true rfl) (Nat.le_of_ble_eq_true rfl)) (Nat.le_of_ble_eq_true rfl) (fun _ => rfl) rfl ?_
    refine g_if_eq O (pc := 30) 46 dX8_trace_30 (by decide) (fun h6 => ?_) (fun h6 => ?_)
    · rw [if_pos h6] at hF
      refine g_sub [] (L' := []) rfl ?_
      exact c_X8_trace_b46 O _ _ hF
    · rw [if_neg h6] at hF
      refine g_aload_n O (pc := 33) dX8_trace_33 0 rfl ?_
      refine g_getR O (pc := 34) isC_X8 dX8_trace_34 fw_X8_53 (by decide) fd_SMod_0_17 ?_
      refine g_iconst O (pc := 37) dX8_trace_37 (ic_4) ?_
      refine g_iload_n O (pc := 38) dX8_trace_38 1 rfl ?_
      refine g_imul O (pc := 39) dX8_trace_39 ?_
      refine g_iload_n O (pc := 40) dX8_trace_40 2 rfl ?_
      refine g_iadd O (pc := 41) dX8_trace_41 ?_
      obtain ⟨h7, hF⟩ := gd hF
      refine g_il O (pc := 42) dX8_trace_42 ar_SMod_13 h7 ?_
      refine g_goto O (pc := 43) 47 dX8_trace_43 (by decide) ?_
      refine g_sub [] (L' := []) rfl ?_
      exact c_X8_trace_b47 O _ _ _ hF

theorem mc_X8_trace {x1 : Int32} {x2 : Int32} {I : IS} (J : JS) {q : Int32 × IS} (hF : f_X8_trace x1 x2 I = some q) : MC yX8_trace cX8_trace 3 (some .int) (rm_ 1 25) SMod 36 [.ref (0), .int (x1), .int (x2)] I J (some (.int q.1), q.2, J) :=
  mc_of pn_X8 (Nat.le_of_ble_eq_true rfl) (fun z O => c_X8_trace_e O _ _ _ _ hF)

def f_X8_tree_b147 (k64 : Int32 → Int32 → Int32 → IS → Option (Int32 × IS)) (x1 : Int32) (x2 : Int32) (x3 : Int32) (x4 : Int32) (s1 : Int32) (s2 : Int32) (I : IS) : Option (Int32 × IS) :=
  if okI (s1) 32 = true then
  (if okI (x3) 101 = true then
  (if okI (x4) 32 = true then
  ((some (u2 (u2 I (10) (s1).toNatClampNeg (s2)) (11) (x4).toNatClampNeg (((u2 I (10) (s1).toNatClampNeg (s2)) (25) (x3).toNatClampNeg)))).bind fun I4 =>
  (if okI (x4) 32 = true then
  (k64 (x1) (x2) (x3 + (1 : Int32)) ((u2 I4 (12) (x4).toNatClampNeg ((-5 : Int32)))))
  else none))
  else none)
  else none)
  else none
set_option maxHeartbeats 4000000 in
set_option maxRecDepth 100000 in
theorem c_X8_tree_b147 {z : CTX} {J : JS} (O : OK z cX8_tree RX8 5 SMod 36 (rm_ 3 67) (some .int)) {k64 : Int32 → Int32 → Int32 → IS → Option (Int32 × IS)} (hk64 : ∀ (x1 : Int32) (x2 : Int32) (x3 : Int32) (I : IS) (q : Int32 × IS), k64 x1 x2 x3 I = some q → G z 64 [(0, .ref (0)), (1, .int (x1)), (2, .int (x2)), (3, .int (x3))] [] I J (some (.int q.1), q.2, J)) : ∀ (x1 : Int32) (x2 : Int32) (x3 : Int32) (x4 : Int32) (s1 : Int32) (s2 : Int32) (I : IS) (q : Int32 × IS), f_X8_tree_b147 k64 x1 x2 x3 x4 s1 s2 I = some q → G z 147 [(0, .ref (0)), (1, .int (x1)), (2, .int (x2)), (3, .int (x3)), (4, .int (x4))] [.int (s2), .int (s1), .ref (10)] I J (some (.int q.1), q.2, J) := by
  intro x1 x2 x3 x4 s1 s2 I q hF
  rw [f_X8_tree_b147] at hF
  obtain ⟨h1, hF⟩ := gd hF
  refine g_is O (pc := 147) dX8_tree_147 ar_SMod_10 h1 ?_
  refine g_aload_n O (pc := 148) dX8_tree_148 0 rfl ?_
  refine g_getR O (pc := 149) isC_X8 dX8_tree_149 fw_X8_44 (by decide) fd_SMod_0_12 ?_
  refine g_iload O (pc := 152) dX8_tree_152 4 rfl ?_
  refine g_aload_n O (pc := 154) dX8_tree_154 0 rfl ?_
  refine g_getR O (pc := 155) isC_X8 dX8_tree_155 fw_X8_90 (by decide) fd_SMod_0_43 ?_
  refine g_iload_n O (pc := 158) dX8_tree_158 3 rfl ?_
  obtain ⟨h2, hF⟩ := gd hF
  refine g_il O (pc := 159) dX8_tree_159 ar_SMod_25 h2 ?_
  obtain ⟨h3, hF⟩ := gd hF
  refine g_is O (pc := 160) dX8_tree_160 ar_SMod_11 h3 ?_
  obtain ⟨I4, g5, hF⟩ := bnd hF
  refine g_nmI (Option.some.inj g5) ?_
  refine g_aload_n O (pc := 161) dX8_tree_161 0 rfl ?_
  refine g_getR O (pc := 162) isC_X8 dX8_tree_162 fw_X8_47 (by decide) fd_SMod_0_13 ?_
  refine g_iload O (pc := 165) dX8_tree_165 4 rfl ?_
  refine g_bipush O (pc := 167) dX8_tree_167 bp_m5 ?_
  obtain ⟨h6, hF⟩ := gd hF
  refine g_is O (pc := 169) dX8_tree_169 ar_SMod_12 h6 ?_
  refine g_iinc O (pc := 170) (v := x3 + (1 : Int32)) (L' := [(3, .int (x3 + (1 : Int32))), (0, .ref (0)), (1, .int (x1)), (2, .int (x2)), (4, .int (x4))]) dX8_tree_170 3 rfl rfl (by decide) rfl ?_
  refine g_goto O (pc := 173) 64 dX8_tree_173 (by decide) ?_
  refine g_sub [1, 2, 3, 0] (L' := [(0, .ref (0)), (1, .int (x1)), (2, .int (x2)), (3, .int (x3 + (1 : Int32)))]) rfl ?_
  exact hk64 _ _ _ _ _ hF

def f_X8_tree_b64 : Nat → Int32 → Int32 → Int32 → IS → Option (Int32 × IS)
  | 0, _, _, _, _ => none
  | fu + 1, x1, x2, x3, I =>
    if (I (0) 41) ≤ x3 then
    ((f_X8_comesTo (x1) (x2) (u2 I (0) 6 (((I (0) 6) + (I (0) 41))))).bind fun q2 =>
    (some (x2, q2)))
    else
    (if okI ((x2 + x3)) 32 = true then
    (if okI (x3) 101 = true then
    (if okI ((x2 + x3)) 32 = true then
    ((some (u2 (u2 I (6) ((x2 + x3)).toNatClampNeg ((0 : Int32))) (7) ((x2 + x3)).toNatClampNeg (((u2 I (6) ((x2 + x3)).toNatClampNeg ((0 : Int32))) (24) (x3).toNatClampNeg)))).bind fun I7 =>
    (if okI (x3) 101 = true then
    (if okI ((x2 + x3)) 32 = true then
    (if okI ((x2 + x3)) 32 = true then
    ((some (u2 (u2 I7 (8) ((x2 + x3)).toNatClampNeg ((I7 (24) (x3).toNatClampNeg))) (9) ((x2 + x3)).toNatClampNeg ((0 : Int32)))).bind fun I12 =>
    (if okI (x3) 101 = true then
    (if 0 ≤ (I12 (26) (x3).toNatClampNeg) then
    (if okI (x3) 101 = true then
    (f_X8_tree_b147 (f_X8_tree_b64 fu) (x1) (x2) (x3) ((x2 + x3)) ((x2 + x3)) ((x2 + (I12 (26) (x3).toNatClampNeg))) (I12))
    else none)
    else
    (f_X8_tree_b147 (f_X8_tree_b64 fu) (x1) (x2) (x3) ((x2 + x3)) ((x2 + x3)) ((-5 : Int32)) (I12)))
    else none))
    else none)
    else none)
    else none))
    else none)
    else none)
    else none)
set_option maxHeartbeats 4000000 in
set_option maxRecDepth 100000 in
theorem c_X8_tree_b64 {z : CTX} {J : JS} (O : OK z cX8_tree RX8 5 SMod 36 (rm_ 3 67) (some .int)) : ∀ (fu : Nat) (x1 : Int32) (x2 : Int32) (x3 : Int32) (I : IS) (q : Int32 × IS), f_X8_tree_b64 fu x1 x2 x3 I = some q → G z 64 [(0, .ref (0)), (1, .int (x1)), (2, .int (x2)), (3, .int (x3))] [] I J (some (.int q.1), q.2, J) := by
  intro fu
  induction fu with
  | zero =>
    intro x1 x2 x3 I q hF
    cases hF
  | succ fu ih =>
    intro x1 x2 x3 I q hF
    rw [f_X8_tree_b64] at hF
    refine g_iload_n O (pc := 64) dX8_tree_64 3 rfl ?_
    refine g_aload_n O (pc := 65) dX8_tree_65 0 rfl ?_
    refine g_getI O (pc := 66) isC_X8 dX8_tree_66 fw_X8_249 (by decide) fd_SMod_0_41 ?_
    refine g_icmp_ge O (pc := 69) 176 dX8_tree_69 (by decide) (fun h1 => ?_) (fun h1 => ?_)
    · rw [if_pos h1] at hF
      refine g_aload_n O (pc := 176) dX8_tree_176 0 rfl ?_
      refine g_dup O (pc := 177) dX8_tree_177 rfl ?_
      refine g_getI O (pc := 178) isC_X8 dX8_tree_178 fw_X8_127 (by decide) fd_SMod_0_6 ?_
      refine g_aload_n O (pc := 181) dX8_tree_181 0 rfl ?_
      refine g_getI O (pc := 182) isC_X8 dX8_tree_182 fw_X8_249 (by decide) fd_SMod_0_41 ?_
      refine g_iadd O (pc := 185) dX8_tree_185 ?_
      refine g_putI O (pc := 186) isC_X8 isT_X8 dX8_tree_186 fw_X8_127 (by decide) rfl rfl fd_SMod_0_6 ?_
      refine g_aload_n O (pc := 189) dX8_tree_189 0 rfl ?_
      refine g_iload_n O (pc := 190) dX8_tree_190 1 rfl ?_
      refine g_iload_n O (pc := 191) dX8_tree_191 2 rfl ?_
      obtain ⟨q2, e3, hF⟩ := bnd hF
      refine g_Vv O (pc := 192) (st := []) dX8_tree_192 (mc_X8_comesTo J e3) cb_X8_comesTo ml_X8_210 isC_X8 ob_SMod (zm0 _ _ _ _ _ _ _) (rmok (Nat.le_of_ble_eq_true rfl) (Nat.le_of_ble_eq_true rfl)) (Nat.le_of_ble_eq_true rfl) rfl ?_
      refine g_iload_n O (pc := 195) dX8_tree_195 2 rfl ?_
      obtain rfl := Option.some.inj hF
      exact g_ireturn O (pc := 196) dX8_tree_196 rfl
    · rw [if_neg h1] at hF
      refine g_iload_n O (pc := 72) dX8_tree_72 2 rfl ?_
      refine g_iload_n O (pc := 73) dX8_tree_73 3 rfl ?_
      refine g_iadd O (pc := 74) dX8_tree_74 ?_
      refine g_istore O (pc := 75) (L' := [(4, .int ((x2 + x3))), (0, .ref (0)), (1, .int (x1)), (2, .int (x2)), (3, .int (x3))]) dX8_tree_75 (by decide) rfl ?_
      refine g_aload_n O (pc := 77) dX8_tree_77 1 rfl ?_
      refine g_getR O (pc := 78) isC_X8 dX8_tree_78 fw_X8_29 (by decide) fd_SMod_0_7 ?_
      refine g_iload O (pc := 81) dX8_tree_81 0 rfl ?_
      refine g_iconst O (pc := 83) dX8_tree_83 (ic_0) ?_
      obtain ⟨h4, hF⟩ := gd hF
      refine g_is O (pc := 84) dX8_tree_84 ar_SMod_6 h4 ?_
      refine g_aload_n O (pc := 85) dX8_tree_85 1 rfl ?_
      refine g_getR O (pc := 86) isC_X8 dX8_tree_86 fw_X8_32 (by decide) fd_SMod_0_8 ?_
      refine g_iload O (pc := 89) dX8_tree_89 0 rfl ?_
      refine g_aload_n O (pc := 91) dX8_tree_91 1 rfl ?_
      refine g_getR O (pc := 92) isC_X8 dX8_tree_92 fw_X8_87 (by decide) fd_SMod_0_42 ?_
      refine g_iload_n O (pc := 95) dX8_tree_95 4 rfl ?_
      obtain ⟨h5, hF⟩ := gd hF
      refine g_il O (pc := 96) dX8_tree_96 ar_SMod_24 h5 ?_
      obtain ⟨h6, hF⟩ := gd hF
      refine g_is O (pc := 97) dX8_tree_97 ar_SMod_7 h6 ?_
      obtain ⟨I7, g8, hF⟩ := bnd hF
      refine g_nmI (Option.some.inj g8) ?_
      refine g_aload_n O (pc := 98) dX8_tree_98 1 rfl ?_
      refine g_getR O (pc := 99) isC_X8 dX8_tree_99 fw_X8_35 (by decide) fd_SMod_0_9 ?_
      refine g_iload O (pc := 102) dX8_tree_102 0 rfl ?_
      refine g_aload_n O (pc := 104) dX8_tree_104 1 rfl ?_
      refine g_getR O (pc := 105) isC_X8 dX8_tree_105 fw_X8_87 (by decide) fd_SMod_0_42 ?_
      refine g_iload_n O (pc := 108) dX8_tree_108 4 rfl ?_
      obtain ⟨h9, hF⟩ := gd hF
      refine g_il O (pc := 109) dX8_tree_109 ar_SMod_24 h9 ?_
      obtain ⟨h10, hF⟩ := gd hF
      refine g_is O (pc := 110) dX8_tree_110 ar_SMod_8 h10 ?_
      refine g_aload_n O (pc := 111) dX8_tree_111 1 rfl ?_
      refine g_getR O (pc := 112) isC_X8 dX8_tree_112 fw_X8_38 (by decide) fd_SMod_0_10 ?_
      refine g_iload O (pc := 115) dX8_tree_115 0 rfl ?_
      refine g_iconst O (pc := 117) dX8_tree_117 (ic_0) ?_
      obtain ⟨h11, hF⟩ := gd hF
      refine g_is O (pc := 118) dX8_tree_118 ar_SMod_9 h11 ?_
      obtain ⟨I12, g13, hF⟩ := bnd hF
      refine g_nmI (Option.some.inj g13) ?_
      refine g_aload_n O (pc := 119) dX8_tree_119 1 rfl ?_
      refine g_getR O (pc := 120) isC_X8 dX8_tree_120 fw_X8_41 (by decide) fd_SMod_0_11 ?_
      refine g_iload O (pc := 123) dX8_tree_123 0 rfl ?_
      refine g_aload_n O (pc := 125) dX8_tree_125 1 rfl ?_
      refine g_getR O (pc := 126) isC_X8 dX8_tree_126 fw_X8_93 (by decide) fd_SMod_0_44 ?_
      refine g_iload_n O (pc := 129) dX8_tree_129 4 rfl ?_
      obtain ⟨h14, hF⟩ := gd hF
      refine g_il O (pc := 130) dX8_tree_130 ar_SMod_26 h14 ?_
      refine g_if_ge O (pc := 131) 139 dX8_tree_131 (by decide) (fun h15 => ?_) (fun h15 => ?_)
      · rw [if_pos h15] at hF
        refine g_iload_n O (pc := 139) dX8_tree_139 3 rfl ?_
        refine g_aload_n O (pc := 140) dX8_tree_140 1 rfl ?_
        refine g_getR O (pc := 141) isC_X8 dX8_tree_141 fw_X8_93 (by decide) fd_SMod_0_44 ?_
        refine g_iload_n O (pc := 144) dX8_tree_144 4 rfl ?_
        obtain ⟨h16, hF⟩ := gd hF
        refine g_il O (pc := 145) dX8_tree_145 ar_SMod_26 h16 ?_
        refine g_iadd O (pc := 146) dX8_tree_146 ?_
        refine g_sub [1, 2, 3, 4, 0] (L' := [(0, .ref (0)), (1, .int (x1)), (2, .int (x2)), (3, .int (x3)), (4, .int ((x2 + x3)))]) rfl ?_
        exact c_X8_tree_b147 O ih _ _ _ _ _ _ _ _ hF
      · rw [if_neg h15] at hF
        refine g_bipush O (pc := 134) dX8_tree_134 bp_m5 ?_
        refine g_goto O (pc := 136) 147 dX8_tree_136 (by decide) ?_
        refine g_sub [1, 2, 3, 4, 0] (L' := [(0, .ref (0)), (1, .int (x1)), (2, .int (x2)), (3, .int (x3)), (4, .int ((x2 + x3)))]) rfl ?_
        exact c_X8_tree_b147 O ih _ _ _ _ _ _ _ _ hF

def f_X8_tree (x1 : Int32) (I : IS) : Option (Int32 × IS) :=
  (f_X8_isArm (x1) (u2 I (0) 29 ((0 : Int32)))).bind fun q1 =>
  (if q1 = 0 then
  (some ((-1 : Int32), (u2 I (0) 29 ((0 : Int32)))))
  else
  ((f_X8_readTree (u2 I (0) 29 ((0 : Int32)))).bind fun q4 =>
  (if q4.1 = 0 then
  (some (((-10 : Int32) - ((u2 q4.2 (0) 38 ((0 : Int32))) (0) 39)), (u2 q4.2 (0) 38 ((0 : Int32)))))
  else
  (if (((u2 q4.2 (0) 38 ((0 : Int32))) (0) 6) + ((u2 q4.2 (0) 38 ((0 : Int32))) (0) 41)) ≤ (32 : Int32) then
  (f_X8_tree_b64 LF (x1) (((u2 q4.2 (0) 38 ((0 : Int32))) (0) 6)) ((0 : Int32)) ((u2 q4.2 (0) 38 ((0 : Int32)))))
  else
  (some ((-4 : Int32), (u2 q4.2 (0) 38 ((0 : Int32)))))))))
set_option maxHeartbeats 4000000 in
set_option maxRecDepth 100000 in
theorem c_X8_tree_e {z : CTX} {J : JS} (O : OK z cX8_tree RX8 5 SMod 36 (rm_ 3 67) (some .int)) : ∀ (x1 : Int32) (I : IS) (q : Int32 × IS), f_X8_tree x1 I = some q → G z 0 [(0, .ref (0)), (1, .int (x1))] [] I J (some (.int q.1), q.2, J) := by
  intro x1 I q hF
  rw [f_X8_tree] at hF
  refine g_aload_n O (pc := 0) dX8_tree_0 0 rfl ?_
  refine g_iconst O (pc := 1) dX8_tree_1 (ic_0) ?_
  refine g_putI O (pc := 2) isC_X8 isT_X8 dX8_tree_2 fw_X8_124 (by decide) rfl rfl fd_SMod_0_29 ?_
  refine g_aload_n O (pc := 5) dX8_tree_5 0 rfl ?_
  refine g_iload_n O (pc := 6) dX8_tree_6 1 rfl ?_
  obtain ⟨q1, e2, hF⟩ := bnd hF
  refine g_Vi O (pc := 7) (st := []) dX8_tree_7 (mc_X8_isArm J e2) cb_X8_isArm ml_X8_272 isC_X8 ob_SMod (zm0 _ _ _ _ _ _ _) (rmok (Nat.le_of_ble_eq_true rfl) (Nat.le_of_ble_eq_true rfl)) (Nat.le_of_ble_eq_true rfl) rfl ?_
  refine g_if_ne O (pc := 10) 15 dX8_tree_10 (by decide) (fun h3 => ?_) (fun h3 => ?_)
  · rw [if_neg h3] at hF
    refine g_aload_n O (pc := 15) dX8_tree_15 0 rfl ?_
    obtain ⟨q4, e5, hF⟩ := bnd hF
    refine g_Vi O (pc := 16) (st := []) dX8_tree_16 (mc_X8_readTree J e5) cb_X8_readTree ml_X8_275 isC_X8 ob_SMod (zm0 _ _ _ _ _ _ _) (rmok (Nat.le_of_ble_eq_true rfl) (Nat.le_of_ble_eq_true rfl)) (Nat.le_of_ble_eq_true rfl) rfl ?_
    refine g_if_ne O (pc := 19) 35 dX8_tree_19 (by decide) (fun h6 => ?_) (fun h6 => ?_)
    · rw [if_neg h6] at hF
      refine g_aload_n O (pc := 35) dX8_tree_35 0 rfl ?_
      refine g_iconst O (pc := 36) dX8_tree_36 (ic_0) ?_
      refine g_putI O (pc := 37) isC_X8 isT_X8 dX8_tree_37 fw_X8_243 (by decide) rfl rfl fd_SMod_0_38 ?_
      refine g_aload_n O (pc := 40) dX8_tree_40 0 rfl ?_
      refine g_getI O (pc := 41) isC_X8 dX8_tree_41 fw_X8_127 (by decide) fd_SMod_0_6 ?_
      refine g_aload_n O (pc := 44) dX8_tree_44 0 rfl ?_
      refine g_getI O (pc := 45) isC_X8 dX8_tree_45 fw_X8_249 (by decide) fd_SMod_0_41 ?_
      refine g_iadd O (pc := 48) dX8_tree_48 ?_
      refine g_bipush O (pc := 49) dX8_tree_49 bp_32 ?_
      refine g_icmp_le O (pc := 51) 57 dX8_tree_51 (by decide) (fun h7 => ?_) (fun h7 => ?_)
      · rw [if_pos h7] at hF
        refine g_aload_n O (pc := 57) dX8_tree_57 0 rfl ?_
        refine g_getI O (pc := 58) isC_X8 dX8_tree_58 fw_X8_127 (by decide) fd_SMod_0_6 ?_
        refine g_istore_n O (pc := 61) (L' := [(2, .int (((u2 q4.2 (0) 38 ((0 : Int32))) (0) 6))), (0, .ref (0)), (1, .int (x1))]) dX8_tree_61 (by decide) rfl ?_
        refine g_iconst O (pc := 62) dX8_tree_62 (ic_0) ?_
        refine g_istore_n O (pc := 63) (L' := [(3, .int ((0 : Int32))), (2, .int (((u2 q4.2 (0) 38 ((0 : Int32))) (0) 6))), (0, .ref (0)), (1, .int (x1))]) dX8_tree_63 (by decide) rfl ?_
        refine g_sub [2, 3, 1, 0] (L' := [(0, .ref (0)), (1, .int (x1)), (2, .int (((u2 q4.2 (0) 38 ((0 : Int32))) (0) 6))), (3, .int ((0 : Int32)))]) rfl ?_
        exact c_X8_tree_b64 O _ _ _ _ _ _ hF
      · rw [if_neg h7] at hF
        refine g_bipush O (pc := 54) dX8_tree_54 bp_m4 ?_
        obtain rfl := Option.some.inj hF
        exact g_ireturn O (pc := 56) dX8_tree_56 rfl
    · rw [if_pos h6] at hF
      refine g_aload_n O (pc := 22) dX8_tree_22 0 rfl ?_
      refine g_iconst O (pc := 23) dX8_tree_23 (ic_0) ?_
      refine g_putI O (pc := 24) isC_X8 isT_X8 dX8_tree_24 fw_X8_243 (by decide) rfl rfl fd_SMod_0_38 ?_
      refine g_bipush O (pc := 27) dX8_tree_27 bp_m10 ?_
      refine g_aload_n O (pc := 29) dX8_tree_29 0 rfl ?_
      refine g_getI O (pc := 30) isC_X8 dX8_tree_30 fw_X8_246 (by decide) fd_SMod_0_39 ?_
      refine g_isub O (pc := 33) dX8_tree_33 ?_
      obtain rfl := Option.some.inj hF
      exact g_ireturn O (pc := 34) dX8_tree_34 rfl
  · rw [if_pos h3] at hF
    refine g_iconst O (pc := 13) dX8_tree_13 (ic_m1) ?_
    obtain rfl := Option.some.inj hF
    exact g_ireturn O (pc := 14) dX8_tree_14 rfl

theorem mc_X8_tree {x1 : Int32} {I : IS} (J : JS) {q : Int32 × IS} (hF : f_X8_tree x1 I = some q) : MC yX8_tree cX8_tree 5 (some .int) (rm_ 3 67) SMod 36 [.ref (0), .int (x1)] I J (some (.int q.1), q.2, J) :=
  mc_of pn_X8 (Nat.le_of_ble_eq_true rfl) (fun z O => c_X8_tree_e O _ _ _ hF)

def f_X8_undo (I : IS) : Option (Int32 × IS) :=
  if ((u2 I (0) 29 ((0 : Int32))) (0) 32) = 0 then
  (some ((-3 : Int32), (u2 I (0) 29 ((0 : Int32)))))
  else
  ((f_X8_carryAll (21) ((0 : Int32)) (u2 I (0) 29 ((0 : Int32)))).bind fun q2 =>
  (some ((q2 (0) 6), q2)))
set_option maxHeartbeats 4000000 in
set_option maxRecDepth 100000 in
theorem c_X8_undo_e {z : CTX} {J : JS} (O : OK z cX8_undo RX8 1 SMod 36 (rm_ 3 65) (some .int)) : ∀ (I : IS) (q : Int32 × IS), f_X8_undo I = some q → G z 0 [(0, .ref (0))] [] I J (some (.int q.1), q.2, J) := by
  intro I q hF
  rw [f_X8_undo] at hF
  refine g_aload_n O (pc := 0) dX8_undo_0 0 rfl ?_
  refine g_iconst O (pc := 1) dX8_undo_1 (ic_0) ?_
  refine g_putI O (pc := 2) isC_X8 isT_X8 dX8_undo_2 fw_X8_124 (by decide) rfl rfl fd_SMod_0_29 ?_
  refine g_aload_n O (pc := 5) dX8_undo_5 0 rfl ?_
  refine g_getI O (pc := 6) isC_X8 dX8_undo_6 fw_X8_170 (by decide) fd_SMod_0_32 ?_
  refine g_if_ne O (pc := 9) 15 dX8_undo_9 (by decide) (fun h1 => ?_) (fun h1 => ?_)
  · rw [if_neg h1] at hF
    refine g_aload_n O (pc := 15) dX8_undo_15 0 rfl ?_
    refine g_aload_n O (pc := 16) dX8_undo_16 0 rfl ?_
    refine g_getR O (pc := 17) isC_X8 dX8_undo_17 fw_X8_77 (by decide) fd_SMod_0_31 ?_
    refine g_iconst O (pc := 20) dX8_undo_20 (ic_0) ?_
    obtain ⟨q2, e3, hF⟩ := bnd hF
    refine g_Vv O (pc := 21) (st := []) dX8_undo_21 (mc_X8_carryAll J e3) cb_X8_carryAll ml_X8_166 isC_X8 ob_SMod (zm0 _ _ _ _ _ _ _) (rmok (Nat.le_of_ble_eq_true rfl) (Nat.le_of_ble_eq_true rfl)) (Nat.le_of_ble_eq_true rfl) rfl ?_
    refine g_aload_n O (pc := 24) dX8_undo_24 0 rfl ?_
    refine g_getI O (pc := 25) isC_X8 dX8_undo_25 fw_X8_127 (by decide) fd_SMod_0_6 ?_
    obtain rfl := Option.some.inj hF
    exact g_ireturn O (pc := 28) dX8_undo_28 rfl
  · rw [if_pos h1] at hF
    refine g_bipush O (pc := 12) dX8_undo_12 bp_m3 ?_
    obtain rfl := Option.some.inj hF
    exact g_ireturn O (pc := 14) dX8_undo_14 rfl

theorem mc_X8_undo {I : IS} (J : JS) {q : Int32 × IS} (hF : f_X8_undo I = some q) : MC yX8_undo cX8_undo 1 (some .int) (rm_ 3 65) SMod 36 [.ref (0)] I J (some (.int q.1), q.2, J) :=
  mc_of pn_X8 (Nat.le_of_ble_eq_true rfl) (fun z O => c_X8_undo_e O _ _ hF)

