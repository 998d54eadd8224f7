def f_X0_become (I : IS) : Option (IS) :=
  if okC ((0 : Int32)) ((0 : Int32)) ((32 : Int32)) 32 32 = true then
  ((some (u1 I (1) (va_cpy (I (3)) (I (1)) ((0 : Int32)).toNatClampNeg ((0 : Int32)).toNatClampNeg ((32 : Int32)).toNatClampNeg))).bind fun I2 =>
  ((some (u2 (u2 (u2 I2 (0) 1 ((I2 (2) 1))) (0) 2 (((u2 I2 (0) 1 ((I2 (2) 1))) (2) 2))) (0) 3 (((u2 (u2 I2 (0) 1 ((I2 (2) 1))) (0) 2 (((u2 I2 (0) 1 ((I2 (2) 1))) (2) 2))) (2) 3)))).bind fun I4 =>
  (some ((u2 I4 (0) 4 ((I4 (2) 4)))))))
  else none
set_option maxHeartbeats 4000000 in
set_option maxRecDepth 100000 in
theorem c_X0_become_e {z : CTX} {J : JS} (O : OK z cX0_become RX0 2 (dbl 2 SArm) 4 (rm_ 1 18) none) : ∀ (I : IS) (q : IS), f_X0_become I = some q → G z 0 [(0, .ref (0)), (1, .ref (2))] [] I J (none, q, J) := by
  intro I q hF
  rw [f_X0_become] at hF
  refine g_aload_n O (pc := 0) dX0_become_0 1 rfl ?_
  refine g_getR O (pc := 1) isC_X0 dX0_become_1 fw_X0_9 (by decide) fd_dbl_2_SArm_2_0 ?_
  refine g_iconst O (pc := 4) dX0_become_4 (ic_0) ?_
  refine g_aload_n O (pc := 5) dX0_become_5 0 rfl ?_
  refine g_getR O (pc := 6) isC_X0 dX0_become_6 fw_X0_9 (by decide) fd_dbl_2_SArm_0_0 ?_
  refine g_iconst O (pc := 9) dX0_become_9 (ic_0) ?_
  refine g_aload_n O (pc := 10) dX0_become_10 0 rfl ?_
  refine g_getR O (pc := 11) isC_X0 dX0_become_11 fw_X0_9 (by decide) fd_dbl_2_SArm_0_0 ?_
  refine g_len O (pc := 14) dX0_become_14 (by decide) ar_dbl_2_SArm_1 (v := (32 : Int32)) rfl ?_
  obtain ⟨h1, hF⟩ := gd hF
  refine g_copyI O (pc := 15) (st := []) dX0_become_15 ml_X0_28 acn acs aci ar_dbl_2_SArm_3 ar_dbl_2_SArm_1 h1 (by decide) (Nat.le_of_ble_eq_true rfl) ?_
  obtain ⟨I2, g3, hF⟩ := bnd hF
  refine g_nmI (Option.some.inj g3) ?_
  refine g_aload_n O (pc := 18) dX0_become_18 0 rfl ?_
  refine g_aload_n O (pc := 19) dX0_become_19 1 rfl ?_
  refine g_getI O (pc := 20) isC_X0 dX0_become_20 fw_X0_15 (by decide) fd_dbl_2_SArm_2_1 ?_
  refine g_putI O (pc := 23) isC_X0 isT_X0 dX0_become_23 fw_X0_15 (by decide) rfl rfl fd_dbl_2_SArm_0_1 ?_
  refine g_aload_n O (pc := 26) dX0_become_26 0 rfl ?_
  refine g_aload_n O (pc := 27) dX0_become_27 1 rfl ?_
  refine g_getI O (pc := 28) isC_X0 dX0_become_28 fw_X0_19 (by decide) fd_dbl_2_SArm_2_2 ?_
  refine g_putI O (pc := 31) isC_X0 isT_X0 dX0_become_31 fw_X0_19 (by decide) rfl rfl fd_dbl_2_SArm_0_2 ?_
  refine g_aload_n O (pc := 34) dX0_become_34 0 rfl ?_
  refine g_aload_n O (pc := 35) dX0_become_35 1 rfl ?_
  refine g_getI O (pc := 36) isC_X0 dX0_become_36 fw_X0_22 (by decide) fd_dbl_2_SArm_2_3 ?_
  refine g_putI O (pc := 39) isC_X0 isT_X0 dX0_become_39 fw_X0_22 (by decide) rfl rfl fd_dbl_2_SArm_0_3 ?_
  obtain ⟨I4, g5, hF⟩ := bnd hF
  refine g_nmI (Option.some.inj g5) ?_
  refine g_aload_n O (pc := 42) dX0_become_42 0 rfl ?_
  refine g_aload_n O (pc := 43) dX0_become_43 1 rfl ?_
  refine g_getI O (pc := 44) isC_X0 dX0_become_44 fw_X0_25 (by decide) fd_dbl_2_SArm_2_4 ?_
  refine g_putI O (pc := 47) isC_X0 isT_X0 dX0_become_47 fw_X0_25 (by decide) rfl rfl fd_dbl_2_SArm_0_4 ?_
  obtain rfl := Option.some.inj hF
  exact g_return O (pc := 50) dX0_become_50 rfl

theorem mc_X0_become {I : IS} (J : JS) {q : IS} (hF : f_X0_become I = some q) : MC yX0_become cX0_become 2 none (rm_ 1 18) (dbl 2 SArm) 4 [.ref (0), .ref (2)] I J (none, q, J) :=
  mc_of pn_X0 (Nat.le_of_ble_eq_true rfl) (fun z O => c_X0_become_e O _ _ hF)

def f_X0_clear (I : IS) : Option (IS) :=
  some ((u2 (u2 (u2 (u2 I (0) 1 ((0 : Int32))) (0) 2 ((-5 : Int32))) (0) 3 ((0 : Int32))) (0) 4 ((0 : Int32))))
set_option maxHeartbeats 4000000 in
set_option maxRecDepth 100000 in
theorem c_X0_clear_e {z : CTX} {J : JS} (O : OK z cX0_clear RX0 1 SArm 2 (rm_ 0 0) none) : ∀ (I : IS) (q : IS), f_X0_clear I = some q → G z 0 [(0, .ref (0))] [] I J (none, q, J) := by
  intro I q hF
  rw [f_X0_clear] at hF
  refine g_aload_n O (pc := 0) dX0_clear_0 0 rfl ?_
  refine g_iconst O (pc := 1) dX0_clear_1 (ic_0) ?_
  refine g_putI O (pc := 2) isC_X0 isT_X0 dX0_clear_2 fw_X0_15 (by decide) rfl rfl fd_SArm_0_1 ?_
  refine g_aload_n O (pc := 5) dX0_clear_5 0 rfl ?_
  refine g_bipush O (pc := 6) dX0_clear_6 bp_m5 ?_
  refine g_putI O (pc := 8) isC_X0 isT_X0 dX0_clear_8 fw_X0_19 (by decide) rfl rfl fd_SArm_0_2 ?_
  refine g_aload_n O (pc := 11) dX0_clear_11 0 rfl ?_
  refine g_iconst O (pc := 12) dX0_clear_12 (ic_0) ?_
  refine g_putI O (pc := 13) isC_X0 isT_X0 dX0_clear_13 fw_X0_22 (by decide) rfl rfl fd_SArm_0_3 ?_
  refine g_aload_n O (pc := 16) dX0_clear_16 0 rfl ?_
  refine g_iconst O (pc := 17) dX0_clear_17 (ic_0) ?_
  refine g_putI O (pc := 18) isC_X0 isT_X0 dX0_clear_18 fw_X0_25 (by decide) rfl rfl fd_SArm_0_4 ?_
  obtain rfl := Option.some.inj hF
  exact g_return O (pc := 21) dX0_clear_21 rfl

theorem mc_X0_clear {I : IS} (J : JS) {q : IS} (hF : f_X0_clear I = some q) : MC yX0_clear cX0_clear 1 none (rm_ 0 0) SArm 2 [.ref (0)] I J (none, q, J) :=
  mc_of pn_X0 (Nat.le_of_ble_eq_true rfl) (fun z O => c_X0_clear_e O _ _ hF)

def f_X0_drop_b51 (k18 : Int32 → Int32 → Int32 → IS → Option (IS)) (x1 : Int32) (x2 : Int32) (x3 : Int32) (I : IS) : Option (IS) :=
  k18 (x1) (x2) (x3 + (1 : Int32)) (I)
set_option maxHeartbeats 4000000 in
set_option maxRecDepth 100000 in
theorem c_X0_drop_b51 {z : CTX} {J : JS} (O : OK z cX0_drop RX0 4 SArm 2 (rm_ 0 0) none) {k18 : Int32 → Int32 → Int32 → IS → Option (IS)} (hk18 : ∀ (x1 : Int32) (x2 : Int32) (x3 : Int32) (I : IS) (q : IS), k18 x1 x2 x3 I = some q → G z 18 [(0, .ref (0)), (1, .int (x1)), (2, .int (x2)), (3, .int (x3))] [] I J (none, q, J)) : ∀ (x1 : Int32) (x2 : Int32) (x3 : Int32) (I : IS) (q : IS), f_X0_drop_b51 k18 x1 x2 x3 I = some q → G z 51 [(0, .ref (0)), (1, .int (x1)), (2, .int (x2)), (3, .int (x3))] [] I J (none, q, J) := by
  intro x1 x2 x3 I q hF
  rw [f_X0_drop_b51] at hF
  refine g_iinc O (pc := 51) (v := x3 + (1 : Int32)) (L' := [(3, .int (x3 + (1 : Int32))), (0, .ref (0)), (1, .int (x1)), (2, .int (x2))]) dX0_drop_51 3 rfl rfl (by decide) rfl ?_
  refine g_goto O (pc := 54) 18 dX0_drop_54 (by decide) ?_
  refine g_sub [1, 2, 3, 0] (L' := [(0, .ref (0)), (1, .int (x1)), (2, .int (x2)), (3, .int (x3 + (1 : Int32)))]) rfl ?_
  exact hk18 _ _ _ _ _ hF

def f_X0_drop_b18 : Nat → Int32 → Int32 → Int32 → IS → Option (IS)
  | 0, _, _, _, _ => none
  | fu + 1, x1, x2, x3, I =>
    if (I (0) 1) ≤ x3 then
    (some ((u2 I (0) 1 (x2))))
    else
    (if okI (x3) 32 = true then
    (if (I (1) (x3).toNatClampNeg) = x1 then
    (f_X0_drop_b51 (f_X0_drop_b18 fu) (x1) (x2) (x3) (I))
    else
    (if okI (x3) 32 = true then
    (if okI (x2) 32 = true then
    (f_X0_drop_b51 (f_X0_drop_b18 fu) (x1) (x2 + (1 : Int32)) (x3) ((u2 I (1) (x2).toNatClampNeg ((I (1) (x3).toNatClampNeg)))))
    else none)
    else none))
    else none)
set_option maxHeartbeats 4000000 in
set_option maxRecDepth 100000 in
theorem c_X0_drop_b18 {z : CTX} {J : JS} (O : OK z cX0_drop RX0 4 SArm 2 (rm_ 0 0) none) : ∀ (fu : Nat) (x1 : Int32) (x2 : Int32) (x3 : Int32) (I : IS) (q : IS), f_X0_drop_b18 fu x1 x2 x3 I = some q → G z 18 [(0, .ref (0)), (1, .int (x1)), (2, .int (x2)), (3, .int (x3))] [] I J (none, q, J) := by
  intro fu
  induction fu with
  | zero =>
    intro x1 x2 x3 I q hF
    cases hF
  | succ fu ih =>
    intro x1 x2 x3 I q hF
    rw [f_X0_drop_b18] at hF
    refine g_iload_n O (pc := 18) dX0_drop_18 3 rfl ?_
    refine g_aload_n O (pc := 19) dX0_drop_19 0 rfl ?_
    refine g_getI O (pc := 20) isC_X0 dX0_drop_20 fw_X0_15 (by decide) fd_SArm_0_1 ?_
    refine g_icmp_ge O (pc := 23) 57 dX0_drop_23 (by decide) (fun h1 => ?_) (fun h1 => ?_)
    · rw [if_pos h1] at hF
      refine g_aload_n O (pc := 57) dX0_drop_57 0 rfl ?_
      refine g_iload_n O (pc := 58) dX0_drop_58 2 rfl ?_
      refine g_putI O (pc := 59) isC_X0 isT_X0 dX0_drop_59 fw_X0_15 (by decide) rfl rfl fd_SArm_0_1 ?_
      obtain rfl := Option.some.inj hF
      exact g_return O (pc := 62) dX0_drop_62 rfl
    · rw [if_neg h1] at hF
      refine g_aload_n O (pc := 26) dX0_drop_26 0 rfl ?_
      refine g_getR O (pc := 27) isC_X0 dX0_drop_27 fw_X0_9 (by decide) fd_SArm_0_0 ?_
      refine g_iload_n O (pc := 30) dX0_drop_30 3 rfl ?_
      obtain ⟨h2, hF⟩ := gd hF
      refine g_il O (pc := 31) dX0_drop_31 ar_SArm_1 h2 ?_
      refine g_iload_n O (pc := 32) dX0_drop_32 1 rfl ?_
      refine g_icmp_eq O (pc := 33) 51 dX0_drop_33 (by decide) (fun h3 => ?_) (fun h3 => ?_)
      · rw [if_pos h3] at hF
        refine g_sub [0, 1, 2, 3] (L' := [(0, .ref (0)), (1, .int (x1)), (2, .int (x2)), (3, .int (x3))]) rfl ?_
        exact c_X0_drop_b51 O ih _ _ _ _ _ hF
      · rw [if_neg h3] at hF
        refine g_aload_n O (pc := 36) dX0_drop_36 0 rfl ?_
        refine g_getR O (pc := 37) isC_X0 dX0_drop_37 fw_X0_9 (by decide) fd_SArm_0_0 ?_
        refine g_iload_n O (pc := 40) dX0_drop_40 2 rfl ?_
        refine g_aload_n O (pc := 41) dX0_drop_41 0 rfl ?_
        refine g_getR O (pc := 42) isC_X0 dX0_drop_42 fw_X0_9 (by decide) fd_SArm_0_0 ?_
        refine g_iload_n O (pc := 45) dX0_drop_45 3 rfl ?_
        obtain ⟨h4, hF⟩ := gd hF
        refine g_il O (pc := 46) dX0_drop_46 ar_SArm_1 h4 ?_
        obtain ⟨h5, hF⟩ := gd hF
        refine g_is O (pc := 47) dX0_drop_47 ar_SArm_1 h5 ?_
        refine g_iinc O (pc := 48) (v := x2 + (1 : Int32)) (L' := [(2, .int (x2 + (1 : Int32))), (0, .ref (0)), (1, .int (x1)), (3, .int (x3))]) dX0_drop_48 2 rfl rfl (by decide) rfl ?_
        refine g_sub [1, 2, 0, 3] (L' := [(0, .ref (0)), (1, .int (x1)), (2, .int (x2 + (1 : Int32))), (3, .int (x3))]) rfl ?_
        exact c_X0_drop_b51 O ih _ _ _ _ _ hF

def f_X0_drop_b14 (x1 : Int32) (I : IS) : Option (IS) :=
  f_X0_drop_b18 LF (x1) ((0 : Int32)) ((0 : Int32)) (I)
set_option maxHeartbeats 4000000 in
set_option maxRecDepth 100000 in
theorem c_X0_drop_b14 {z : CTX} {J : JS} (O : OK z cX0_drop RX0 4 SArm 2 (rm_ 0 0) none) : ∀ (x1 : Int32) (I : IS) (q : IS), f_X0_drop_b14 x1 I = some q → G z 14 [(0, .ref (0)), (1, .int (x1))] [] I J (none, q, J) := by
  intro x1 I q hF
  rw [f_X0_drop_b14] at hF
  refine g_iconst O (pc := 14) dX0_drop_14 (ic_0) ?_
  refine g_istore_n O (pc := 15) (L' := [(2, .int ((0 : Int32))), (0, .ref (0)), (1, .int (x1))]) dX0_drop_15 (by decide) rfl ?_
  refine g_iconst O (pc := 16) dX0_drop_16 (ic_0) ?_
  refine g_istore_n O (pc := 17) (L' := [(3, .int ((0 : Int32))), (2, .int ((0 : Int32))), (0, .ref (0)), (1, .int (x1))]) dX0_drop_17 (by decide) rfl ?_
  refine g_sub [2, 3, 1, 0] (L' := [(0, .ref (0)), (1, .int (x1)), (2, .int ((0 : Int32))), (3, .int ((0 : Int32)))]) rfl ?_
  exact c_X0_drop_b18 O _ _ _ _ _ _ hF

def f_X0_drop (x1 : Int32) (I : IS) : Option (IS) :=
  if (I (0) 2) = x1 then
  (f_X0_drop_b14 (x1) ((u2 I (0) 2 ((-5 : Int32)))))
  else
  (f_X0_drop_b14 (x1) (I))
set_option maxHeartbeats 4000000 in
set_option maxRecDepth 100000 in
theorem c_X0_drop_e {z : CTX} {J : JS} (O : OK z cX0_drop RX0 4 SArm 2 (rm_ 0 0) none) : ∀ (x1 : Int32) (I : IS) (q : IS), f_X0_drop x1 I = some q → G z 0 [(0, .ref (0)), (1, .int (x1))] [] I J (none, q, J) := by
  intro x1 I q hF
  rw [f_X0_drop] at hF
  refine g_aload_n O (pc := 0) dX0_drop_0 0 rfl ?_
  refine g_getI O (pc := 1) isC_X0 dX0_drop_1 fw_X0_19 (by decide) fd_SArm_0_2 ?_
  refine g_iload_n O (pc := 4) dX0_drop_4 1 rfl ?_
  refine g_icmp_ne O (pc := 5) 14 dX0_drop_5 (by decide) (fun h1 => ?_) (fun h1 => ?_)
  · rw [if_neg h1] at hF
    refine g_sub [0, 1] (L' := [(0, .ref (0)), (1, .int (x1))]) rfl ?_
    exact c_X0_drop_b14 O _ _ _ hF
  · rw [if_pos h1] at hF
    refine g_aload_n O (pc := 8) dX0_drop_8 0 rfl ?_
    refine g_bipush O (pc := 9) dX0_drop_9 bp_m5 ?_
    refine g_putI O (pc := 11) isC_X0 isT_X0 dX0_drop_11 fw_X0_19 (by decide) rfl rfl fd_SArm_0_2 ?_
    refine g_sub [0, 1] (L' := [(0, .ref (0)), (1, .int (x1))]) rfl ?_
    exact c_X0_drop_b14 O _ _ _ hF

theorem mc_X0_drop {x1 : Int32} {I : IS} (J : JS) {q : IS} (hF : f_X0_drop x1 I = some q) : MC yX0_drop cX0_drop 4 none (rm_ 0 0) SArm 2 [.ref (0), .int (x1)] I J (none, q, J) :=
  mc_of pn_X0 (Nat.le_of_ble_eq_true rfl) (fun z O => c_X0_drop_e O _ _ _ hF)

def f_X0_holds_b2 : Nat → Int32 → Int32 → IS → Option (Int32)
  | 0, _, _, _ => none
  | fu + 1, x1, x2, I =>
    if (I (0) 1) ≤ x2 then
    (some ((0 : Int32)))
    else
    (if okI (x2) 32 = true then
    (if (I (1) (x2).toNatClampNeg) = x1 then
    (some ((1 : Int32)))
    else
    (f_X0_holds_b2 fu (x1) (x2 + (1 : Int32)) (I)))
    else none)
set_option maxHeartbeats 4000000 in
set_option maxRecDepth 100000 in
theorem c_X0_holds_b2 {z : CTX} {J : JS} (O : OK z cX0_holds RX0 3 SArm 2 (rm_ 0 0) (some .boolean)) : ∀ (fu : Nat) (x1 : Int32) (x2 : Int32) (I : IS) (q : Int32), f_X0_holds_b2 fu x1 x2 I = some q → G z 2 [(0, .ref (0)), (1, .int (x1)), (2, .int (x2))] [] I J (some (.int q), I, J) := by
  intro fu
  induction fu with
  | zero =>
    intro x1 x2 I q hF
    cases hF
  | succ fu ih =>
    intro x1 x2 I q hF
    rw [f_X0_holds_b2] at hF
    refine g_iload_n O (pc := 2) dX0_holds_2 2 rfl ?_
    refine g_aload_n O (pc := 3) dX0_holds_3 0 rfl ?_
    refine g_getI O (pc := 4) isC_X0 dX0_holds_4 fw_X0_15 (by decide) fd_SArm_0_1 ?_
    refine g_icmp_ge O (pc := 7) 28 dX0_holds_7 (by decide) (fun h1 => ?_) (fun h1 => ?_)
    · rw [if_pos h1] at hF
      refine g_iconst O (pc := 28) dX0_holds_28 (ic_0) ?_
      obtain rfl := Option.some.inj hF
      exact g_zreturn O (pc := 29) dX0_holds_29 (by decide) rfl
    · rw [if_neg h1] at hF
      refine g_aload_n O (pc := 10) dX0_holds_10 0 rfl ?_
      refine g_getR O (pc := 11) isC_X0 dX0_holds_11 fw_X0_9 (by decide) fd_SArm_0_0 ?_
      refine g_iload_n O (pc := 14) dX0_holds_14 2 rfl ?_
      obtain ⟨h2, hF⟩ := gd hF
      refine g_il O (pc := 15) dX0_holds_15 ar_SArm_1 h2 ?_
      refine g_iload_n O (pc := 16) dX0_holds_16 1 rfl ?_
      refine g_icmp_ne O (pc := 17) 22 dX0_holds_17 (by decide) (fun h3 => ?_) (fun h3 => ?_)
      · rw [if_neg h3] at hF
        refine g_iinc O (pc := 22) (v := x2 + (1 : Int32)) (L' := [(2, .int (x2 + (1 : Int32))), (0, .ref (0)), (1, .int (x1))]) dX0_holds_22 2 rfl rfl (by decide) rfl ?_
        refine g_goto O (pc := 25) 2 dX0_holds_25 (by decide) ?_
        refine g_sub [1, 2, 0] (L' := [(0, .ref (0)), (1, .int (x1)), (2, .int (x2 + (1 : Int32)))]) rfl ?_
        exact ih _ _ _ _ hF
      · rw [if_pos h3] at hF
        refine g_iconst O (pc := 20) dX0_holds_20 (ic_1) ?_
        obtain rfl := Option.some.inj hF
        exact g_zreturn O (pc := 21) dX0_holds_21 (by decide) rfl

def f_X0_holds (x1 : Int32) (I : IS) : Option (Int32) :=
  f_X0_holds_b2 LF (x1) ((0 : Int32)) (I)
set_option maxHeartbeats 4000000 in
set_option maxRecDepth 100000 in
theorem c_X0_holds_e {z : CTX} {J : JS} (O : OK z cX0_holds RX0 3 SArm 2 (rm_ 0 0) (some .boolean)) : ∀ (x1 : Int32) (I : IS) (q : Int32), f_X0_holds x1 I = some q → G z 0 [(0, .ref (0)), (1, .int (x1))] [] I J (some (.int q), I, J) := by
  intro x1 I q hF
  rw [f_X0_holds] at hF
  refine g_iconst O (pc := 0) dX0_holds_0 (ic_0) ?_
  refine g_istore_n O (pc := 1) (L' := [(2, .int ((0 : Int32))), (0, .ref (0)), (1, .int (x1))]) dX0_holds_1 (by decide) rfl ?_
  refine g_sub [1, 2, 0] (L' := [(0, .ref (0)), (1, .int (x1)), (2, .int ((0 : Int32)))]) rfl ?_
  exact c_X0_holds_b2 O _ _ _ _ _ hF

theorem mc_X0_holds {x1 : Int32} {I : IS} (J : JS) {q : Int32} (hF : f_X0_holds x1 I = some q) : MC yX0_holds cX0_holds 3 (some .boolean) (rm_ 0 0) SArm 2 [.ref (0), .int (x1)] I J (some (.int q), I, J) :=
  mc_of pn_X0 (Nat.le_of_ble_eq_true rfl) (fun z O => c_X0_holds_e O _ _ _ hF)

def f_X0_put (x1 : Int32) (I : IS) : Option (IS) :=
  if (32 : Int32) ≤ (I (0) 1) then
  (some (I))
  else
  (if okI ((I (0) 1)) 32 = true then
  ((some (u2 (u2 I (1) ((I (0) 1)).toNatClampNeg (x1)) (0) 1 ((((u2 I (1) ((I (0) 1)).toNatClampNeg (x1)) (0) 1) + (1 : Int32))))).bind fun I3 =>
  (some (I3)))
  else none)
set_option maxHeartbeats 4000000 in
set_option maxRecDepth 100000 in
theorem c_X0_put_e {z : CTX} {J : JS} (O : OK z cX0_put RX0 2 SArm 2 (rm_ 0 0) none) : ∀ (x1 : Int32) (I : IS) (q : IS), f_X0_put x1 I = some q → G z 0 [(0, .ref (0)), (1, .int (x1))] [] I J (none, q, J) := by
  intro x1 I q hF
  rw [f_X0_put] at hF
  refine g_aload_n O (pc := 0) dX0_put_0 0 rfl ?_
  refine g_getI O (pc := 1) isC_X0 dX0_put_1 fw_X0_15 (by decide) fd_SArm_0_1 ?_
  refine g_aload_n O (pc := 4) dX0_put_4 0 rfl ?_
  refine g_getR O (pc := 5) isC_X0 dX0_put_5 fw_X0_9 (by decide) fd_SArm_0_0 ?_
  refine g_len O (pc := 8) dX0_put_8 (by decide) ar_SArm_1 (v := (32 : Int32)) rfl ?_
  refine g_icmp_ge O (pc := 9) 32 dX0_put_9 (by decide) (fun h1 => ?_) (fun h1 => ?_)
  · rw [if_pos h1] at hF
    obtain rfl := Option.some.inj hF
    exact g_return O (pc := 32) dX0_put_32 rfl
  · rw [if_neg h1] at hF
    refine g_aload_n O (pc := 12) dX0_put_12 0 rfl ?_
    refine g_getR O (pc := 13) isC_X0 dX0_put_13 fw_X0_9 (by decide) fd_SArm_0_0 ?_
    refine g_aload_n O (pc := 16) dX0_put_16 0 rfl ?_
    refine g_getI O (pc := 17) isC_X0 dX0_put_17 fw_X0_15 (by decide) fd_SArm_0_1 ?_
    refine g_iload_n O (pc := 20) dX0_put_20 1 rfl ?_
    obtain ⟨h2, hF⟩ := gd hF
    refine g_is O (pc := 21) dX0_put_21 ar_SArm_1 h2 ?_
    refine g_aload_n O (pc := 22) dX0_put_22 0 rfl ?_
    refine g_dup O (pc := 23) dX0_put_23 rfl ?_
    refine g_getI O (pc := 24) isC_X0 dX0_put_24 fw_X0_15 (by decide) fd_SArm_0_1 ?_
    refine g_iconst O (pc := 27) dX0_put_27 (ic_1) ?_
    refine g_iadd O (pc := 28) dX0_put_28 ?_
    refine g_putI O (pc := 29) isC_X0 isT_X0 dX0_put_29 fw_X0_15 (by decide) rfl rfl fd_SArm_0_1 ?_
    obtain ⟨I3, g4, hF⟩ := bnd hF
    refine g_nmI (Option.some.inj g4) ?_
    obtain rfl := Option.some.inj hF
    exact g_return O (pc := 32) dX0_put_32 rfl

theorem mc_X0_put {x1 : Int32} {I : IS} (J : JS) {q : IS} (hF : f_X0_put x1 I = some q) : MC yX0_put cX0_put 2 none (rm_ 0 0) SArm 2 [.ref (0), .int (x1)] I J (none, q, J) :=
  mc_of pn_X0 (Nat.le_of_ble_eq_true rfl) (fun z O => c_X0_put_e O _ _ _ hF)

def f_X0_taskAt_b23 (s0 : Int32) (I : IS) : Option (Int32) :=
  some (s0)
set_option maxHeartbeats 4000000 in
set_option maxRecDepth 100000 in
theorem c_X0_taskAt_b23 {z : CTX} {J : JS} (O : OK z cX0_taskAt RX0 2 SArm 2 (rm_ 0 0) (some .int)) : ∀ (s0 : Int32) (I : IS) (q : Int32), f_X0_taskAt_b23 s0 I = some q → G z 23 [] [.int (s0)] I J (some (.int q), I, J) := by
  intro s0 I q hF
  rw [f_X0_taskAt_b23] at hF
  obtain rfl := Option.some.inj hF
  exact g_ireturn O (pc := 23) dX0_taskAt_23 rfl

def f_X0_taskAt_b21 (I : IS) : Option (Int32) :=
  f_X0_taskAt_b23 ((-5 : Int32)) (I)
set_option maxHeartbeats 4000000 in
set_option maxRecDepth 100000 in
theorem c_X0_taskAt_b21 {z : CTX} {J : JS} (O : OK z cX0_taskAt RX0 2 SArm 2 (rm_ 0 0) (some .int)) : ∀ (I : IS) (q : Int32), f_X0_taskAt_b21 I = some q → G z 21 [] [] I J (some (.int q), I, J) := by
  intro I q hF
  rw [f_X0_taskAt_b21] at hF
  refine g_bipush O (pc := 21) dX0_taskAt_21 bp_m5 ?_
  refine g_sub [] (L' := []) rfl ?_
  exact c_X0_taskAt_b23 O _ _ _ hF

def f_X0_taskAt (x1 : Int32) (I : IS) : Option (Int32) :=
  if x1 < 0 then
  (f_X0_taskAt_b21 (I))
  else
  (if (I (0) 1) ≤ x1 then
  (f_X0_taskAt_b21 (I))
  else
  (if okI (x1) 32 = true then
  (f_X0_taskAt_b23 ((I (1) (x1).toNatClampNeg)) (I))
  else none))
set_option maxHeartbeats 4000000 in
set_option maxRecDepth 100000 in
theorem c_X0_taskAt_e {z : CTX} {J : JS} (O : OK z cX0_taskAt RX0 2 SArm 2 (rm_ 0 0) (some .int)) : ∀ (x1 : Int32) (I : IS) (q : Int32), f_X0_taskAt x1 I = some q → G z 0 [(0, .ref (0)), (1, .int (x1))] [] I J (some (.int q), I, J) := by
  intro x1 I q hF
  rw [f_X0_taskAt] at hF
  refine g_iload_n O (pc := 0) dX0_taskAt_0 1 rfl ?_
  refine g_if_lt O (pc := 1) 21 dX0_taskAt_1 (by decide) (fun h1 => ?_) (fun h1 => ?_)
  · rw [if_pos h1] at hF
    refine g_sub [] (L' := []) rfl ?_
    exact c_X0_taskAt_b21 O _ _ hF
  · rw [if_neg h1] at hF
    refine g_iload_n O (pc := 4) dX0_taskAt_4 1 rfl ?_
    refine g_aload_n O (pc := 5) dX0_taskAt_5 0 rfl ?_
    refine g_getI O (pc := 6) isC_X0 dX0_taskAt_6 fw_X0_15 (by decide) fd_SArm_0_1 ?_
    refine g_icmp_ge O (pc := 9) 21 dX0_taskAt_9 (by decide) (fun h2 => ?_) (fun h2 => ?_)
    · rw [if_pos h2] at hF
      refine g_sub [] (L' := []) rfl ?_
      exact c_X0_taskAt_b21 O _ _ hF
    · rw [if_neg h2] at hF
      refine g_aload_n O (pc := 12) dX0_taskAt_12 0 rfl ?_
      refine g_getR O (pc := 13) isC_X0 dX0_taskAt_13 fw_X0_9 (by decide) fd_SArm_0_0 ?_
      refine g_iload_n O (pc := 16) dX0_taskAt_16 1 rfl ?_
      obtain ⟨h3, hF⟩ := gd hF
      refine g_il O (pc := 17) dX0_taskAt_17 ar_SArm_1 h3 ?_
      refine g_goto O (pc := 18) 23 dX0_taskAt_18 (by decide) ?_
      refine g_sub [] (L' := []) rfl ?_
      exact c_X0_taskAt_b23 O _ _ _ hF

theorem mc_X0_taskAt {x1 : Int32} {I : IS} (J : JS) {q : Int32} (hF : f_X0_taskAt x1 I = some q) : MC yX0_taskAt cX0_taskAt 2 (some .int) (rm_ 0 0) SArm 2 [.ref (0), .int (x1)] I J (some (.int q), I, J) :=
  mc_of pn_X0 (Nat.le_of_ble_eq_true rfl) (fun z O => c_X0_taskAt_e O _ _ _ hF)

def f_X0_takeFar_b17 (x1 : Int32) (I : IS) : Option (Int32 × IS) :=
  some (x1, I)
set_option maxHeartbeats 4000000 in
set_option maxRecDepth 100000 in
theorem c_X0_takeFar_b17 {z : CTX} {J : JS} (O : OK z cX0_takeFar RX0 2 SArm 2 (rm_ 1 23) (some .int)) : ∀ (x1 : Int32) (I : IS) (q : Int32 × IS), f_X0_takeFar_b17 x1 I = some q → G z 17 [(1, .int (x1))] [] I J (some (.int q.1), q.2, J) := by
  intro x1 I q hF
  rw [f_X0_takeFar_b17] at hF
  refine g_iload_n O (pc := 17) dX0_takeFar_17 0 rfl ?_
  obtain rfl := Option.some.inj hF
  exact g_ireturn O (pc := 18) dX0_takeFar_18 rfl

def f_X0_takeFar (I : IS) : Option (Int32 × IS) :=
  (f_X0_taskAt ((0 : Int32)) I).bind fun q1 =>
  (if q1 = (-5 : Int32) then
  (f_X0_takeFar_b17 (q1) (I))
  else
  ((f_X0_drop (q1) I).bind fun q4 =>
  (f_X0_takeFar_b17 (q1) (q4))))
set_option maxHeartbeats 4000000 in
set_option maxRecDepth 100000 in
theorem c_X0_takeFar_e {z : CTX} {J : JS} (O : OK z cX0_takeFar RX0 2 SArm 2 (rm_ 1 23) (some .int)) : ∀ (I : IS) (q : Int32 × IS), f_X0_takeFar I = some q → G z 0 [(0, .ref (0))] [] I J (some (.int q.1), q.2, J) := by
  intro I q hF
  rw [f_X0_takeFar] at hF
  refine g_aload_n O (pc := 0) dX0_takeFar_0 0 rfl ?_
  refine g_iconst O (pc := 1) dX0_takeFar_1 (ic_0) ?_
  obtain ⟨q1, e2, hF⟩ := bnd hF
  refine g_Vi O (pc := 2) (st := []) dX0_takeFar_2 (mc_X0_taskAt J e2) cb_X0_taskAt ml_X0_34 isC_X0 ob_SArm (zm0 _ _ _ _ _ _ _) (rmok (Nat.le_of_ble_eq_true rfl) (Nat.le_of_ble_eq_true rfl)) (Nat.le_of_ble_eq_true rfl) rfl ?_
  refine g_istore_n O (pc := 5) (L' := [(1, .int (q1)), (0, .ref (0))]) dX0_takeFar_5 (by decide) rfl ?_
  refine g_iload_n O (pc := 6) dX0_takeFar_6 0 rfl ?_
  refine g_bipush O (pc := 7) dX0_takeFar_7 bp_m5 ?_
  refine g_icmp_eq O (pc := 9) 17 dX0_takeFar_9 (by decide) (fun h3 => ?_) (fun h3 => ?_)
  · rw [if_pos h3] at hF
    refine g_sub [0] (L' := [(1, .int (q1))]) rfl ?_
    exact c_X0_takeFar_b17 O _ _ _ hF
  · rw [if_neg h3] at hF
    refine g_aload_n O (pc := 12) dX0_takeFar_12 1 rfl ?_
    refine g_iload_n O (pc := 13) dX0_takeFar_13 0 rfl ?_
    obtain ⟨q4, e5, hF⟩ := bnd hF
    refine g_Vv O (pc := 14) (st := []) dX0_takeFar_14 (mc_X0_drop J e5) cb_X0_drop ml_X0_38 isC_X0 ob_SArm (zm0 _ _ _ _ _ _ _) (rmok (Nat.le_of_ble_eq_true rfl) (Nat.le_of_ble_eq_true rfl)) (Nat.le_of_ble_eq_true rfl) rfl ?_
    refine g_sub [0] (L' := [(1, .int (q1))]) rfl ?_
    exact c_X0_takeFar_b17 O _ _ _ hF

theorem mc_X0_takeFar {I : IS} (J : JS) {q : Int32 × IS} (hF : f_X0_takeFar I = some q) : MC yX0_takeFar cX0_takeFar 2 (some .int) (rm_ 1 23) SArm 2 [.ref (0)] I J (some (.int q.1), q.2, J) :=
  mc_of pn_X0 (Nat.le_of_ble_eq_true rfl) (fun z O => c_X0_takeFar_e O _ _ hF)

def f_X0_takeNear_b27 (x1 : Int32) (I : IS) : Option (Int32 × IS) :=
  some (x1, I)
set_option maxHeartbeats 4000000 in
set_option maxRecDepth 100000 in
theorem c_X0_takeNear_b27 {z : CTX} {J : JS} (O : OK z cX0_takeNear RX0 2 SArm 2 (rm_ 1 21) (some .int)) : ∀ (x1 : Int32) (I : IS) (q : Int32 × IS), f_X0_takeNear_b27 x1 I = some q → G z 27 [(1, .int (x1))] [] I J (some (.int q.1), q.2, J) := by
  intro x1 I q hF
  rw [f_X0_takeNear_b27] at hF
  refine g_iload_n O (pc := 27) dX0_takeNear_27 0 rfl ?_
  obtain rfl := Option.some.inj hF
  exact g_ireturn O (pc := 28) dX0_takeNear_28 rfl

def f_X0_takeNear (I : IS) : Option (Int32 × IS) :=
  (f_X0_taskAt (((I (0) 1) - (1 : Int32))) I).bind fun q1 =>
  (if q1 = (-5 : Int32) then
  (f_X0_takeNear_b27 (q1) (I))
  else
  (f_X0_takeNear_b27 (q1) ((u2 I (0) 1 (((I (0) 1) - (1 : Int32)))))))
set_option maxHeartbeats 4000000 in
set_option maxRecDepth 100000 in
theorem c_X0_takeNear_e {z : CTX} {J : JS} (O : OK z cX0_takeNear RX0 2 SArm 2 (rm_ 1 21) (some .int)) : ∀ (I : IS) (q : Int32 × IS), f_X0_takeNear I = some q → G z 0 [(0, .ref (0))] [] I J (some (.int q.1), q.2, J) := by
  intro I q hF
  rw [f_X0_takeNear] at hF
  refine g_aload_n O (pc := 0) dX0_takeNear_0 0 rfl ?_
  refine g_aload_n O (pc := 1) dX0_takeNear_1 0 rfl ?_
  refine g_getI O (pc := 2) isC_X0 dX0_takeNear_2 fw_X0_15 (by decide) fd_SArm_0_1 ?_
  refine g_iconst O (pc := 5) dX0_takeNear_5 (ic_1) ?_
  refine g_isub O (pc := 6) dX0_takeNear_6 ?_
  obtain ⟨q1, e2, hF⟩ := bnd hF
  refine g_Vi O (pc := 7) (st := []) dX0_takeNear_7 (mc_X0_taskAt J e2) cb_X0_taskAt ml_X0_34 isC_X0 ob_SArm (zm0 _ _ _ _ _ _ _) (rmok (Nat.le_of_ble_eq_true rfl) (Nat.le_of_ble_eq_true rfl)) (Nat.le_of_ble_eq_true rfl) rfl ?_
  refine g_istore_n O (pc := 10) (L' := [(1, .int (q1)), (0, .ref (0))]) dX0_takeNear_10 (by decide) rfl ?_
  refine g_iload_n O (pc := 11) dX0_takeNear_11 0 rfl ?_
  refine g_bipush O (pc := 12) dX0_takeNear_12 bp_m5 ?_
  refine g_icmp_eq O (pc := 14) 27 dX0_takeNear_14 (by decide) (fun h3 => ?_) (fun h3 => ?_)
  · rw [if_pos h3] at hF
    refine g_sub [0] (L' := [(1, .int (q1))]) rfl ?_
    exact c_X0_takeNear_b27 O _ _ _ hF
  · rw [if_neg h3] at hF
    refine g_aload_n O (pc := 17) dX0_takeNear_17 1 rfl ?_
    refine g_dup O (pc := 18) dX0_takeNear_18 rfl ?_
    refine g_getI O (pc := 19) isC_X0 dX0_takeNear_19 fw_X0_15 (by decide) fd_SArm_0_1 ?_
    refine g_iconst O (pc := 22) dX0_takeNear_22 (ic_1) ?_
    refine g_isub O (pc := 23) dX0_takeNear_23 ?_
    refine g_putI O (pc := 24) isC_X0 isT_X0 dX0_takeNear_24 fw_X0_15 (by decide) rfl rfl fd_SArm_0_1 ?_
    refine g_sub [0] (L' := [(1, .int (q1))]) rfl ?_
    exact c_X0_takeNear_b27 O _ _ _ hF

theorem mc_X0_takeNear {I : IS} (J : JS) {q : Int32 × IS} (hF : f_X0_takeNear I = some q) : MC yX0_takeNear cX0_takeNear 2 (some .int) (rm_ 1 21) SArm 2 [.ref (0)] I J (some (.int q.1), q.2, J) :=
  mc_of pn_X0 (Nat.le_of_ble_eq_true rfl) (fun z O => c_X0_takeNear_e O _ _ hF)

def f_X1_add_b82 (x4 : Int32) (I : IS) : Option (IS) :=
  if (40 : Int32) ≤ (I (0) 5) then
  (some (I))
  else
  (if okI ((I (0) 5)) 40 = true then
  ((some (u2 (u2 I (5) ((I (0) 5)).toNatClampNeg (x4)) (0) 5 ((((u2 I (5) ((I (0) 5)).toNatClampNeg (x4)) (0) 5) + (1 : Int32))))).bind fun I3 =>
  (some (I3)))
  else none)
set_option maxHeartbeats 4000000 in
set_option maxRecDepth 100000 in
theorem c_X1_add_b82 {z : CTX} {J : JS} (O : OK z cX1_add RX1 6 SEnt 6 (rm_ 0 0) none) : ∀ (x4 : Int32) (I : IS) (q : IS), f_X1_add_b82 x4 I = some q → G z 82 [(0, .ref (0)), (4, .int (x4))] [] I J (none, q, J) := by
  intro x4 I q hF
  rw [f_X1_add_b82] at hF
  refine g_aload_n O (pc := 82) dX1_add_82 0 rfl ?_
  refine g_getI O (pc := 83) isC_X1 dX1_add_83 fw_X1_27 (by decide) fd_SEnt_0_5 ?_
  refine g_bipush O (pc := 86) dX1_add_86 bp_40 ?_
  refine g_icmp_ge O (pc := 88) 112 dX1_add_88 (by decide) (fun h1 => ?_) (fun h1 => ?_)
  · rw [if_pos h1] at hF
    obtain rfl := Option.some.inj hF
    exact g_return O (pc := 112) dX1_add_112 rfl
  · rw [if_neg h1] at hF
    refine g_aload_n O (pc := 91) dX1_add_91 0 rfl ?_
    refine g_getR O (pc := 92) isC_X1 dX1_add_92 fw_X1_24 (by decide) fd_SEnt_0_4 ?_
    refine g_aload_n O (pc := 95) dX1_add_95 0 rfl ?_
    refine g_getI O (pc := 96) isC_X1 dX1_add_96 fw_X1_27 (by decide) fd_SEnt_0_5 ?_
    refine g_iload O (pc := 99) dX1_add_99 1 rfl ?_
    obtain ⟨h2, hF⟩ := gd hF
    refine g_is O (pc := 101) dX1_add_101 ar_SEnt_5 h2 ?_
    refine g_aload_n O (pc := 102) dX1_add_102 0 rfl ?_
    refine g_dup O (pc := 103) dX1_add_103 rfl ?_
    refine g_getI O (pc := 104) isC_X1 dX1_add_104 fw_X1_27 (by decide) fd_SEnt_0_5 ?_
    refine g_iconst O (pc := 107) dX1_add_107 (ic_1) ?_
    refine g_iadd O (pc := 108) dX1_add_108 ?_
    refine g_putI O (pc := 109) isC_X1 isT_X1 dX1_add_109 fw_X1_27 (by decide) rfl rfl fd_SEnt_0_5 ?_
    obtain ⟨I3, g4, hF⟩ := bnd hF
    refine g_nmI (Option.some.inj g4) ?_
    obtain rfl := Option.some.inj hF
    exact g_return O (pc := 112) dX1_add_112 rfl

def f_X1_add (x1 : Int32) (x2 : Int32) (x3 : Int32) (x4 : Int32) (I : IS) : Option (IS) :=
  if okD ((40 : Int32)) = true then
  (if okI ((((I (0) 6) + (I (0) 7)) - ((I (0) 6) + (I (0) 7)) / (40 : Int32) * (40 : Int32))) 40 = true then
  ((some (u2 I (1) ((((I (0) 6) + (I (0) 7)) - ((I (0) 6) + (I (0) 7)) / (40 : Int32) * (40 : Int32))).toNatClampNeg (x1))).bind fun I3 =>
  (if okI ((((I (0) 6) + (I (0) 7)) - ((I (0) 6) + (I (0) 7)) / (40 : Int32) * (40 : Int32))) 40 = true then
  ((some (u2 I3 (2) ((((I (0) 6) + (I (0) 7)) - ((I (0) 6) + (I (0) 7)) / (40 : Int32) * (40 : Int32))).toNatClampNeg (x2))).bind fun I6 =>
  (if okI ((((I (0) 6) + (I (0) 7)) - ((I (0) 6) + (I (0) 7)) / (40 : Int32) * (40 : Int32))) 40 = true then
  ((some (u2 I6 (3) ((((I (0) 6) + (I (0) 7)) - ((I (0) 6) + (I (0) 7)) / (40 : Int32) * (40 : Int32))).toNatClampNeg (x3))).bind fun I9 =>
  (if okI ((((I (0) 6) + (I (0) 7)) - ((I (0) 6) + (I (0) 7)) / (40 : Int32) * (40 : Int32))) 40 = true then
  ((some (u2 I9 (4) ((((I (0) 6) + (I (0) 7)) - ((I (0) 6) + (I (0) 7)) / (40 : Int32) * (40 : Int32))).toNatClampNeg (x4))).bind fun I12 =>
  (if (40 : Int32) ≤ (I12 (0) 7) then
  (if okD ((40 : Int32)) = true then
  (f_X1_add_b82 (x4) ((u2 I12 (0) 6 ((((I12 (0) 6) + (1 : Int32)) - ((I12 (0) 6) + (1 : Int32)) / (40 : Int32) * (40 : Int32))))))
  else none)
  else
  (f_X1_add_b82 (x4) ((u2 I12 (0) 7 (((I12 (0) 7) + (1 : Int32))))))))
  else none))
  else none))
  else none))
  else none)
  else none
set_option maxHeartbeats 4000000 in
set_option maxRecDepth 100000 in
theorem c_X1_add_e {z : CTX} {J : JS} (O : OK z cX1_add RX1 6 SEnt 6 (rm_ 0 0) none) : ∀ (x1 : Int32) (x2 : Int32) (x3 : Int32) (x4 : Int32) (I : IS) (q : IS), f_X1_add x1 x2 x3 x4 I = some q → G z 0 [(0, .ref (0)), (1, .int (x1)), (2, .int (x2)), (3, .int (x3)), (4, .int (x4))] [] I J (none, q, J) := by
  intro x1 x2 x3 x4 I q hF
  rw [f_X1_add] at hF
  refine g_aload_n O (pc := 0) dX1_add_0 0 rfl ?_
  refine g_getI O (pc := 1) isC_X1 dX1_add_1 fw_X1_31 (by decide) fd_SEnt_0_6 ?_
  refine g_aload_n O (pc := 4) dX1_add_4 0 rfl ?_
  refine g_getI O (pc := 5) isC_X1 dX1_add_5 fw_X1_34 (by decide) fd_SEnt_0_7 ?_
  refine g_iadd O (pc := 8) dX1_add_8 ?_
  refine g_bipush O (pc := 9) dX1_add_9 bp_40 ?_
  obtain ⟨h1, hF⟩ := gd hF
  refine g_irem O (pc := 11) dX1_add_11 (okD_n h1) ?_
  refine g_istore O (pc := 12) (L' := [(5, .int ((((I (0) 6) + (I (0) 7)) - ((I (0) 6) + (I (0) 7)) / (40 : Int32) * (40 : Int32)))), (0, .ref (0)), (1, .int (x1)), (2, .int (x2)), (3, .int (x3)), (4, .int (x4))]) dX1_add_12 (by decide) rfl ?_
  refine g_aload_n O (pc := 14) dX1_add_14 1 rfl ?_
  refine g_getR O (pc := 15) isC_X1 dX1_add_15 fw_X1_9 (by decide) fd_SEnt_0_0 ?_
  refine g_iload O (pc := 18) dX1_add_18 0 rfl ?_
  refine g_iload_n O (pc := 20) dX1_add_20 2 rfl ?_
  obtain ⟨h2, hF⟩ := gd hF
  refine g_is O (pc := 21) dX1_add_21 ar_SEnt_1 h2 ?_
  obtain ⟨I3, g4, hF⟩ := bnd hF
  refine g_nmI (Option.some.inj g4) ?_
  refine g_aload_n O (pc := 22) dX1_add_22 1 rfl ?_
  refine g_getR O (pc := 23) isC_X1 dX1_add_23 fw_X1_15 (by decide) fd_SEnt_0_1 ?_
  refine g_iload O (pc := 26) dX1_add_26 0 rfl ?_
  refine g_iload_n O (pc := 28) dX1_add_28 3 rfl ?_
  obtain ⟨h5, hF⟩ := gd hF
  refine g_is O (pc := 29) dX1_add_29 ar_SEnt_2 h5 ?_
  obtain ⟨I6, g7, hF⟩ := bnd hF
  refine g_nmI (Option.some.inj g7) ?_
  refine g_aload_n O (pc := 30) dX1_add_30 1 rfl ?_
  refine g_getR O (pc := 31) isC_X1 dX1_add_31 fw_X1_18 (by decide) fd_SEnt_0_2 ?_
  refine g_iload O (pc := 34) dX1_add_34 0 rfl ?_
  refine g_iload_n O (pc := 36) dX1_add_36 4 rfl ?_
  obtain ⟨h8, hF⟩ := gd hF
  refine g_is O (pc := 37) dX1_add_37 ar_SEnt_3 h8 ?_
  obtain ⟨I9, g10, hF⟩ := bnd hF
  refine g_nmI (Option.some.inj g10) ?_
  refine g_aload_n O (pc := 38) dX1_add_38 1 rfl ?_
  refine g_getR O (pc := 39) isC_X1 dX1_add_39 fw_X1_21 (by decide) fd_SEnt_0_3 ?_
  refine g_iload O (pc := 42) dX1_add_42 0 rfl ?_
  refine g_iload O (pc := 44) dX1_add_44 5 rfl ?_
  obtain ⟨h11, hF⟩ := gd hF
  refine g_is O (pc := 46) dX1_add_46 ar_SEnt_4 h11 ?_
  obtain ⟨I12, g13, hF⟩ := bnd hF
  refine g_nmI (Option.some.inj g13) ?_
  refine g_aload_n O (pc := 47) dX1_add_47 1 rfl ?_
  refine g_getI O (pc := 48) isC_X1 dX1_add_48 fw_X1_34 (by decide) fd_SEnt_0_7 ?_
  refine g_bipush O (pc := 51) dX1_add_51 bp_40 ?_
  refine g_icmp_ge O (pc := 53) 69 dX1_add_53 (by decide) (fun h14 => ?_) (fun h14 => ?_)
  · rw [if_pos h14] at hF
    refine g_aload_n O (pc := 69) dX1_add_69 1 rfl ?_
    refine g_aload_n O (pc := 70) dX1_add_70 1 rfl ?_
    refine g_getI O (pc := 71) isC_X1 dX1_add_71 fw_X1_31 (by decide) fd_SEnt_0_6 ?_
    refine g_iconst O (pc := 74) dX1_add_74 (ic_1) ?_
    refine g_iadd O (pc := 75) dX1_add_75 ?_
    refine g_bipush O (pc := 76) dX1_add_76 bp_40 ?_
    obtain ⟨h15, hF⟩ := gd hF
    refine g_irem O (pc := 78) dX1_add_78 (okD_n h15) ?_
    refine g_putI O (pc := 79) isC_X1 isT_X1 dX1_add_79 fw_X1_31 (by decide) rfl rfl fd_SEnt_0_6 ?_
    refine g_sub [1, 5] (L' := [(0, .ref (0)), (4, .int (x4))]) rfl ?_
    exact c_X1_add_b82 O _ _ _ hF
  · rw [if_neg h14] at hF
    refine g_aload_n O (pc := 56) dX1_add_56 1 rfl ?_
    refine g_dup O (pc := 57) dX1_add_57 rfl ?_
    refine g_getI O (pc := 58) isC_X1 dX1_add_58 fw_X1_34 (by decide) fd_SEnt_0_7 ?_
    refine g_iconst O (pc := 61) dX1_add_61 (ic_1) ?_
    refine g_iadd O (pc := 62) dX1_add_62 ?_
    refine g_putI O (pc := 63) isC_X1 isT_X1 dX1_add_63 fw_X1_34 (by decide) rfl rfl fd_SEnt_0_7 ?_
    refine g_goto O (pc := 66) 82 dX1_add_66 (by decide) ?_
    refine g_sub [1, 5] (L' := [(0, .ref (0)), (4, .int (x4))]) rfl ?_
    exact c_X1_add_b82 O _ _ _ hF

theorem mc_X1_add {x1 : Int32} {x2 : Int32} {x3 : Int32} {x4 : Int32} {I : IS} (J : JS) {q : IS} (hF : f_X1_add x1 x2 x3 x4 I = some q) : MC yX1_add cX1_add 6 none (rm_ 0 0) SEnt 6 [.ref (0), .int (x1), .int (x2), .int (x3), .int (x4)] I J (none, q, J) :=
  mc_of pn_X1 (Nat.le_of_ble_eq_true rfl) (fun z O => c_X1_add_e O _ _ _ _ _ _ hF)

def f_X1_become (I : IS) : Option (IS) :=
  if okC ((0 : Int32)) ((0 : Int32)) ((40 : Int32)) 40 40 = true then
  ((some (u1 I (1) (va_cpy (I (7)) (I (1)) ((0 : Int32)).toNatClampNeg ((0 : Int32)).toNatClampNeg ((40 : Int32)).toNatClampNeg))).bind fun I2 =>
  (if okC ((0 : Int32)) ((0 : Int32)) ((40 : Int32)) 40 40 = true then
  ((some (u1 I2 (2) (va_cpy (I2 (8)) (I2 (2)) ((0 : Int32)).toNatClampNeg ((0 : Int32)).toNatClampNeg ((40 : Int32)).toNatClampNeg))).bind fun I5 =>
  (if okC ((0 : Int32)) ((0 : Int32)) ((40 : Int32)) 40 40 = true then
  ((some (u1 I5 (3) (va_cpy (I5 (9)) (I5 (3)) ((0 : Int32)).toNatClampNeg ((0 : Int32)).toNatClampNeg ((40 : Int32)).toNatClampNeg))).bind fun I8 =>
  (if okC ((0 : Int32)) ((0 : Int32)) ((40 : Int32)) 40 40 = true then
  ((some (u1 I8 (4) (va_cpy (I8 (10)) (I8 (4)) ((0 : Int32)).toNatClampNeg ((0 : Int32)).toNatClampNeg ((40 : Int32)).toNatClampNeg))).bind fun I11 =>
  (some ((u2 (u2 I11 (0) 6 ((I11 (6) 6))) (0) 7 (((u2 I11 (0) 6 ((I11 (6) 6))) (6) 7))))))
  else none))
  else none))
  else none))
  else none
set_option maxHeartbeats 4000000 in
set_option maxRecDepth 100000 in
theorem c_X1_become_e {z : CTX} {J : JS} (O : OK z cX1_become RX1 2 (dbl 6 SEnt) 12 (rm_ 1 18) none) : ∀ (I : IS) (q : IS), f_X1_become I = some q → G z 0 [(0, .ref (0)), (1, .ref (6))] [] I J (none, q, J) := by
  intro I q hF
  rw [f_X1_become] at hF
  refine g_aload_n O (pc := 0) dX1_become_0 1 rfl ?_
  refine g_getR O (pc := 1) isC_X1 dX1_become_1 fw_X1_9 (by decide) fd_dbl_6_SEnt_6_0 ?_
  refine g_iconst O (pc := 4) dX1_become_4 (ic_0) ?_
  refine g_aload_n O (pc := 5) dX1_become_5 0 rfl ?_
  refine g_getR O (pc := 6) isC_X1 dX1_become_6 fw_X1_9 (by decide) fd_dbl_6_SEnt_0_0 ?_
  refine g_iconst O (pc := 9) dX1_become_9 (ic_0) ?_
  refine g_bipush O (pc := 10) dX1_become_10 bp_40 ?_
  obtain ⟨h1, hF⟩ := gd hF
  refine g_copyI O (pc := 12) (st := []) dX1_become_12 ml_X1_37 acn acs aci ar_dbl_6_SEnt_7 ar_dbl_6_SEnt_1 h1 (by decide) (Nat.le_of_ble_eq_true rfl) ?_
  obtain ⟨I2, g3, hF⟩ := bnd hF
  refine g_nmI (Option.some.inj g3) ?_
  refine g_aload_n O (pc := 15) dX1_become_15 1 rfl ?_
  refine g_getR O (pc := 16) isC_X1 dX1_become_16 fw_X1_15 (by decide) fd_dbl_6_SEnt_6_1 ?_
  refine g_iconst O (pc := 19) dX1_become_19 (ic_0) ?_
  refine g_aload_n O (pc := 20) dX1_become_20 0 rfl ?_
  refine g_getR O (pc := 21) isC_X1 dX1_become_21 fw_X1_15 (by decide) fd_dbl_6_SEnt_0_1 ?_
  refine g_iconst O (pc := 24) dX1_become_24 (ic_0) ?_
  refine g_bipush O (pc := 25) dX1_become_25 bp_40 ?_
  obtain ⟨h4, hF⟩ := gd hF
  refine g_copyI O (pc := 27) (st := []) dX1_become_27 ml_X1_37 acn acs aci ar_dbl_6_SEnt_8 ar_dbl_6_SEnt_2 h4 (by decide) (Nat.le_of_ble_eq_true rfl) ?_
  obtain ⟨I5, g6, hF⟩ := bnd hF
  refine g_nmI (Option.some.inj g6) ?_
  refine g_aload_n O (pc := 30) dX1_become_30 1 rfl ?_
  refine g_getR O (pc := 31) isC_X1 dX1_become_31 fw_X1_18 (by decide) fd_dbl_6_SEnt_6_2 ?_
  refine g_iconst O (pc := 34) dX1_become_34 (ic_0) ?_
  refine g_aload_n O (pc := 35) dX1_become_35 0 rfl ?_
  refine g_getR O (pc := 36) isC_X1 dX1_become_36 fw_X1_18 (by decide) fd_dbl_6_SEnt_0_2 ?_
  refine g_iconst O (pc := 39) dX1_become_39 (ic_0) ?_
  refine g_bipush O (pc := 40) dX1_become_40 bp_40 ?_
  obtain ⟨h7, hF⟩ := gd hF
  refine g_copyI O (pc := 42) (st := []) dX1_become_42 ml_X1_37 acn acs aci ar_dbl_6_SEnt_9 ar_dbl_6_SEnt_3 h7 (by decide) (Nat.le_of_ble_eq_true rfl) ?_
  obtain ⟨I8, g9, hF⟩ := bnd hF
  refine g_nmI (Option.some.inj g9) ?_
  refine g_aload_n O (pc := 45) dX1_become_45 1 rfl ?_
  refine g_getR O (pc := 46) isC_X1 dX1_become_46 fw_X1_21 (by decide) fd_dbl_6_SEnt_6_3 ?_
  refine g_iconst O (pc := 49) dX1_become_49 (ic_0) ?_
  refine g_aload_n O (pc := 50) dX1_become_50 0 rfl ?_
  refine g_getR O (pc := 51) isC_X1 dX1_become_51 fw_X1_21 (by decide) fd_dbl_6_SEnt_0_3 ?_
  refine g_iconst O (pc := 54) dX1_become_54 (ic_0) ?_
  refine g_bipush O (pc := 55) dX1_become_55 bp_40 ?_
  obtain ⟨h10, hF⟩ := gd hF
  refine g_copyI O (pc := 57) (st := []) dX1_become_57 ml_X1_37 acn acs aci ar_dbl_6_SEnt_10 ar_dbl_6_SEnt_4 h10 (by decide) (Nat.le_of_ble_eq_true rfl) ?_
  obtain ⟨I11, g12, hF⟩ := bnd hF
  refine g_nmI (Option.some.inj g12) ?_
  refine g_aload_n O (pc := 60) dX1_become_60 0 rfl ?_
  refine g_aload_n O (pc := 61) dX1_become_61 1 rfl ?_
  refine g_getI O (pc := 62) isC_X1 dX1_become_62 fw_X1_31 (by decide) fd_dbl_6_SEnt_6_6 ?_
  refine g_putI O (pc := 65) isC_X1 isT_X1 dX1_become_65 fw_X1_31 (by decide) rfl rfl fd_dbl_6_SEnt_0_6 ?_
  refine g_aload_n O (pc := 68) dX1_become_68 0 rfl ?_
  refine g_aload_n O (pc := 69) dX1_become_69 1 rfl ?_
  refine g_getI O (pc := 70) isC_X1 dX1_become_70 fw_X1_34 (by decide) fd_dbl_6_SEnt_6_7 ?_
  refine g_putI O (pc := 73) isC_X1 isT_X1 dX1_become_73 fw_X1_34 (by decide) rfl rfl fd_dbl_6_SEnt_0_7 ?_
  obtain rfl := Option.some.inj hF
  exact g_return O (pc := 76) dX1_become_76 rfl

theorem mc_X1_become {I : IS} (J : JS) {q : IS} (hF : f_X1_become I = some q) : MC yX1_become cX1_become 2 none (rm_ 1 18) (dbl 6 SEnt) 12 [.ref (0), .ref (6)] I J (none, q, J) :=
  mc_of pn_X1 (Nat.le_of_ble_eq_true rfl) (fun z O => c_X1_become_e O _ _ hF)

def f_X1_entry_b12 (I : IS) : Option (Int32) :=
  some ((-1 : Int32))
set_option maxHeartbeats 4000000 in
set_option maxRecDepth 100000 in
theorem c_X1_entry_b12 {z : CTX} {J : JS} (O : OK z cX1_entry RX1 4 SEnt 6 (rm_ 0 0) (some .int)) : ∀ (I : IS) (q : Int32), f_X1_entry_b12 I = some q → G z 12 [] [] I J (some (.int q), I, J) := by
  intro I q hF
  rw [f_X1_entry_b12] at hF
  refine g_iconst O (pc := 12) dX1_entry_12 (ic_m1) ?_
  obtain rfl := Option.some.inj hF
  exact g_ireturn O (pc := 13) dX1_entry_13 rfl

def f_X1_entry (x1 : Int32) (x2 : Int32) (I : IS) : Option (Int32) :=
  if x1 < 0 then
  (f_X1_entry_b12 (I))
  else
  (if x1 < (I (0) 7) then
  (if okD ((40 : Int32)) = true then
  (if x2 = 0 then
  (if okI ((((I (0) 6) + x1) - ((I (0) 6) + x1) / (40 : Int32) * (40 : Int32))) 40 = true then
  (some ((I (1) ((((I (0) 6) + x1) - ((I (0) 6) + x1) / (40 : Int32) * (40 : Int32))).toNatClampNeg)))
  else none)
  else if x2 = 1 then
  (if okI ((((I (0) 6) + x1) - ((I (0) 6) + x1) / (40 : Int32) * (40 : Int32))) 40 = true then
  (some ((I (2) ((((I (0) 6) + x1) - ((I (0) 6) + x1) / (40 : Int32) * (40 : Int32))).toNatClampNeg)))
  else none)
  else if x2 = 2 then
  (if okI ((((I (0) 6) + x1) - ((I (0) 6) + x1) / (40 : Int32) * (40 : Int32))) 40 = true then
  (some ((I (3) ((((I (0) 6) + x1) - ((I (0) 6) + x1) / (40 : Int32) * (40 : Int32))).toNatClampNeg)))
  else none)
  else if x2 = 3 then
  (if okI ((((I (0) 6) + x1) - ((I (0) 6) + x1) / (40 : Int32) * (40 : Int32))) 40 = true then
  (some ((I (4) ((((I (0) 6) + x1) - ((I (0) 6) + x1) / (40 : Int32) * (40 : Int32))).toNatClampNeg)))
  else none)
  else (some ((-1 : Int32))))
  else none)
  else
  (f_X1_entry_b12 (I)))
set_option maxHeartbeats 4000000 in
set_option maxRecDepth 100000 in
theorem c_X1_entry_e {z : CTX} {J : JS} (O : OK z cX1_entry RX1 4 SEnt 6 (rm_ 0 0) (some .int)) : ∀ (x1 : Int32) (x2 : Int32) (I : IS) (q : Int32), f_X1_entry x1 x2 I = some q → G z 0 [(0, .ref (0)), (1, .int (x1)), (2, .int (x2))] [] I J (some (.int q), I, J) := by
  intro x1 x2 I q hF
  rw [f_X1_entry] at hF
  refine g_iload_n O (pc := 0) dX1_entry_0 1 rfl ?_
  refine g_if_lt O (pc := 1) 12 dX1_entry_1 (by decide) (fun h1 => ?_) (fun h1 => ?_)
  · rw [if_pos h1] at hF
    refine g_sub [] (L' := []) rfl ?_
    exact c_X1_entry_b12 O _ _ hF
  · rw [if_neg h1] at hF
    refine g_iload_n O (pc := 4) dX1_entry_4 1 rfl ?_
    refine g_aload_n O (pc := 5) dX1_entry_5 0 rfl ?_
    refine g_getI O (pc := 6) isC_X1 dX1_entry_6 fw_X1_34 (by decide) fd_SEnt_0_7 ?_
    refine g_icmp_lt O (pc := 9) 14 dX1_entry_9 (by decide) (fun h2 => ?_) (fun h2 => ?_)
    · rw [if_pos h2] at hF
      refine g_aload_n O (pc := 14) dX1_entry_14 0 rfl ?_
      refine g_getI O (pc := 15) isC_X1 dX1_entry_15 fw_X1_31 (by decide) fd_SEnt_0_6 ?_
      refine g_iload_n O (pc := 18) dX1_entry_18 1 rfl ?_
      refine g_iadd O (pc := 19) dX1_entry_19 ?_
      refine g_bipush O (pc := 20) dX1_entry_20 bp_40 ?_
      obtain ⟨h3, hF⟩ := gd hF
      refine g_irem O (pc := 22) dX1_entry_22 (okD_n h3) ?_
      refine g_istore_n O (pc := 23) (L' := [(3, .int ((((I (0) 6) + x1) - ((I (0) 6) + x1) / (40 : Int32) * (40 : Int32)))), (0, .ref (0)), (1, .int (x1)), (2, .int (x2))]) dX1_entry_23 (by decide) rfl ?_
      refine g_iload_n O (pc := 24) dX1_entry_24 3 rfl ?_
      by_cases h4 : x2 = 0
      · rw [if_pos h4] at hF
        refine g_tabIn O (pc := 25) (31) 56 dX1_entry_25 h4 (by decide) (by decide) rfl (by decide) ?_
        refine g_aload_n O (pc := 56) dX1_entry_56 1 rfl ?_
        refine g_getR O (pc := 57) isC_X1 dX1_entry_57 fw_X1_9 (by decide) fd_SEnt_0_0 ?_
        refine g_iload_n O (pc := 60) dX1_entry_60 0 rfl ?_
        obtain ⟨h5, hF⟩ := gd hF
        refine g_il O (pc := 61) dX1_entry_61 ar_SEnt_1 h5 ?_
        obtain rfl := Option.some.inj hF
        exact g_ireturn O (pc := 62) dX1_entry_62 rfl
      rw [if_neg h4] at hF
      by_cases h6 : x2 = 1
      · rw [if_pos h6] at hF
        refine g_tabIn O (pc := 25) (38) 63 dX1_entry_25 h6 (by decide) (by decide) rfl (by decide) ?_
        refine g_aload_n O (pc := 63) dX1_entry_63 1 rfl ?_
        refine g_getR O (pc := 64) isC_X1 dX1_entry_64 fw_X1_15 (by decide) fd_SEnt_0_1 ?_
        refine g_iload_n O (pc := 67) dX1_entry_67 0 rfl ?_
        obtain ⟨h7, hF⟩ := gd hF
        refine g_il O (pc := 68) dX1_entry_68 ar_SEnt_2 h7 ?_
        obtain rfl := Option.some.inj hF
        exact g_ireturn O (pc := 69) dX1_entry_69 rfl
      rw [if_neg h6] at hF
      by_cases h8 : x2 = 2
      · rw [if_pos h8] at hF
        refine g_tabIn O (pc := 25) (45) 70 dX1_entry_25 h8 (by decide) (by decide) rfl (by decide) ?_
        refine g_aload_n O (pc := 70) dX1_entry_70 1 rfl ?_
        refine g_getR O (pc := 71) isC_X1 dX1_entry_71 fw_X1_18 (by decide) fd_SEnt_0_2 ?_
        refine g_iload_n O (pc := 74) dX1_entry_74 0 rfl ?_
        obtain ⟨h9, hF⟩ := gd hF
        refine g_il O (pc := 75) dX1_entry_75 ar_SEnt_3 h9 ?_
        obtain rfl := Option.some.inj hF
        exact g_ireturn O (pc := 76) dX1_entry_76 rfl
      rw [if_neg h8] at hF
      by_cases h10 : x2 = 3
      · rw [if_pos h10] at hF
        refine g_tabIn O (pc := 25) (52) 77 dX1_entry_25 h10 (by decide) (by decide) rfl (by decide) ?_
        refine g_aload_n O (pc := 77) dX1_entry_77 1 rfl ?_
        refine g_getR O (pc := 78) isC_X1 dX1_entry_78 fw_X1_21 (by decide) fd_SEnt_0_3 ?_
        refine g_iload_n O (pc := 81) dX1_entry_81 0 rfl ?_
        obtain ⟨h11, hF⟩ := gd hF
        refine g_il O (pc := 82) dX1_entry_82 ar_SEnt_4 h11 ?_
        obtain rfl := Option.some.inj hF
        exact g_ireturn O (pc := 83) dX1_entry_83 rfl
      rw [if_neg h10] at hF
      have ih4 : ¬ (x2).toInt = 0 := fun q => h4 (Int32.toInt_inj.mp q)
      have ih6 : ¬ (x2).toInt = 1 := fun q => h6 (Int32.toInt_inj.mp q)
      have ih8 : ¬ (x2).toInt = 2 := fun q => h8 (Int32.toInt_inj.mp q)
      have ih10 : ¬ (x2).toInt = 3 := fun q => h10 (Int32.toInt_inj.mp q)
      refine g_tabOut O (pc := 25) 84 dX1_entry_25 (by omega) (by decide) ?_
      refine g_iconst O (pc := 84) dX1_entry_84 (ic_m1) ?_
      obtain rfl := Option.some.inj hF
      exact g_ireturn O (pc := 85) dX1_entry_85 rfl
    · rw [if_neg h2] at hF
      refine g_sub [] (L' := []) rfl ?_
      exact c_X1_entry_b12 O _ _ hF

theorem mc_X1_entry {x1 : Int32} {x2 : Int32} {I : IS} (J : JS) {q : Int32} (hF : f_X1_entry x1 x2 I = some q) : MC yX1_entry cX1_entry 4 (some .int) (rm_ 0 0) SEnt 6 [.ref (0), .int (x1), .int (x2)] I J (some (.int q), I, J) :=
  mc_of pn_X1 (Nat.le_of_ble_eq_true rfl) (fun z O => c_X1_entry_e O _ _ _ _ hF)

def f_X1_watch (I : IS) : Option (IS) :=
  some ((u2 I (0) 5 ((0 : Int32))))
set_option maxHeartbeats 4000000 in
set_option maxRecDepth 100000 in
theorem c_X1_watch_e {z : CTX} {J : JS} (O : OK z cX1_watch RX1 1 SEnt 6 (rm_ 0 0) none) : ∀ (I : IS) (q : IS), f_X1_watch I = some q → G z 0 [(0, .ref (0))] [] I J (none, q, J) := by
  intro I q hF
  rw [f_X1_watch] at hF
  refine g_aload_n O (pc := 0) dX1_watch_0 0 rfl ?_
  refine g_iconst O (pc := 1) dX1_watch_1 (ic_0) ?_
  refine g_putI O (pc := 2) isC_X1 isT_X1 dX1_watch_2 fw_X1_27 (by decide) rfl rfl fd_SEnt_0_5 ?_
  obtain rfl := Option.some.inj hF
  exact g_return O (pc := 5) dX1_watch_5 rfl

theorem mc_X1_watch {I : IS} (J : JS) {q : IS} (hF : f_X1_watch I = some q) : MC yX1_watch cX1_watch 1 none (rm_ 0 0) SEnt 6 [.ref (0)] I J (none, q, J) :=
  mc_of pn_X1 (Nat.le_of_ble_eq_true rfl) (fun z O => c_X1_watch_e O _ _ hF)

def f_X1_watchedTask_b23 (s0 : Int32) (I : IS) : Option (Int32) :=
  some (s0)
set_option maxHeartbeats 4000000 in
set_option maxRecDepth 100000 in
theorem c_X1_watchedTask_b23 {z : CTX} {J : JS} (O : OK z cX1_watchedTask RX1 2 SEnt 6 (rm_ 0 0) (some .int)) : ∀ (s0 : Int32) (I : IS) (q : Int32), f_X1_watchedTask_b23 s0 I = some q → G z 23 [] [.int (s0)] I J (some (.int q), I, J) := by
  intro s0 I q hF
  rw [f_X1_watchedTask_b23] at hF
  obtain rfl := Option.some.inj hF
  exact g_ireturn O (pc := 23) dX1_watchedTask_23 rfl

def f_X1_watchedTask_b21 (I : IS) : Option (Int32) :=
  f_X1_watchedTask_b23 ((-5 : Int32)) (I)
set_option maxHeartbeats 4000000 in
set_option maxRecDepth 100000 in
theorem c_X1_watchedTask_b21 {z : CTX} {J : JS} (O : OK z cX1_watchedTask RX1 2 SEnt 6 (rm_ 0 0) (some .int)) : ∀ (I : IS) (q : Int32), f_X1_watchedTask_b21 I = some q → G z 21 [] [] I J (some (.int q), I, J) := by
  intro I q hF
  rw [f_X1_watchedTask_b21] at hF
  refine g_bipush O (pc := 21) dX1_watchedTask_21 bp_m5 ?_
  refine g_sub [] (L' := []) rfl ?_
  exact c_X1_watchedTask_b23 O _ _ _ hF

def f_X1_watchedTask (x1 : Int32) (I : IS) : Option (Int32) :=
  if x1 < 0 then
  (f_X1_watchedTask_b21 (I))
  else
  (if (I (0) 5) ≤ x1 then
  (f_X1_watchedTask_b21 (I))
  else
  (if okI (x1) 40 = true then
  (f_X1_watchedTask_b23 ((I (5) (x1).toNatClampNeg)) (I))
  else none))
set_option maxHeartbeats 4000000 in
set_option maxRecDepth 100000 in
theorem c_X1_watchedTask_e {z : CTX} {J : JS} (O : OK z cX1_watchedTask RX1 2 SEnt 6 (rm_ 0 0) (some .int)) : ∀ (x1 : Int32) (I : IS) (q : Int32), f_X1_watchedTask x1 I = some q → G z 0 [(0, .ref (0)), (1, .int (x1))] [] I J (some (.int q), I, J) := by
  intro x1 I q hF
  rw [f_X1_watchedTask] at hF
  refine g_iload_n O (pc := 0) dX1_watchedTask_0 1 rfl ?_
  refine g_if_lt O (pc := 1) 21 dX1_watchedTask_1 (by decide) (fun h1 => ?_) (fun h1 => ?_)
  · rw [if_pos h1] at hF
    refine g_sub [] (L' := []) rfl ?_
    exact c_X1_watchedTask_b21 O _ _ hF
  · rw [if_neg h1] at hF
    refine g_iload_n O (pc := 4) dX1_watchedTask_4 1 rfl ?_
    refine g_aload_n O (pc := 5) dX1_watchedTask_5 0 rfl ?_
    refine g_getI O (pc := 6) isC_X1 dX1_watchedTask_6 fw_X1_27 (by decide) fd_SEnt_0_5 ?_
    refine g_icmp_ge O (pc := 9) 21 dX1_watchedTask_9 (by decide) (fun h2 => ?_) (fun h2 => ?_)
    · rw [if_pos h2] at hF
      refine g_sub [] (L' := []) rfl ?_
      exact c_X1_watchedTask_b21 O _ _ hF
    · rw [if_neg h2] at hF
      refine g_aload_n O (pc := 12) dX1_watchedTask_12 0 rfl ?_
      refine g_getR O (pc := 13) isC_X1 dX1_watchedTask_13 fw_X1_24 (by decide) fd_SEnt_0_4 ?_
      refine g_iload_n O (pc := 16) dX1_watchedTask_16 1 rfl ?_
      obtain ⟨h3, hF⟩ := gd hF
      refine g_il O (pc := 17) dX1_watchedTask_17 ar_SEnt_5 h3 ?_
      refine g_goto O (pc := 18) 23 dX1_watchedTask_18 (by decide) ?_
      refine g_sub [] (L' := []) rfl ?_
      exact c_X1_watchedTask_b23 O _ _ _ hF

theorem mc_X1_watchedTask {x1 : Int32} {I : IS} (J : JS) {q : Int32} (hF : f_X1_watchedTask x1 I = some q) : MC yX1_watchedTask cX1_watchedTask 2 (some .int) (rm_ 0 0) SEnt 6 [.ref (0), .int (x1)] I J (some (.int q), I, J) :=
  mc_of pn_X1 (Nat.le_of_ble_eq_true rfl) (fun z O => c_X1_watchedTask_e O _ _ _ hF)

def f_X2_add (n : Nat) (x1 : Int32) (x2 : Int32) (I : IS) : Option (Int32 × IS) :=
  if (I (0) 2) < (Int32.ofNat n) then
  (if okI ((I (0) 2)) n = true then
  (if okI (((u2 I (1) ((I (0) 2)).toNatClampNeg (x1)) (0) 2)) n = true then
  ((some (u2 (u2 I (1) ((I (0) 2)).toNatClampNeg (x1)) (2) (((u2 I (1) ((I (0) 2)).toNatClampNeg (x1)) (0) 2)).toNatClampNeg (x2))).bind fun I4 =>
  (some (((u2 I4 (0) 2 (((I4 (0) 2) + (1 : Int32)))) (0) 2), (u2 I4 (0) 2 (((I4 (0) 2) + (1 : Int32)))))))
  else none)
  else none)
  else
  (some ((-4 : Int32), I))
set_option maxHeartbeats 4000000 in
set_option maxRecDepth 100000 in
theorem c_X2_add_e (n : Nat) {z : CTX} {J : JS} (O : OK z cX2_add RX2 3 (SPrs n) 3 (rm_ 0 0) (some .int)) : ∀ (x1 : Int32) (x2 : Int32) (I : IS) (q : Int32 × IS), f_X2_add n x1 x2 I = some q → G z 0 [(0, .ref (0)), (1, .int (x1)), (2, .int (x2))] [] I J (some (.int q.1), q.2, J) := by
  intro x1 x2 I q hF
  rw [f_X2_add] at hF
  refine g_aload_n O (pc := 0) dX2_add_0 0 rfl ?_
  refine g_getI O (pc := 1) isC_X2 dX2_add_1 fw_X2_24 (by decide) (fd_SPrs_n_0_2 n) ?_
  refine g_aload_n O (pc := 4) dX2_add_4 0 rfl ?_
  refine g_getR O (pc := 5) isC_X2 dX2_add_5 fw_X2_15 (by decide) (fd_SPrs_n_0_0 n) ?_
  refine g_len O (pc := 8) dX2_add_8 (by decide) (ar_SPrs_n_1 n) (v := (Int32.ofNat n)) rfl ?_
  refine g_icmp_lt O (pc := 9) 15 dX2_add_9 (by decide) (fun h1 => ?_) (fun h1 => ?_)
  · rw [if_pos h1] at hF
    refine g_aload_n O (pc := 15) dX2_add_15 0 rfl ?_
    refine g_getR O (pc := 16) isC_X2 dX2_add_16 fw_X2_15 (by decide) (fd_SPrs_n_0_0 n) ?_
    refine g_aload_n O (pc := 19) dX2_add_19 0 rfl ?_
    refine g_getI O (pc := 20) isC_X2 dX2_add_20 fw_X2_24 (by decide) (fd_SPrs_n_0_2 n) ?_
    refine g_iload_n O (pc := 23) dX2_add_23 1 rfl ?_
    obtain ⟨h2, hF⟩ := gd hF
    refine g_is O (pc := 24) dX2_add_24 (ar_SPrs_n_1 n) h2 ?_
    refine g_aload_n O (pc := 25) dX2_add_25 0 rfl ?_
    refine g_getR O (pc := 26) isC_X2 dX2_add_26 fw_X2_21 (by decide) (fd_SPrs_n_0_1 n) ?_
    refine g_aload_n O (pc := 29) dX2_add_29 0 rfl ?_
    refine g_getI O (pc := 30) isC_X2 dX2_add_30 fw_X2_24 (by decide) (fd_SPrs_n_0_2 n) ?_
    refine g_iload_n O (pc := 33) dX2_add_33 2 rfl ?_
    obtain ⟨h3, hF⟩ := gd hF
    refine g_is O (pc := 34) dX2_add_34 (ar_SPrs_n_2 n) h3 ?_
    obtain ⟨I4, g5, hF⟩ := bnd hF
    refine g_nmI (Option.some.inj g5) ?_
    refine g_aload_n O (pc := 35) dX2_add_35 0 rfl ?_
    refine g_dup O (pc := 36) dX2_add_36 rfl ?_
    refine g_getI O (pc := 37) isC_X2 dX2_add_37 fw_X2_24 (by decide) (fd_SPrs_n_0_2 n) ?_
    refine g_iconst O (pc := 40) dX2_add_40 (ic_1) ?_
    refine g_iadd O (pc := 41) dX2_add_41 ?_
    refine g_putI O (pc := 42) isC_X2 isT_X2 dX2_add_42 fw_X2_24 (by decide) rfl rfl (fd_SPrs_n_0_2 n) ?_
    refine g_aload_n O (pc := 45) dX2_add_45 0 rfl ?_
    refine g_getI O (pc := 46) isC_X2 dX2_add_46 fw_X2_24 (by decide) (fd_SPrs_n_0_2 n) ?_
    obtain rfl := Option.some.inj hF
    exact g_ireturn O (pc := 49) dX2_add_49 rfl
  · rw [if_neg h1] at hF
    refine g_bipush O (pc := 12) dX2_add_12 bp_m4 ?_
    obtain rfl := Option.some.inj hF
    exact g_ireturn O (pc := 14) dX2_add_14 rfl

theorem mc_X2_add (n : Nat) {x1 : Int32} {x2 : Int32} {I : IS} (J : JS) {q : Int32 × IS} (hF : f_X2_add n x1 x2 I = some q) : MC yX2_add cX2_add 3 (some .int) (rm_ 0 0) (SPrs n) 3 [.ref (0), .int (x1), .int (x2)] I J (some (.int q.1), q.2, J) :=
  mc_of pn_X2 (Nat.le_of_ble_eq_true rfl) (fun z O => c_X2_add_e n O _ _ _ _ hF)

def f_X2_become (n : Nat) (I : IS) : Option (IS) :=
  if okC ((0 : Int32)) ((0 : Int32)) (((u2 I (0) 2 ((if (Int32.ofNat n) < (I (3) 2) then (Int32.ofNat n) else (I (3) 2)))) (0) 2)) n n = true then
  ((some (u1 (u2 I (0) 2 ((if (Int32.ofNat n) < (I (3) 2) then (Int32.ofNat n) else (I (3) 2)))) (1) (va_cpy ((u2 I (0) 2 ((if (Int32.ofNat n) < (I (3) 2) then (Int32.ofNat n) else (I (3) 2)))) (4)) ((u2 I (0) 2 ((if (Int32.ofNat n) < (I (3) 2) then (Int32.ofNat n) else (I (3) 2)))) (1)) ((0 : Int32)).toNatClampNeg ((0 : Int32)).toNatClampNeg (((u2 I (0) 2 ((if (Int32.ofNat n) < (I (3) 2) then (Int32.ofNat n) else (I (3) 2)))) (0) 2)).toNatClampNeg))).bind fun I2 =>
  (if okC ((0 : Int32)) ((0 : Int32)) ((I2 (0) 2)) n n = true then
  ((some (u1 I2 (2) (va_cpy (I2 (5)) (I2 (2)) ((0 : Int32)).toNatClampNeg ((0 : Int32)).toNatClampNeg ((I2 (0) 2)).toNatClampNeg))).bind fun I5 =>
  (some (I5)))
  else none))
  else none
set_option maxHeartbeats 4000000 in
set_option maxRecDepth 100000 in
theorem c_X2_become_e (n : Nat) {z : CTX} {J : JS} (O : OK z cX2_become RX2 2 (dbl 3 (SPrs n)) 6 (rm_ 1 18) none) : ∀ (I : IS) (q : IS), f_X2_become n I = some q → G z 0 [(0, .ref (0)), (1, .ref (3))] [] I J (none, q, J) := by
  intro I q hF
  rw [f_X2_become] at hF
  refine g_aload_n O (pc := 0) dX2_become_0 0 rfl ?_
  refine g_aload_n O (pc := 1) dX2_become_1 1 rfl ?_
  refine g_getI O (pc := 2) isC_X2 dX2_become_2 fw_X2_24 (by decide) (fd_dbl_3_SPrs_n_3_2 n) ?_
  refine g_aload_n O (pc := 5) dX2_become_5 0 rfl ?_
  refine g_getR O (pc := 6) isC_X2 dX2_become_6 fw_X2_15 (by decide) (fd_dbl_3_SPrs_n_0_0 n) ?_
  refine g_len O (pc := 9) dX2_become_9 (by decide) (ar_dbl_3_SPrs_n_1 n) (v := (Int32.ofNat n)) rfl ?_
  refine g_min O (pc := 10) (st := [.ref (0)]) dX2_become_10 ml_X2_28 mst_min mini_math mcode_min (by decide) (Nat.le_of_ble_eq_true rfl) ?_
  refine g_putI O (pc := 13) isC_X2 isT_X2 dX2_become_13 fw_X2_24 (by decide) rfl rfl (fd_dbl_3_SPrs_n_0_2 n) ?_
  refine g_aload_n O (pc := 16) dX2_become_16 1 rfl ?_
  refine g_getR O (pc := 17) isC_X2 dX2_become_17 fw_X2_15 (by decide) (fd_dbl_3_SPrs_n_3_0 n) ?_
  refine g_iconst O (pc := 20) dX2_become_20 (ic_0) ?_
  refine g_aload_n O (pc := 21) dX2_become_21 0 rfl ?_
  refine g_getR O (pc := 22) isC_X2 dX2_become_22 fw_X2_15 (by decide) (fd_dbl_3_SPrs_n_0_0 n) ?_
  refine g_iconst O (pc := 25) dX2_become_25 (ic_0) ?_
  refine g_aload_n O (pc := 26) dX2_become_26 0 rfl ?_
  refine g_getI O (pc := 27) isC_X2 dX2_become_27 fw_X2_24 (by decide) (fd_dbl_3_SPrs_n_0_2 n) ?_
  obtain ⟨h1, hF⟩ := gd hF
  refine g_copyI O (pc := 30) (st := []) dX2_become_30 ml_X2_31 acn acs aci (ar_dbl_3_SPrs_n_4 n) (ar_dbl_3_SPrs_n_1 n) h1 (by decide) (Nat.le_of_ble_eq_true rfl) ?_
  obtain ⟨I2, g3, hF⟩ := bnd hF
  refine g_nmI (Option.some.inj g3) ?_
  refine g_aload_n O (pc := 33) dX2_become_33 1 rfl ?_
  refine g_getR O (pc := 34) isC_X2 dX2_become_34 fw_X2_21 (by decide) (fd_dbl_3_SPrs_n_3_1 n) ?_
  refine g_iconst O (pc := 37) dX2_become_37 (ic_0) ?_
  refine g_aload_n O (pc := 38) dX2_become_38 0 rfl ?_
  refine g_getR O (pc := 39) isC_X2 dX2_become_39 fw_X2_21 (by decide) (fd_dbl_3_SPrs_n_0_1 n) ?_
  refine g_iconst O (pc := 42) dX2_become_42 (ic_0) ?_
  refine g_aload_n O (pc := 43) dX2_become_43 0 rfl ?_
  refine g_getI O (pc := 44) isC_X2 dX2_become_44 fw_X2_24 (by decide) (fd_dbl_3_SPrs_n_0_2 n) ?_
  obtain ⟨h4, hF⟩ := gd hF
  refine g_copyI O (pc := 47) (st := []) dX2_become_47 ml_X2_31 acn acs aci (ar_dbl_3_SPrs_n_5 n) (ar_dbl_3_SPrs_n_2 n) h4 (by decide) (Nat.le_of_ble_eq_true rfl) ?_
  obtain ⟨I5, g6, hF⟩ := bnd hF
  refine g_nmI (Option.some.inj g6) ?_
  obtain rfl := Option.some.inj hF
  exact g_return O (pc := 50) dX2_become_50 rfl

theorem mc_X2_become (n : Nat) {I : IS} (J : JS) {q : IS} (hF : f_X2_become n I = some q) : MC yX2_become cX2_become 2 none (rm_ 1 18) (dbl 3 (SPrs n)) 6 [.ref (0), .ref (3)] I J (none, q, J) :=
  mc_of pn_X2 (Nat.le_of_ble_eq_true rfl) (fun z O => c_X2_become_e n O _ _ hF)

def f_X2_clear (n : Nat) (I : IS) : Option (Int32 × IS) :=
  some ((0 : Int32), (u2 I (0) 2 ((0 : Int32))))
set_option maxHeartbeats 4000000 in
set_option maxRecDepth 100000 in
theorem c_X2_clear_e (n : Nat) {z : CTX} {J : JS} (O : OK z cX2_clear RX2 1 (SPrs n) 3 (rm_ 0 0) (some .int)) : ∀ (I : IS) (q : Int32 × IS), f_X2_clear n I = some q → G z 0 [(0, .ref (0))] [] I J (some (.int q.1), q.2, J) := by
  intro I q hF
  rw [f_X2_clear] at hF
  refine g_aload_n O (pc := 0) dX2_clear_0 0 rfl ?_
  refine g_iconst O (pc := 1) dX2_clear_1 (ic_0) ?_
  refine g_putI O (pc := 2) isC_X2 isT_X2 dX2_clear_2 fw_X2_24 (by decide) rfl rfl (fd_SPrs_n_0_2 n) ?_
  refine g_iconst O (pc := 5) dX2_clear_5 (ic_0) ?_
  obtain rfl := Option.some.inj hF
  exact g_ireturn O (pc := 6) dX2_clear_6 rfl

theorem mc_X2_clear (n : Nat) {I : IS} (J : JS) {q : Int32 × IS} (hF : f_X2_clear n I = some q) : MC yX2_clear cX2_clear 1 (some .int) (rm_ 0 0) (SPrs n) 3 [.ref (0)] I J (some (.int q.1), q.2, J) :=
  mc_of pn_X2 (Nat.le_of_ble_eq_true rfl) (fun z O => c_X2_clear_e n O _ _ hF)

def f_X3_becomeRow_b2 : Nat → Int32 → Int32 → Int32 → IS → JS → Option (IS × JS)
  | 0, _, _, _, _, _ => none
  | fu + 1, x1, x2, x3, I, J =>
    if (60 : Int32) ≤ x3 then
    (some ((u2 (u2 I (0) 1 (x1)) (0) 2 (x2)), J))
    else
    (if okI (x3) 60 = true then
    (f_X3_becomeRow_b2 fu (x1) (x2) (x3 + (1 : Int32)) (I) ((u2 J (1) (x3).toNatClampNeg ((0 : Int64)))))
    else none)
set_option maxHeartbeats 4000000 in
set_option maxRecDepth 100000 in
theorem c_X3_becomeRow_b2 {z : CTX} (O : OK z cX3_becomeRow RX3 4 STap 2 (rm_ 0 0) none) : ∀ (fu : Nat) (x1 : Int32) (x2 : Int32) (x3 : Int32) (I : IS) (J : JS) (q : IS × JS), f_X3_becomeRow_b2 fu x1 x2 x3 I J = some q → G z 2 [(0, .ref (0)), (1, .int (x1)), (2, .int (x2)), (3, .int (x3))] [] I J (none, q.1, q.2) := by
  intro fu
  induction fu with
  | zero =>
    intro x1 x2 x3 I J q hF
    cases hF
  | succ fu ih =>
    intro x1 x2 x3 I J q hF
    rw [f_X3_becomeRow_b2] at hF
    refine g_iload_n O (pc := 2) dX3_becomeRow_2 3 rfl ?_
    refine g_aload_n O (pc := 3) dX3_becomeRow_3 0 rfl ?_
    refine g_getR O (pc := 4) isC_X3 dX3_becomeRow_4 fw_X3_9 (by decide) fd_STap_0_0 ?_
    refine g_len O (pc := 7) dX3_becomeRow_7 (by decide) ar_STap_1 (v := (60 : Int32)) rfl ?_
    refine g_icmp_ge O (pc := 8) 24 dX3_becomeRow_8 (by decide) (fun h1 => ?_) (fun h1 => ?_)
    · rw [if_pos h1] at hF
      refine g_aload_n O (pc := 24) dX3_becomeRow_24 0 rfl ?_
      refine g_iload_n O (pc := 25) dX3_becomeRow_25 1 rfl ?_
      refine g_putI O (pc := 26) isC_X3 isT_X3 dX3_becomeRow_26 fw_X3_15 (by decide) rfl rfl fd_STap_0_1 ?_
      refine g_aload_n O (pc := 29) dX3_becomeRow_29 0 rfl ?_
      refine g_iload_n O (pc := 30) dX3_becomeRow_30 2 rfl ?_
      refine g_putI O (pc := 31) isC_X3 isT_X3 dX3_becomeRow_31 fw_X3_19 (by decide) rfl rfl fd_STap_0_2 ?_
      obtain rfl := Option.some.inj hF
      exact g_return O (pc := 34) dX3_becomeRow_34 rfl
    · rw [if_neg h1] at hF
      refine g_aload_n O (pc := 11) dX3_becomeRow_11 0 rfl ?_
      refine g_getR O (pc := 12) isC_X3 dX3_becomeRow_12 fw_X3_9 (by decide) fd_STap_0_0 ?_
      refine g_iload_n O (pc := 15) dX3_becomeRow_15 3 rfl ?_
      refine g_lconst O (pc := 16) dX3_becomeRow_16 lc_0 ?_
      obtain ⟨h2, hF⟩ := gd hF
      refine g_ls O (pc := 17) dX3_becomeRow_17 ar_STap_1 h2 ?_
      refine g_iinc O (pc := 18) (v := x3 + (1 : Int32)) (L' := [(3, .int (x3 + (1 : Int32))), (0, .ref (0)), (1, .int (x1)), (2, .int (x2))]) dX3_becomeRow_18 3 rfl rfl (by decide) rfl ?_
      refine g_goto O (pc := 21) 2 dX3_becomeRow_21 (by decide) ?_
      refine g_sub [1, 2, 3, 0] (L' := [(0, .ref (0)), (1, .int (x1)), (2, .int (x2)), (3, .int (x3 + (1 : Int32)))]) rfl ?_
      exact ih _ _ _ _ _ _ hF

def f_X3_becomeRow (x1 : Int32) (x2 : Int32) (I : IS) (J : JS) : Option (IS × JS) :=
  f_X3_becomeRow_b2 LF (x1) (x2) ((0 : Int32)) (I) (J)
set_option maxHeartbeats 4000000 in
set_option maxRecDepth 100000 in
theorem c_X3_becomeRow_e {z : CTX} (O : OK z cX3_becomeRow RX3 4 STap 2 (rm_ 0 0) none) : ∀ (x1 : Int32) (x2 : Int32) (I : IS) (J : JS) (q : IS × JS), f_X3_becomeRow x1 x2 I J = some q → G z 0 [(0, .ref (0)), (1, .int (x1)), (2, .int (x2))] [] I J (none, q.1, q.2) := by
  intro x1 x2 I J q hF
  rw [f_X3_becomeRow] at hF
  refine g_iconst O (pc := 0) dX3_becomeRow_0 (ic_0) ?_
  refine g_istore_n O (pc := 1) (L' := [(3, .int ((0 : Int32))), (0, .ref (0)), (1, .int (x1)), (2, .int (x2))]) dX3_becomeRow_1 (by decide) rfl ?_
  refine g_sub [1, 2, 3, 0] (L' := [(0, .ref (0)), (1, .int (x1)), (2, .int (x2)), (3, .int ((0 : Int32)))]) rfl ?_
  exact c_X3_becomeRow_b2 O _ _ _ _ _ _ _ hF

theorem mc_X3_becomeRow {x1 : Int32} {x2 : Int32} {I : IS} {J : JS} {q : IS × JS} (hF : f_X3_becomeRow x1 x2 I J = some q) : MC yX3_becomeRow cX3_becomeRow 4 none (rm_ 0 0) STap 2 [.ref (0), .int (x1), .int (x2)] I J (none, q.1, q.2) :=
  mc_of pn_X3 (Nat.le_of_ble_eq_true rfl) (fun z O => c_X3_becomeRow_e O _ _ _ _ _ hF)

def f_X3_cut_b63 (t0 : Int64) (I : IS) : Option (Int64) :=
  some (t0)
set_option maxHeartbeats 4000000 in
set_option maxRecDepth 100000 in
theorem c_X3_cut_b63 {z : CTX} {J : JS} (O : OK z cX3_cut RX3 3 STap 2 (rm_ 0 0) (some .long)) : ∀ (t0 : Int64) (I : IS) (q : Int64), f_X3_cut_b63 t0 I = some q → G z 63 [] [.long (t0)] I J (some (.long q), I, J) := by
  intro t0 I q hF
  rw [f_X3_cut_b63] at hF
  obtain rfl := Option.some.inj hF
  exact g_lreturn O (pc := 63) dX3_cut_63 rfl

def f_X3_cut (w1 : Int64) (I : IS) : Option (Int64) :=
  if (I (0) 1) = 0 then
  (some ((((w1).toInt32).toInt8.toInt32).toInt64))
  else if (I (0) 1) = 1 then
  (some ((((w1).toInt32).toInt16.toInt32).toInt64))
  else if (I (0) 1) = 2 then
  (some (((w1).toInt32).toInt64))
  else if (I (0) 1) = 3 then
  (some (w1))
  else (if (lg_cmp w1 (0 : Int64)) = 0 then
  (f_X3_cut_b63 ((0 : Int64)) (I))
  else
  (f_X3_cut_b63 ((1 : Int64)) (I)))
set_option maxHeartbeats 4000000 in
set_option maxRecDepth 100000 in
theorem c_X3_cut_e {z : CTX} {J : JS} (O : OK z cX3_cut RX3 3 STap 2 (rm_ 0 0) (some .long)) : ∀ (w1 : Int64) (I : IS) (q : Int64), f_X3_cut w1 I = some q → G z 0 [(0, .ref (0)), (1, .long (w1))] [] I J (some (.long q), I, J) := by
  intro w1 I q hF
  rw [f_X3_cut] at hF
  refine g_aload_n O (pc := 0) dX3_cut_0 0 rfl ?_
  refine g_getI O (pc := 1) isC_X3 dX3_cut_1 fw_X3_15 (by decide) fd_STap_0_1 ?_
  by_cases h1 : (I (0) 1) = 0
  · rw [if_pos h1] at hF
    refine g_tabIn O (pc := 4) (32) 36 dX3_cut_4 h1 (by decide) (by decide) rfl (by decide) ?_
    refine g_lload_n O (pc := 36) dX3_cut_36 1 rfl ?_
    refine g_l2i O (pc := 37) dX3_cut_37 ?_
    refine g_i2b O (pc := 38) dX3_cut_38 ?_
    refine g_i2l O (pc := 39) dX3_cut_39 ?_
    obtain rfl := Option.some.inj hF
    exact g_lreturn O (pc := 40) dX3_cut_40 rfl
  rw [if_neg h1] at hF
  by_cases h2 : (I (0) 1) = 1
  · rw [if_pos h2] at hF
    refine g_tabIn O (pc := 4) (37) 41 dX3_cut_4 h2 (by decide) (by decide) rfl (by decide) ?_
    refine g_lload_n O (pc := 41) dX3_cut_41 1 rfl ?_
    refine g_l2i O (pc := 42) dX3_cut_42 ?_
    refine g_i2s O (pc := 43) dX3_cut_43 ?_
    refine g_i2l O (pc := 44) dX3_cut_44 ?_
    obtain rfl := Option.some.inj hF
    exact g_lreturn O (pc := 45) dX3_cut_45 rfl
  rw [if_neg h2] at hF
  by_cases h3 : (I (0) 1) = 2
  · rw [if_pos h3] at hF
    refine g_tabIn O (pc := 4) (42) 46 dX3_cut_4 h3 (by decide) (by decide) rfl (by decide) ?_
    refine g_lload_n O (pc := 46) dX3_cut_46 1 rfl ?_
    refine g_l2i O (pc := 47) dX3_cut_47 ?_
    refine g_i2l O (pc := 48) dX3_cut_48 ?_
    obtain rfl := Option.some.inj hF
    exact g_lreturn O (pc := 49) dX3_cut_49 rfl
  rw [if_neg h3] at hF
  by_cases h4 : (I (0) 1) = 3
  · rw [if_pos h4] at hF
    refine g_tabIn O (pc := 4) (46) 50 dX3_cut_4 h4 (by decide) (by decide) rfl (by decide) ?_
    refine g_lload_n O (pc := 50) dX3_cut_50 1 rfl ?_
    obtain rfl := Option.some.inj hF
    exact g_lreturn O (pc := 51) dX3_cut_51 rfl
  rw [if_neg h4] at hF
  have ih1 : ¬ ((I (0) 1)).toInt = 0 := fun q => h1 (Int32.toInt_inj.mp q)
  have ih2 : ¬ ((I (0) 1)).toInt = 1 := fun q => h2 (Int32.toInt_inj.mp q)
  have ih3 : ¬ ((I (0) 1)).toInt = 2 := fun q => h3 (Int32.toInt_inj.mp q)
  have ih4 : ¬ ((I (0) 1)).toInt = 3 := fun q => h4 (Int32.toInt_inj.mp q)
  refine g_tabOut O (pc := 4) 52 dX3_cut_4 (by omega) (by decide) ?_
  refine g_lload_n O (pc := 52) dX3_cut_52 1 rfl ?_
  refine g_lconst O (pc := 53) dX3_cut_53 lc_0 ?_
  refine g_lcmp O (pc := 54) dX3_cut_54 ?_
  refine g_if_eq O (pc := 55) 62 dX3_cut_55 (by decide) (fun h5 => ?_) (fun h5 => ?_)
  · rw [if_pos h5] at hF
    refine g_lconst O (pc := 62) dX3_cut_62 lc_0 ?_
    refine g_sub [] (L' := []) rfl ?_
    exact c_X3_cut_b63 O _ _ _ hF
  · rw [if_neg h5] at hF
    refine g_lconst O (pc := 58) dX3_cut_58 lc_1 ?_
    refine g_goto O (pc := 59) 63 dX3_cut_59 (by decide) ?_
    refine g_sub [] (L' := []) rfl ?_
    exact c_X3_cut_b63 O _ _ _ hF

theorem mc_X3_cut {w1 : Int64} {I : IS} (J : JS) {q : Int64} (hF : f_X3_cut w1 I = some q) : MC yX3_cut cX3_cut 3 (some .long) (rm_ 0 0) STap 2 [.ref (0), .long (w1)] I J (some (.long q), I, J) :=
  mc_of pn_X3 (Nat.le_of_ble_eq_true rfl) (fun z O => c_X3_cut_e O _ _ _ hF)

def f_X4_add (x1 : Int32) (x2 : Int32) (x3 : Int32) (I : IS) : Option (IS) :=
  if (32 : Int32) ≤ (I (0) 8) then
  (some (I))
  else
  (if okI ((I (0) 8)) 32 = true then
  (if okI (((u2 I (1) ((I (0) 8)).toNatClampNeg (x1)) (0) 8)) 32 = true then
  ((some (u2 (u2 I (1) ((I (0) 8)).toNatClampNeg (x1)) (2) (((u2 I (1) ((I (0) 8)).toNatClampNeg (x1)) (0) 8)).toNatClampNeg (x1))).bind fun I4 =>
  (if okI ((I4 (0) 8)) 32 = true then
  (if okI (((u2 I4 (3) ((I4 (0) 8)).toNatClampNeg ((0 : Int32))) (0) 8)) 32 = true then
  ((some (u2 (u2 I4 (3) ((I4 (0) 8)).toNatClampNeg ((0 : Int32))) (4) (((u2 I4 (3) ((I4 (0) 8)).toNatClampNeg ((0 : Int32))) (0) 8)).toNatClampNeg ((0 : Int32)))).bind fun I8 =>
  (if okI ((I8 (0) 8)) 32 = true then
  (if okI (((u2 I8 (5) ((I8 (0) 8)).toNatClampNeg (x3)) (0) 8)) 32 = true then
  ((some (u2 (u2 I8 (5) ((I8 (0) 8)).toNatClampNeg (x3)) (6) (((u2 I8 (5) ((I8 (0) 8)).toNatClampNeg (x3)) (0) 8)).toNatClampNeg (x2))).bind fun I12 =>
  (if okI ((I12 (0) 8)) 32 = true then
  ((some (u2 (u2 I12 (7) ((I12 (0) 8)).toNatClampNeg ((-5 : Int32))) (0) 8 ((((u2 I12 (7) ((I12 (0) 8)).toNatClampNeg ((-5 : Int32))) (0) 8) + (1 : Int32))))).bind fun I15 =>
  (some (I15)))
  else none))
  else none)
  else none))
  else none)
  else none))
  else none)
  else none)
set_option maxHeartbeats 4000000 in
set_option maxRecDepth 100000 in
theorem c_X4_add_e {z : CTX} {J : JS} (O : OK z cX4_add RX4 4 STas 9 (rm_ 0 0) none) : ∀ (x1 : Int32) (x2 : Int32) (x3 : Int32) (I : IS) (q : IS), f_X4_add x1 x2 x3 I = some q → G z 0 [(0, .ref (0)), (1, .int (x1)), (2, .int (x2)), (3, .int (x3))] [] I J (none, q, J) := by
  intro x1 x2 x3 I q hF
  rw [f_X4_add] at hF
  refine g_aload_n O (pc := 0) dX4_add_0 0 rfl ?_
  refine g_getI O (pc := 1) isC_X4 dX4_add_1 fw_X4_36 (by decide) fd_STas_0_8 ?_
  refine g_bipush O (pc := 4) dX4_add_4 bp_32 ?_
  refine g_icmp_ge O (pc := 6) 90 dX4_add_6 (by decide) (fun h1 => ?_) (fun h1 => ?_)
  · rw [if_pos h1] at hF
    obtain rfl := Option.some.inj hF
    exact g_return O (pc := 90) dX4_add_90 rfl
  · rw [if_neg h1] at hF
    refine g_aload_n O (pc := 9) dX4_add_9 0 rfl ?_
    refine g_getR O (pc := 10) isC_X4 dX4_add_10 fw_X4_9 (by decide) fd_STas_0_0 ?_
    refine g_aload_n O (pc := 13) dX4_add_13 0 rfl ?_
    refine g_getI O (pc := 14) isC_X4 dX4_add_14 fw_X4_36 (by decide) fd_STas_0_8 ?_
    refine g_iload_n O (pc := 17) dX4_add_17 1 rfl ?_
    obtain ⟨h2, hF⟩ := gd hF
    refine g_is O (pc := 18) dX4_add_18 ar_STas_1 h2 ?_
    refine g_aload_n O (pc := 19) dX4_add_19 0 rfl ?_
    refine g_getR O (pc := 20) isC_X4 dX4_add_20 fw_X4_15 (by decide) fd_STas_0_1 ?_
    refine g_aload_n O (pc := 23) dX4_add_23 0 rfl ?_
    refine g_getI O (pc := 24) isC_X4 dX4_add_24 fw_X4_36 (by decide) fd_STas_0_8 ?_
    refine g_iload_n O (pc := 27) dX4_add_27 1 rfl ?_
    obtain ⟨h3, hF⟩ := gd hF
    refine g_is O (pc := 28) dX4_add_28 ar_STas_2 h3 ?_
    obtain ⟨I4, g5, hF⟩ := bnd hF
    refine g_nmI (Option.some.inj g5) ?_
    refine g_aload_n O (pc := 29) dX4_add_29 0 rfl ?_
    refine g_getR O (pc := 30) isC_X4 dX4_add_30 fw_X4_18 (by decide) fd_STas_0_2 ?_
    refine g_aload_n O (pc := 33) dX4_add_33 0 rfl ?_
    refine g_getI O (pc := 34) isC_X4 dX4_add_34 fw_X4_36 (by decide) fd_STas_0_8 ?_
    refine g_iconst O (pc := 37) dX4_add_37 (ic_0) ?_
    obtain ⟨h6, hF⟩ := gd hF
    refine g_is O (pc := 38) dX4_add_38 ar_STas_3 h6 ?_
    refine g_aload_n O (pc := 39) dX4_add_39 0 rfl ?_
    refine g_getR O (pc := 40) isC_X4 dX4_add_40 fw_X4_21 (by decide) fd_STas_0_3 ?_
    refine g_aload_n O (pc := 43) dX4_add_43 0 rfl ?_
    refine g_getI O (pc := 44) isC_X4 dX4_add_44 fw_X4_36 (by decide) fd_STas_0_8 ?_
    refine g_iconst O (pc := 47) dX4_add_47 (ic_0) ?_
    obtain ⟨h7, hF⟩ := gd hF
    refine g_is O (pc := 48) dX4_add_48 ar_STas_4 h7 ?_
    obtain ⟨I8, g9, hF⟩ := bnd hF
    refine g_nmI (Option.some.inj g9) ?_
    refine g_aload_n O (pc := 49) dX4_add_49 0 rfl ?_
    refine g_getR O (pc := 50) isC_X4 dX4_add_50 fw_X4_24 (by decide) fd_STas_0_4 ?_
    refine g_aload_n O (pc := 53) dX4_add_53 0 rfl ?_
    refine g_getI O (pc := 54) isC_X4 dX4_add_54 fw_X4_36 (by decide) fd_STas_0_8 ?_
    refine g_iload_n O (pc := 57) dX4_add_57 3 rfl ?_
    obtain ⟨h10, hF⟩ := gd hF
    refine g_is O (pc := 58) dX4_add_58 ar_STas_5 h10 ?_
    refine g_aload_n O (pc := 59) dX4_add_59 0 rfl ?_
    refine g_getR O (pc := 60) isC_X4 dX4_add_60 fw_X4_27 (by decide) fd_STas_0_5 ?_
    refine g_aload_n O (pc := 63) dX4_add_63 0 rfl ?_
    refine g_getI O (pc := 64) isC_X4 dX4_add_64 fw_X4_36 (by decide) fd_STas_0_8 ?_
    refine g_iload_n O (pc := 67) dX4_add_67 2 rfl ?_
    obtain ⟨h11, hF⟩ := gd hF
    refine g_is O (pc := 68) dX4_add_68 ar_STas_6 h11 ?_
    obtain ⟨I12, g13, hF⟩ := bnd hF
    refine g_nmI (Option.some.inj g13) ?_
    refine g_aload_n O (pc := 69) dX4_add_69 0 rfl ?_
    refine g_getR O (pc := 70) isC_X4 dX4_add_70 fw_X4_30 (by decide) fd_STas_0_6 ?_
    refine g_aload_n O (pc := 73) dX4_add_73 0 rfl ?_
    refine g_getI O (pc := 74) isC_X4 dX4_add_74 fw_X4_36 (by decide) fd_STas_0_8 ?_
    refine g_bipush O (pc := 77) dX4_add_77 bp_m5 ?_
    obtain ⟨h14, hF⟩ := gd hF
    refine g_is O (pc := 79) dX4_add_79 ar_STas_7 h14 ?_
    refine g_aload_n O (pc := 80) dX4_add_80 0 rfl ?_
    refine g_dup O (pc := 81) dX4_add_81 rfl ?_
    refine g_getI O (pc := 82) isC_X4 dX4_add_82 fw_X4_36 (by decide) fd_STas_0_8 ?_
    refine g_iconst O (pc := 85) dX4_add_85 (ic_1) ?_
    refine g_iadd O (pc := 86) dX4_add_86 ?_
    refine g_putI O (pc := 87) isC_X4 isT_X4 dX4_add_87 fw_X4_36 (by decide) rfl rfl fd_STas_0_8 ?_
    obtain ⟨I15, g16, hF⟩ := bnd hF
    refine g_nmI (Option.some.inj g16) ?_
    obtain rfl := Option.some.inj hF
    exact g_return O (pc := 90) dX4_add_90 rfl

theorem mc_X4_add {x1 : Int32} {x2 : Int32} {x3 : Int32} {I : IS} (J : JS) {q : IS} (hF : f_X4_add x1 x2 x3 I = some q) : MC yX4_add cX4_add 4 none (rm_ 0 0) STas 9 [.ref (0), .int (x1), .int (x2), .int (x3)] I J (none, q, J) :=
  mc_of pn_X4 (Nat.le_of_ble_eq_true rfl) (fun z O => c_X4_add_e O _ _ _ _ _ hF)

def f_X4_allInAreEnded_b34 (k4 : Int32 → Int32 → IS → Option (Int32)) (x1 : Int32) (x2 : Int32) (I : IS) : Option (Int32) :=
  k4 (x1) (x2 + (1 : Int32)) (I)
set_option maxHeartbeats 4000000 in
set_option maxRecDepth 100000 in
theorem c_X4_allInAreEnded_b34 {z : CTX} {J : JS} (O : OK z cX4_allInAreEnded RX4 3 STas 9 (rm_ 0 0) (some .boolean)) {k4 : Int32 → Int32 → IS → Option (Int32)} (hk4 : ∀ (x1 : Int32) (x2 : Int32) (I : IS) (q : Int32), k4 x1 x2 I = some q → G z 4 [(0, .ref (0)), (1, .int (x1)), (2, .int (x2))] [] I J (some (.int q), I, J)) : ∀ (x1 : Int32) (x2 : Int32) (I : IS) (q : Int32), f_X4_allInAreEnded_b34 k4 x1 x2 I = some q → G z 34 [(0, .ref (0)), (1, .int (x1)), (2, .int (x2))] [] I J (some (.int q), I, J) := by
  intro x1 x2 I q hF
  rw [f_X4_allInAreEnded_b34] at hF
  refine g_iinc O (pc := 34) (v := x2 + (1 : Int32)) (L' := [(2, .int (x2 + (1 : Int32))), (0, .ref (0)), (1, .int (x1))]) dX4_allInAreEnded_34 2 rfl rfl (by decide) rfl ?_
  refine g_goto O (pc := 37) 4 dX4_allInAreEnded_37 (by decide) ?_
  refine g_sub [1, 2, 0] (L' := [(0, .ref (0)), (1, .int (x1)), (2, .int (x2 + (1 : Int32)))]) rfl ?_
  exact hk4 _ _ _ _ hF

def f_X4_allInAreEnded_b4 : Nat → Int32 → Int32 → IS → Option (Int32)
  | 0, _, _, _ => none
  | fu + 1, x1, x2, I =>
    if (I (0) 8) ≤ x2 then
    (some ((1 : Int32)))
    else
    (if okI (x2) 32 = true then
    (if (I (5) (x2).toNatClampNeg) = x1 then
    (if okI (x2) 32 = true then
    (if (3 : Int32) ≤ (I (4) (x2).toNatClampNeg) then
    (f_X4_allInAreEnded_b34 (f_X4_allInAreEnded_b4 fu) (x1) (x2) (I))
    else
    (some ((0 : Int32))))
    else none)
    else
    (f_X4_allInAreEnded_b34 (f_X4_allInAreEnded_b4 fu) (x1) (x2) (I)))
    else none)
set_option maxHeartbeats 4000000 in
set_option maxRecDepth 100000 in
theorem c_X4_allInAreEnded_b4 {z : CTX} {J : JS} (O : OK z cX4_allInAreEnded RX4 3 STas 9 (rm_ 0 0) (some .boolean)) : ∀ (fu : Nat) (x1 : Int32) (x2 : Int32) (I : IS) (q : Int32), f_X4_allInAreEnded_b4 fu x1 x2 I = some q → G z 4 [(0, .ref (0)), (1, .int (x1)), (2, .int (x2))] [] I J (some (.int q), I, J) := by
  intro fu
  induction fu with
  | zero =>
    intro x1 x2 I q hF
    cases hF
  | succ fu ih =>
    intro x1 x2 I q hF
    rw [f_X4_allInAreEnded_b4] at hF
    refine g_iload_n O (pc := 4) dX4_allInAreEnded_4 2 rfl ?_
    refine g_aload_n O (pc := 5) dX4_allInAreEnded_5 0 rfl ?_
    refine g_getI O (pc := 6) isC_X4 dX4_allInAreEnded_6 fw_X4_36 (by decide) fd_STas_0_8 ?_
    refine g_icmp_ge O (pc := 9) 40 dX4_allInAreEnded_9 (by decide) (fun h1 => ?_) (fun h1 => ?_)
    · rw [if_pos h1] at hF
      refine g_iconst O (pc := 40) dX4_allInAreEnded_40 (ic_1) ?_
      obtain rfl := Option.some.inj hF
      exact g_zreturn O (pc := 41) dX4_allInAreEnded_41 (by decide) rfl
    · rw [if_neg h1] at hF
      refine g_aload_n O (pc := 12) dX4_allInAreEnded_12 0 rfl ?_
      refine g_getR O (pc := 13) isC_X4 dX4_allInAreEnded_13 fw_X4_24 (by decide) fd_STas_0_4 ?_
      refine g_iload_n O (pc := 16) dX4_allInAreEnded_16 2 rfl ?_
      obtain ⟨h2, hF⟩ := gd hF
      refine g_il O (pc := 17) dX4_allInAreEnded_17 ar_STas_5 h2 ?_
      refine g_iload_n O (pc := 18) dX4_allInAreEnded_18 1 rfl ?_
      refine g_icmp_ne O (pc := 19) 34 dX4_allInAreEnded_19 (by decide) (fun h3 => ?_) (fun h3 => ?_)
      · rw [if_neg h3] at hF
        refine g_sub [0, 1, 2] (L' := [(0, .ref (0)), (1, .int (x1)), (2, .int (x2))]) rfl ?_
        exact c_X4_allInAreEnded_b34 O ih _ _ _ _ hF
      · rw [if_pos h3] at hF
        refine g_aload_n O (pc := 22) dX4_allInAreEnded_22 0 rfl ?_
        refine g_getR O (pc := 23) isC_X4 dX4_allInAreEnded_23 fw_X4_21 (by decide) fd_STas_0_3 ?_
        refine g_iload_n O (pc := 26) dX4_allInAreEnded_26 2 rfl ?_
        obtain ⟨h4, hF⟩ := gd hF
        refine g_il O (pc := 27) dX4_allInAreEnded_27 ar_STas_4 h4 ?_
        refine g_iconst O (pc := 28) dX4_allInAreEnded_28 (ic_3) ?_
        refine g_icmp_ge O (pc := 29) 34 dX4_allInAreEnded_29 (by decide) (fun h5 => ?_) (fun h5 => ?_)
        · rw [if_pos h5] at hF
          refine g_sub [0, 1, 2] (L' := [(0, .ref (0)), (1, .int (x1)), (2, .int (x2))]) rfl ?_
          exact c_X4_allInAreEnded_b34 O ih _ _ _ _ hF
        · rw [if_neg h5] at hF
          refine g_iconst O (pc := 32) dX4_allInAreEnded_32 (ic_0) ?_
          obtain rfl := Option.some.inj hF
          exact g_zreturn O (pc := 33) dX4_allInAreEnded_33 (by decide) rfl

def f_X4_allInAreEnded (x1 : Int32) (I : IS) : Option (Int32) :=
  f_X4_allInAreEnded_b4 LF (x1) ((x1 + (1 : Int32))) (I)
set_option maxHeartbeats 4000000 in
set_option maxRecDepth 100000 in
theorem c_X4_allInAreEnded_e {z : CTX} {J : JS} (O : OK z cX4_allInAreEnded RX4 3 STas 9 (rm_ 0 0) (some .boolean)) : ∀ (x1 : Int32) (I : IS) (q : Int32), f_X4_allInAreEnded x1 I = some q → G z 0 [(0, .ref (0)), (1, .int (x1))] [] I J (some (.int q), I, J) := by
  intro x1 I q hF
  rw [f_X4_allInAreEnded] at hF
  refine g_iload_n O (pc := 0) dX4_allInAreEnded_0 1 rfl ?_
  refine g_iconst O (pc := 1) dX4_allInAreEnded_1 (ic_1) ?_
  refine g_iadd O (pc := 2) dX4_allInAreEnded_2 ?_
  refine g_istore_n O (pc := 3) (L' := [(2, .int ((x1 + (1 : Int32)))), (0, .ref (0)), (1, .int (x1))]) dX4_allInAreEnded_3 (by decide) rfl ?_
  refine g_sub [1, 2, 0] (L' := [(0, .ref (0)), (1, .int (x1)), (2, .int ((x1 + (1 : Int32))))]) rfl ?_
  exact c_X4_allInAreEnded_b4 O _ _ _ _ _ hF

theorem mc_X4_allInAreEnded {x1 : Int32} {I : IS} (J : JS) {q : Int32} (hF : f_X4_allInAreEnded x1 I = some q) : MC yX4_allInAreEnded cX4_allInAreEnded 3 (some .boolean) (rm_ 0 0) STas 9 [.ref (0), .int (x1)] I J (some (.int q), I, J) :=
  mc_of pn_X4 (Nat.le_of_ble_eq_true rfl) (fun z O => c_X4_allInAreEnded_e O _ _ _ hF)

def f_X4_become (I : IS) : Option (IS) :=
  if okC ((0 : Int32)) ((0 : Int32)) (((u2 I (0) 8 ((I (9) 8))) (0) 8)) 32 32 = true then
  ((some (u1 (u2 I (0) 8 ((I (9) 8))) (1) (va_cpy ((u2 I (0) 8 ((I (9) 8))) (10)) ((u2 I (0) 8 ((I (9) 8))) (1)) ((0 : Int32)).toNatClampNeg ((0 : Int32)).toNatClampNeg (((u2 I (0) 8 ((I (9) 8))) (0) 8)).toNatClampNeg))).bind fun I2 =>
  (if okC ((0 : Int32)) ((0 : Int32)) ((I2 (0) 8)) 32 32 = true then
  ((some (u1 I2 (2) (va_cpy (I2 (11)) (I2 (2)) ((0 : Int32)).toNatClampNeg ((0 : Int32)).toNatClampNeg ((I2 (0) 8)).toNatClampNeg))).bind fun I5 =>
  (if okC ((0 : Int32)) ((0 : Int32)) ((I5 (0) 8)) 32 32 = true then
  ((some (u1 I5 (3) (va_cpy (I5 (12)) (I5 (3)) ((0 : Int32)).toNatClampNeg ((0 : Int32)).toNatClampNeg ((I5 (0) 8)).toNatClampNeg))).bind fun I8 =>
  (if okC ((0 : Int32)) ((0 : Int32)) ((I8 (0) 8)) 32 32 = true then
  ((some (u1 I8 (4) (va_cpy (I8 (13)) (I8 (4)) ((0 : Int32)).toNatClampNeg ((0 : Int32)).toNatClampNeg ((I8 (0) 8)).toNatClampNeg))).bind fun I11 =>
  (if okC ((0 : Int32)) ((0 : Int32)) ((I11 (0) 8)) 32 32 = true then
  ((some (u1 I11 (5) (va_cpy (I11 (14)) (I11 (5)) ((0 : Int32)).toNatClampNeg ((0 : Int32)).toNatClampNeg ((I11 (0) 8)).toNatClampNeg))).bind fun I14 =>
  (if okC ((0 : Int32)) ((0 : Int32)) ((I14 (0) 8)) 32 32 = true then
  ((some (u1 I14 (6) (va_cpy (I14 (15)) (I14 (6)) ((0 : Int32)).toNatClampNeg ((0 : Int32)).toNatClampNeg ((I14 (0) 8)).toNatClampNeg))).bind fun I17 =>
  (if okC ((0 : Int32)) ((0 : Int32)) ((I17 (0) 8)) 32 32 = true then
  ((some (u1 I17 (7) (va_cpy (I17 (16)) (I17 (7)) ((0 : Int32)).toNatClampNeg ((0 : Int32)).toNatClampNeg ((I17 (0) 8)).toNatClampNeg))).bind fun I20 =>
  (some (I20)))
  else none))
  else none))
  else none))
  else none))
  else none))
  else none))
  else none
set_option maxHeartbeats 4000000 in
set_option maxRecDepth 100000 in
theorem c_X4_become_e {z : CTX} {J : JS} (O : OK z cX4_become RX4 2 (dbl 9 STas) 18 (rm_ 1 18) none) : ∀ (I : IS) (q : IS), f_X4_become I = some q → G z 0 [(0, .ref (0)), (1, .ref (9))] [] I J (none, q, J) := by
  intro I q hF
  rw [f_X4_become] at hF
  refine g_aload_n O (pc := 0) dX4_become_0 0 rfl ?_
  refine g_aload_n O (pc := 1) dX4_become_1 1 rfl ?_
  refine g_getI O (pc := 2) isC_X4 dX4_become_2 fw_X4_36 (by decide) fd_dbl_9_STas_9_8 ?_
  refine g_putI O (pc := 5) isC_X4 isT_X4 dX4_become_5 fw_X4_36 (by decide) rfl rfl fd_dbl_9_STas_0_8 ?_
  refine g_aload_n O (pc := 8) dX4_become_8 1 rfl ?_
  refine g_getR O (pc := 9) isC_X4 dX4_become_9 fw_X4_9 (by decide) fd_dbl_9_STas_9_0 ?_
  refine g_iconst O (pc := 12) dX4_become_12 (ic_0) ?_
  refine g_aload_n O (pc := 13) dX4_become_13 0 rfl ?_
  refine g_getR O (pc := 14) isC_X4 dX4_become_14 fw_X4_9 (by decide) fd_dbl_9_STas_0_0 ?_
  refine g_iconst O (pc := 17) dX4_become_17 (ic_0) ?_
  refine g_aload_n O (pc := 18) dX4_become_18 0 rfl ?_
  refine g_getI O (pc := 19) isC_X4 dX4_become_19 fw_X4_36 (by decide) fd_dbl_9_STas_0_8 ?_
  obtain ⟨h1, hF⟩ := gd hF
  refine g_copyI O (pc := 22) (st := []) dX4_become_22 ml_X4_40 acn acs aci ar_dbl_9_STas_10 ar_dbl_9_STas_1 h1 (by decide) (Nat.le_of_ble_eq_true rfl) ?_
  obtain ⟨I2, g3, hF⟩ := bnd hF
  refine g_nmI (Option.some.inj g3) ?_
  refine g_aload_n O (pc := 25) dX4_become_25 1 rfl ?_
  refine g_getR O (pc := 26) isC_X4 dX4_become_26 fw_X4_15 (by decide) fd_dbl_9_STas_9_1 ?_
  refine g_iconst O (pc := 29) dX4_become_29 (ic_0) ?_
  refine g_aload_n O (pc := 30) dX4_become_30 0 rfl ?_
  refine g_getR O (pc := 31) isC_X4 dX4_become_31 fw_X4_15 (by decide) fd_dbl_9_STas_0_1 ?_
  refine g_iconst O (pc := 34) dX4_become_34 (ic_0) ?_
  refine g_aload_n O (pc := 35) dX4_become_35 0 rfl ?_
  refine g_getI O (pc := 36) isC_X4 dX4_become_36 fw_X4_36 (by decide) fd_dbl_9_STas_0_8 ?_
  obtain ⟨h4, hF⟩ := gd hF
  refine g_copyI O (pc := 39) (st := []) dX4_become_39 ml_X4_40 acn acs aci ar_dbl_9_STas_11 ar_dbl_9_STas_2 h4 (by decide) (Nat.le_of_ble_eq_true rfl) ?_
  obtain ⟨I5, g6, hF⟩ := bnd hF
  refine g_nmI (Option.some.inj g6) ?_
  refine g_aload_n O (pc := 42) dX4_become_42 1 rfl ?_
  refine g_getR O (pc := 43) isC_X4 dX4_become_43 fw_X4_18 (by decide) fd_dbl_9_STas_9_2 ?_
  refine g_iconst O (pc := 46) dX4_become_46 (ic_0) ?_
  refine g_aload_n O (pc := 47) dX4_become_47 0 rfl ?_
  refine g_getR O (pc := 48) isC_X4 dX4_become_48 fw_X4_18 (by decide) fd_dbl_9_STas_0_2 ?_
  refine g_iconst O (pc := 51) dX4_become_51 (ic_0) ?_
  refine g_aload_n O (pc := 52) dX4_become_52 0 rfl ?_
  refine g_getI O (pc := 53) isC_X4 dX4_become_53 fw_X4_36 (by decide) fd_dbl_9_STas_0_8 ?_
  obtain ⟨h7, hF⟩ := gd hF
  refine g_copyI O (pc := 56) (st := []) dX4_become_56 ml_X4_40 acn acs aci ar_dbl_9_STas_12 ar_dbl_9_STas_3 h7 (by decide) (Nat.le_of_ble_eq_true rfl) ?_
  obtain ⟨I8, g9, hF⟩ := bnd hF
  refine g_nmI (Option.some.inj g9) ?_
  refine g_aload_n O (pc := 59) dX4_become_59 1 rfl ?_
  refine g_getR O (pc := 60) isC_X4 dX4_become_60 fw_X4_21 (by decide) fd_dbl_9_STas_9_3 ?_
  refine g_iconst O (pc := 63) dX4_become_63 (ic_0) ?_
  refine g_aload_n O (pc := 64) dX4_become_64 0 rfl ?_
  refine g_getR O (pc := 65) isC_X4 dX4_become_65 fw_X4_21 (by decide) fd_dbl_9_STas_0_3 ?_
  refine g_iconst O (pc := 68) dX4_become_68 (ic_0) ?_
  refine g_aload_n O (pc := 69) dX4_become_69 0 rfl ?_
  refine g_getI O (pc := 70) isC_X4 dX4_become_70 fw_X4_36 (by decide) fd_dbl_9_STas_0_8 ?_
  obtain ⟨h10, hF⟩ := gd hF
  refine g_copyI O (pc := 73) (st := []) dX4_become_73 ml_X4_40 acn acs aci ar_dbl_9_STas_13 ar_dbl_9_STas_4 h10 (by decide) (Nat.le_of_ble_eq_true rfl) ?_
  obtain ⟨I11, g12, hF⟩ := bnd hF
  refine g_nmI (Option.some.inj g12) ?_
  refine g_aload_n O (pc := 76) dX4_become_76 1 rfl ?_
  refine g_getR O (pc := 77) isC_X4 dX4_become_77 fw_X4_24 (by decide) fd_dbl_9_STas_9_4 ?_
  refine g_iconst O (pc := 80) dX4_become_80 (ic_0) ?_
  refine g_aload_n O (pc := 81) dX4_become_81 0 rfl ?_
  refine g_getR O (pc := 82) isC_X4 dX4_become_82 fw_X4_24 (by decide) fd_dbl_9_STas_0_4 ?_
  refine g_iconst O (pc := 85) dX4_become_85 (ic_0) ?_
  refine g_aload_n O (pc := 86) dX4_become_86 0 rfl ?_
  refine g_getI O (pc := 87) isC_X4 dX4_become_87 fw_X4_36 (by decide) fd_dbl_9_STas_0_8 ?_
  obtain ⟨h13, hF⟩ := gd hF
  refine g_copyI O (pc := 90) (st := []) dX4_become_90 ml_X4_40 acn acs aci ar_dbl_9_STas_14 ar_dbl_9_STas_5 h13 (by decide) (Nat.le_of_ble_eq_true rfl) ?_
  obtain ⟨I14, g15, hF⟩ := bnd hF
  refine g_nmI (Option.some.inj g15) ?_
  refine g_aload_n O (pc := 93) dX4_become_93 1 rfl ?_
  refine g_getR O (pc := 94) isC_X4 dX4_become_94 fw_X4_27 (by decide) fd_dbl_9_STas_9_5 ?_
  refine g_iconst O (pc := 97) dX4_become_97 (ic_0) ?_
  refine g_aload_n O (pc := 98) dX4_become_98 0 rfl ?_
  refine g_getR O (pc := 99) isC_X4 dX4_become_99 fw_X4_27 (by decide) fd_dbl_9_STas_0_5 ?_
  refine g_iconst O (pc := 102) dX4_become_102 (ic_0) ?_
  refine g_aload_n O (pc := 103) dX4_become_103 0 rfl ?_
  refine g_getI O (pc := 104) isC_X4 dX4_become_104 fw_X4_36 (by decide) fd_dbl_9_STas_0_8 ?_
  obtain ⟨h16, hF⟩ := gd hF
  refine g_copyI O (pc := 107) (st := []) dX4_become_107 ml_X4_40 acn acs aci ar_dbl_9_STas_15 ar_dbl_9_STas_6 h16 (by decide) (Nat.le_of_ble_eq_true rfl) ?_
  obtain ⟨I17, g18, hF⟩ := bnd hF
  refine g_nmI (Option.some.inj g18) ?_
  refine g_aload_n O (pc := 110) dX4_become_110 1 rfl ?_
  refine g_getR O (pc := 111) isC_X4 dX4_become_111 fw_X4_30 (by decide) fd_dbl_9_STas_9_6 ?_
  refine g_iconst O (pc := 114) dX4_become_114 (ic_0) ?_
  refine g_aload_n O (pc := 115) dX4_become_115 0 rfl ?_
  refine g_getR O (pc := 116) isC_X4 dX4_become_116 fw_X4_30 (by decide) fd_dbl_9_STas_0_6 ?_
  refine g_iconst O (pc := 119) dX4_become_119 (ic_0) ?_
  refine g_aload_n O (pc := 120) dX4_become_120 0 rfl ?_
  refine g_getI O (pc := 121) isC_X4 dX4_become_121 fw_X4_36 (by decide) fd_dbl_9_STas_0_8 ?_
  obtain ⟨h19, hF⟩ := gd hF
  refine g_copyI O (pc := 124) (st := []) dX4_become_124 ml_X4_40 acn acs aci ar_dbl_9_STas_16 ar_dbl_9_STas_7 h19 (by decide) (Nat.le_of_ble_eq_true rfl) ?_
  obtain ⟨I20, g21, hF⟩ := bnd hF
  refine g_nmI (Option.some.inj g21) ?_
  obtain rfl := Option.some.inj hF
  exact g_return O (pc := 127) dX4_become_127 rfl

theorem mc_X4_become {I : IS} (J : JS) {q : IS} (hF : f_X4_become I = some q) : MC yX4_become cX4_become 2 none (rm_ 1 18) (dbl 9 STas) 18 [.ref (0), .ref (9)] I J (none, q, J) :=
  mc_of pn_X4 (Nat.le_of_ble_eq_true rfl) (fun z O => c_X4_become_e O _ _ hF)

def f_X4_has_b17 (s0 : Int32) (I : IS) : Option (Int32) :=
  if okZ (s0) = true then some (s0) else none
set_option maxHeartbeats 4000000 in
set_option maxRecDepth 100000 in
theorem c_X4_has_b17 {z : CTX} {J : JS} (O : OK z cX4_has RX4 2 STas 9 (rm_ 0 0) (some .boolean)) : ∀ (s0 : Int32) (I : IS) (q : Int32), f_X4_has_b17 s0 I = some q → G z 17 [] [.int (s0)] I J (some (.int q), I, J) := by
  intro s0 I q hF
  rw [f_X4_has_b17] at hF
  obtain ⟨h1, hF⟩ := gd hF
  obtain rfl := Option.some.inj hF
  exact g_zreturn O (pc := 17) dX4_has_17 h1 rfl

def f_X4_has_b16 (I : IS) : Option (Int32) :=
  f_X4_has_b17 ((0 : Int32)) (I)
set_option maxHeartbeats 4000000 in
set_option maxRecDepth 100000 in
theorem c_X4_has_b16 {z : CTX} {J : JS} (O : OK z cX4_has RX4 2 STas 9 (rm_ 0 0) (some .boolean)) : ∀ (I : IS) (q : Int32), f_X4_has_b16 I = some q → G z 16 [] [] I J (some (.int q), I, J) := by
  intro I q hF
  rw [f_X4_has_b16] at hF
  refine g_iconst O (pc := 16) dX4_has_16 (ic_0) ?_
  refine g_sub [] (L' := []) rfl ?_
  exact c_X4_has_b17 O _ _ _ hF

def f_X4_has (x1 : Int32) (I : IS) : Option (Int32) :=
  if x1 < 0 then
  (f_X4_has_b16 (I))
  else
  (if (I (0) 8) ≤ x1 then
  (f_X4_has_b16 (I))
  else
  (f_X4_has_b17 ((1 : Int32)) (I)))
set_option maxHeartbeats 4000000 in
set_option maxRecDepth 100000 in
theorem c_X4_has_e {z : CTX} {J : JS} (O : OK z cX4_has RX4 2 STas 9 (rm_ 0 0) (some .boolean)) : ∀ (x1 : Int32) (I : IS) (q : Int32), f_X4_has x1 I = some q → G z 0 [(0, .ref (0)), (1, .int (x1))] [] I J (some (.int q), I, J) := by
  intro x1 I q hF
  rw [f_X4_has] at hF
  refine g_iload_n O (pc := 0) dX4_has_0 1 rfl ?_
  refine g_if_lt O (pc := 1) 16 dX4_has_1 (by decide) (fun h1 => ?_) (fun h1 => ?_)
  · rw [if_pos h1] at hF
    refine g_sub [] (L' := []) rfl ?_
    exact c_X4_has_b16 O _ _ hF
  · rw [if_neg h1] at hF
    refine g_iload_n O (pc := 4) dX4_has_4 1 rfl ?_
    refine g_aload_n O (pc := 5) dX4_has_5 0 rfl ?_
    refine g_getI O (pc := 6) isC_X4 dX4_has_6 fw_X4_36 (by decide) fd_STas_0_8 ?_
    refine g_icmp_ge O (pc := 9) 16 dX4_has_9 (by decide) (fun h2 => ?_) (fun h2 => ?_)
    · rw [if_pos h2] at hF
      refine g_sub [] (L' := []) rfl ?_
      exact c_X4_has_b16 O _ _ hF
    · rw [if_neg h2] at hF
      refine g_iconst O (pc := 12) dX4_has_12 (ic_1) ?_
      refine g_goto O (pc := 13) 17 dX4_has_13 (by decide) ?_
      refine g_sub [] (L' := []) rfl ?_
      exact c_X4_has_b17 O _ _ _ hF

theorem mc_X4_has {x1 : Int32} {I : IS} (J : JS) {q : Int32} (hF : f_X4_has x1 I = some q) : MC yX4_has cX4_has 2 (some .boolean) (rm_ 0 0) STas 9 [.ref (0), .int (x1)] I J (some (.int q), I, J) :=
  mc_of pn_X4 (Nat.le_of_ble_eq_true rfl) (fun z O => c_X4_has_e O _ _ _ hF)

def f_X4_depth_b35 (x2 : Int32) (I : IS) : Option (Int32) :=
  some (x2)
set_option maxHeartbeats 4000000 in
set_option maxRecDepth 100000 in
theorem c_X4_depth_b35 {z : CTX} {J : JS} (O : OK z cX4_depth RX4 4 STas 9 (rm_ 1 21) (some .int)) : ∀ (x2 : Int32) (I : IS) (q : Int32), f_X4_depth_b35 x2 I = some q → G z 35 [(2, .int (x2))] [] I J (some (.int q), I, J) := by
  intro x2 I q hF
  rw [f_X4_depth_b35] at hF
  refine g_iload_n O (pc := 35) dX4_depth_35 0 rfl ?_
  obtain rfl := Option.some.inj hF
  exact g_ireturn O (pc := 36) dX4_depth_36 rfl

def f_X4_depth_b9 : Nat → Int32 → Int32 → IS → Option (Int32)
  | 0, _, _, _ => none
  | fu + 1, x2, x3, I =>
    if (4 : Int32) ≤ x2 then
    (f_X4_depth_b35 (x2) (I))
    else
    ((f_X4_has (x3) I).bind fun q2 =>
    (if q2 = 0 then
    (f_X4_depth_b35 (x2) (I))
    else
    (if okI (x3) 32 = true then
    (f_X4_depth_b9 fu (x2 + (1 : Int32)) ((I (5) (x3).toNatClampNeg)) (I))
    else none)))
set_option maxHeartbeats 4000000 in
set_option maxRecDepth 100000 in
theorem c_X4_depth_b9 {z : CTX} {J : JS} (O : OK z cX4_depth RX4 4 STas 9 (rm_ 1 21) (some .int)) : ∀ (fu : Nat) (x2 : Int32) (x3 : Int32) (I : IS) (q : Int32), f_X4_depth_b9 fu x2 x3 I = some q → G z 9 [(0, .ref (0)), (2, .int (x2)), (3, .int (x3))] [] I J (some (.int q), I, J) := by
  intro fu
  induction fu with
  | zero =>
    intro x2 x3 I q hF
    cases hF
  | succ fu ih =>
    intro x2 x3 I q hF
    rw [f_X4_depth_b9] at hF
    refine g_iload_n O (pc := 9) dX4_depth_9 1 rfl ?_
    refine g_iconst O (pc := 10) dX4_depth_10 (ic_4) ?_
    refine g_icmp_ge O (pc := 11) 35 dX4_depth_11 (by decide) (fun h1 => ?_) (fun h1 => ?_)
    · rw [if_pos h1] at hF
      refine g_sub [1] (L' := [(2, .int (x2))]) rfl ?_
      exact c_X4_depth_b35 O _ _ _ hF
    · rw [if_neg h1] at hF
      refine g_aload_n O (pc := 14) dX4_depth_14 0 rfl ?_
      refine g_iload_n O (pc := 15) dX4_depth_15 2 rfl ?_
      obtain ⟨q2, e3, hF⟩ := bnd hF
      refine g_Vi O (pc := 16) (st := []) dX4_depth_16 (mc_X4_has J e3) cb_X4_has ml_X4_46 isC_X4 ob_STas (zm0 _ _ _ _ _ _ _) (rmok (Nat.le_of_ble_eq_true rfl) (Nat.le_of_ble_eq_true rfl)) (Nat.le_of_ble_eq_true rfl) rfl ?_
      refine g_if_eq O (pc := 19) 35 dX4_depth_19 (by decide) (fun h4 => ?_) (fun h4 => ?_)
      · rw [if_pos h4] at hF
        refine g_sub [1] (L' := [(2, .int (x2))]) rfl ?_
        exact c_X4_depth_b35 O _ _ _ hF
      · rw [if_neg h4] at hF
        refine g_aload_n O (pc := 22) dX4_depth_22 0 rfl ?_
        refine g_getR O (pc := 23) isC_X4 dX4_depth_23 fw_X4_24 (by decide) fd_STas_0_4 ?_
        refine g_iload_n O (pc := 26) dX4_depth_26 2 rfl ?_
        obtain ⟨h5, hF⟩ := gd hF
        refine g_il O (pc := 27) dX4_depth_27 ar_STas_5 h5 ?_
        refine g_istore_n O (pc := 28) (L' := [(3, .int ((I (5) (x3).toNatClampNeg))), (0, .ref (0)), (2, .int (x2))]) dX4_depth_28 (by decide) rfl ?_
        refine g_iinc O (pc := 29) (v := x2 + (1 : Int32)) (L' := [(2, .int (x2 + (1 : Int32))), (3, .int ((I (5) (x3).toNatClampNeg))), (0, .ref (0))]) dX4_depth_29 2 rfl rfl (by decide) rfl ?_
        refine g_goto O (pc := 32) 9 dX4_depth_32 (by decide) ?_
        refine g_sub [2, 0, 1] (L' := [(0, .ref (0)), (2, .int (x2 + (1 : Int32))), (3, .int ((I (5) (x3).toNatClampNeg)))]) rfl ?_
        exact ih _ _ _ _ hF

def f_X4_depth (x1 : Int32) (I : IS) : Option (Int32) :=
  if okI (x1) 32 = true then
  (f_X4_depth_b9 LF ((0 : Int32)) ((I (5) (x1).toNatClampNeg)) (I))
  else none
set_option maxHeartbeats 4000000 in
set_option maxRecDepth 100000 in
theorem c_X4_depth_e {z : CTX} {J : JS} (O : OK z cX4_depth RX4 4 STas 9 (rm_ 1 21) (some .int)) : ∀ (x1 : Int32) (I : IS) (q : Int32), f_X4_depth x1 I = some q → G z 0 [(0, .ref (0)), (1, .int (x1))] [] I J (some (.int q), I, J) := by
  intro x1 I q hF
  rw [f_X4_depth] at hF
  refine g_iconst O (pc := 0) dX4_depth_0 (ic_0) ?_
  refine g_istore_n O (pc := 1) (L' := [(2, .int ((0 : Int32))), (0, .ref (0)), (1, .int (x1))]) dX4_depth_1 (by decide) rfl ?_
  refine g_aload_n O (pc := 2) dX4_depth_2 1 rfl ?_
  refine g_getR O (pc := 3) isC_X4 dX4_depth_3 fw_X4_24 (by decide) fd_STas_0_4 ?_
  refine g_iload_n O (pc := 6) dX4_depth_6 2 rfl ?_
  obtain ⟨h1, hF⟩ := gd hF
  refine g_il O (pc := 7) dX4_depth_7 ar_STas_5 h1 ?_
  refine g_istore_n O (pc := 8) (L' := [(3, .int ((I (5) (x1).toNatClampNeg))), (2, .int ((0 : Int32))), (0, .ref (0)), (1, .int (x1))]) dX4_depth_8 (by decide) rfl ?_
  refine g_sub [2, 1, 0] (L' := [(0, .ref (0)), (2, .int ((0 : Int32))), (3, .int ((I (5) (x1).toNatClampNeg)))]) rfl ?_
  exact c_X4_depth_b9 O _ _ _ _ _ hF

theorem mc_X4_depth {x1 : Int32} {I : IS} (J : JS) {q : Int32} (hF : f_X4_depth x1 I = some q) : MC yX4_depth cX4_depth 4 (some .int) (rm_ 1 21) STas 9 [.ref (0), .int (x1)] I J (some (.int q), I, J) :=
  mc_of pn_X4 (Nat.le_of_ble_eq_true rfl) (fun z O => c_X4_depth_e O _ _ _ hF)

def f_X4_finish_b48 (k11 : Int32 → Int32 → Int32 → IS → Option (IS)) (x1 : Int32) (x2 : Int32) (x3 : Int32) (I : IS) : Option (IS) :=
  k11 (x1) (x2) (x3 + (1 : Int32)) (I)
set_option maxHeartbeats 4000000 in
set_option maxRecDepth 100000 in
theorem c_X4_finish_b48 {z : CTX} {J : JS} (O : OK z cX4_finish RX4 4 STas 9 (rm_ 0 0) none) {k11 : Int32 → Int32 → Int32 → IS → Option (IS)} (hk11 : ∀ (x1 : Int32) (x2 : Int32) (x3 : Int32) (I : IS) (q : IS), k11 x1 x2 x3 I = some q → G z 11 [(0, .ref (0)), (1, .int (x1)), (2, .int (x2)), (3, .int (x3))] [] I J (none, q, J)) : ∀ (x1 : Int32) (x2 : Int32) (x3 : Int32) (I : IS) (q : IS), f_X4_finish_b48 k11 x1 x2 x3 I = some q → G z 48 [(0, .ref (0)), (1, .int (x1)), (2, .int (x2)), (3, .int (x3))] [] I J (none, q, J) := by
  intro x1 x2 x3 I q hF
  rw [f_X4_finish_b48] at hF
  refine g_iinc O (pc := 48) (v := x3 + (1 : Int32)) (L' := [(3, .int (x3 + (1 : Int32))), (0, .ref (0)), (1, .int (x1)), (2, .int (x2))]) dX4_finish_48 3 rfl rfl (by decide) rfl ?_
  refine g_goto O (pc := 51) 11 dX4_finish_51 (by decide) ?_
  refine g_sub [1, 2, 3, 0] (L' := [(0, .ref (0)), (1, .int (x1)), (2, .int (x2)), (3, .int (x3 + (1 : Int32)))]) rfl ?_
  exact hk11 _ _ _ _ _ hF

def f_X4_finish_b11 : Nat → Int32 → Int32 → Int32 → IS → Option (IS)
  | 0, _, _, _, _ => none
  | fu + 1, x1, x2, x3, I =>
    if (I (0) 8) ≤ x3 then
    (if okI (x1) 32 = true then
    (if okI (x1) 32 = true then
    (some ((u2 (u2 I (4) (x1).toNatClampNeg ((3 : Int32))) (3) (x1).toNatClampNeg (x2))))
    else none)
    else none)
    else
    (if okI (x3) 32 = true then
    (if (I (5) (x3).toNatClampNeg) = x1 then
    (if okI (x3) 32 = true then
    (if (I (4) (x3).toNatClampNeg) = (3 : Int32) then
    (if okI (x3) 32 = true then
    (f_X4_finish_b48 (f_X4_finish_b11 fu) (x1) ((x2 + (I (3) (x3).toNatClampNeg))) (x3) (I))
    else none)
    else
    (f_X4_finish_b48 (f_X4_finish_b11 fu) (x1) (x2) (x3) (I)))
    else none)
    else
    (f_X4_finish_b48 (f_X4_finish_b11 fu) (x1) (x2) (x3) (I)))
    else none)
set_option maxHeartbeats 4000000 in
set_option maxRecDepth 100000 in
theorem c_X4_finish_b11 {z : CTX} {J : JS} (O : OK z cX4_finish RX4 4 STas 9 (rm_ 0 0) none) : ∀ (fu : Nat) (x1 : Int32) (x2 : Int32) (x3 : Int32) (I : IS) (q : IS), f_X4_finish_b11 fu x1 x2 x3 I = some q → G z 11 [(0, .ref (0)), (1, .int (x1)), (2, .int (x2)), (3, .int (x3))] [] I J (none, q, J) := by
  intro fu
  induction fu with
  | zero =>
    intro x1 x2 x3 I q hF
    cases hF
  | succ fu ih =>
    intro x1 x2 x3 I q hF
    rw [f_X4_finish_b11] at hF
    refine g_iload_n O (pc := 11) dX4_finish_11 3 rfl ?_
    refine g_aload_n O (pc := 12) dX4_finish_12 0 rfl ?_
    refine g_getI O (pc := 13) isC_X4 dX4_finish_13 fw_X4_36 (by decide) fd_STas_0_8 ?_
    refine g_icmp_ge O (pc := 16) 54 dX4_finish_16 (by decide) (fun h1 => ?_) (fun h1 => ?_)
    · rw [if_pos h1] at hF
      refine g_aload_n O (pc := 54) dX4_finish_54 0 rfl ?_
      refine g_getR O (pc := 55) isC_X4 dX4_finish_55 fw_X4_21 (by decide) fd_STas_0_3 ?_
      refine g_iload_n O (pc := 58) dX4_finish_58 1 rfl ?_
      refine g_iconst O (pc := 59) dX4_finish_59 (ic_3) ?_
      obtain ⟨h2, hF⟩ := gd hF
      refine g_is O (pc := 60) dX4_finish_60 ar_STas_4 h2 ?_
      refine g_aload_n O (pc := 61) dX4_finish_61 0 rfl ?_
      refine g_getR O (pc := 62) isC_X4 dX4_finish_62 fw_X4_18 (by decide) fd_STas_0_2 ?_
      refine g_iload_n O (pc := 65) dX4_finish_65 1 rfl ?_
      refine g_iload_n O (pc := 66) dX4_finish_66 2 rfl ?_
      obtain ⟨h3, hF⟩ := gd hF
      refine g_is O (pc := 67) dX4_finish_67 ar_STas_3 h3 ?_
      obtain rfl := Option.some.inj hF
      exact g_return O (pc := 68) dX4_finish_68 rfl
    · rw [if_neg h1] at hF
      refine g_aload_n O (pc := 19) dX4_finish_19 0 rfl ?_
      refine g_getR O (pc := 20) isC_X4 dX4_finish_20 fw_X4_24 (by decide) fd_STas_0_4 ?_
      refine g_iload_n O (pc := 23) dX4_finish_23 3 rfl ?_
      obtain ⟨h4, hF⟩ := gd hF
      refine g_il O (pc := 24) dX4_finish_24 ar_STas_5 h4 ?_
      refine g_iload_n O (pc := 25) dX4_finish_25 1 rfl ?_
      refine g_icmp_ne O (pc := 26) 48 dX4_finish_26 (by decide) (fun h5 => ?_) (fun h5 => ?_)
      · rw [if_neg h5] at hF
        refine g_sub [0, 1, 2, 3] (L' := [(0, .ref (0)), (1, .int (x1)), (2, .int (x2)), (3, .int (x3))]) rfl ?_
        exact c_X4_finish_b48 O ih _ _ _ _ _ hF
      · rw [if_pos h5] at hF
        refine g_aload_n O (pc := 29) dX4_finish_29 0 rfl ?_
        refine g_getR O (pc := 30) isC_X4 dX4_finish_30 fw_X4_21 (by decide) fd_STas_0_3 ?_
        refine g_iload_n O (pc := 33) dX4_finish_33 3 rfl ?_
        obtain ⟨h6, hF⟩ := gd hF
        refine g_il O (pc := 34) dX4_finish_34 ar_STas_4 h6 ?_
        refine g_iconst O (pc := 35) dX4_finish_35 (ic_3) ?_
        refine g_icmp_ne O (pc := 36) 48 dX4_finish_36 (by decide) (fun h7 => ?_) (fun h7 => ?_)
        · rw [if_neg h7] at hF
          refine g_sub [0, 1, 2, 3] (L' := [(0, .ref (0)), (1, .int (x1)), (2, .int (x2)), (3, .int (x3))]) rfl ?_
          exact c_X4_finish_b48 O ih _ _ _ _ _ hF
        · rw [if_pos h7] at hF
          refine g_iload_n O (pc := 39) dX4_finish_39 2 rfl ?_
          refine g_aload_n O (pc := 40) dX4_finish_40 0 rfl ?_
          refine g_getR O (pc := 41) isC_X4 dX4_finish_41 fw_X4_18 (by decide) fd_STas_0_2 ?_
          refine g_iload_n O (pc := 44) dX4_finish_44 3 rfl ?_
          obtain ⟨h8, hF⟩ := gd hF
          refine g_il O (pc := 45) dX4_finish_45 ar_STas_3 h8 ?_
          refine g_iadd O (pc := 46) dX4_finish_46 ?_
          refine g_istore_n O (pc := 47) (L' := [(2, .int ((x2 + (I (3) (x3).toNatClampNeg)))), (0, .ref (0)), (1, .int (x1)), (3, .int (x3))]) dX4_finish_47 (by decide) rfl ?_
          refine g_sub [1, 2, 0, 3] (L' := [(0, .ref (0)), (1, .int (x1)), (2, .int ((x2 + (I (3) (x3).toNatClampNeg)))), (3, .int (x3))]) rfl ?_
          exact c_X4_finish_b48 O ih _ _ _ _ _ hF

def f_X4_finish (x1 : Int32) (I : IS) : Option (IS) :=
  if okI (x1) 32 = true then
  (f_X4_finish_b11 LF (x1) ((I (1) (x1).toNatClampNeg)) ((x1 + (1 : Int32))) (I))
  else none
set_option maxHeartbeats 4000000 in
set_option maxRecDepth 100000 in
theorem c_X4_finish_e {z : CTX} {J : JS} (O : OK z cX4_finish RX4 4 STas 9 (rm_ 0 0) none) : ∀ (x1 : Int32) (I : IS) (q : IS), f_X4_finish x1 I = some q → G z 0 [(0, .ref (0)), (1, .int (x1))] [] I J (none, q, J) := by
  intro x1 I q hF
  rw [f_X4_finish] at hF
  refine g_aload_n O (pc := 0) dX4_finish_0 0 rfl ?_
  refine g_getR O (pc := 1) isC_X4 dX4_finish_1 fw_X4_9 (by decide) fd_STas_0_0 ?_
  refine g_iload_n O (pc := 4) dX4_finish_4 1 rfl ?_
  obtain ⟨h1, hF⟩ := gd hF
  refine g_il O (pc := 5) dX4_finish_5 ar_STas_1 h1 ?_
  refine g_istore_n O (pc := 6) (L' := [(2, .int ((I (1) (x1).toNatClampNeg))), (0, .ref (0)), (1, .int (x1))]) dX4_finish_6 (by decide) rfl ?_
  refine g_iload_n O (pc := 7) dX4_finish_7 2 rfl ?_
  refine g_iconst O (pc := 8) dX4_finish_8 (ic_1) ?_
  refine g_iadd O (pc := 9) dX4_finish_9 ?_
  refine g_istore_n O (pc := 10) (L' := [(3, .int ((x1 + (1 : Int32)))), (2, .int ((I (1) (x1).toNatClampNeg))), (0, .ref (0)), (1, .int (x1))]) dX4_finish_10 (by decide) rfl ?_
  refine g_sub [2, 3, 1, 0] (L' := [(0, .ref (0)), (1, .int (x1)), (2, .int ((I (1) (x1).toNatClampNeg))), (3, .int ((x1 + (1 : Int32))))]) rfl ?_
  exact c_X4_finish_b11 O _ _ _ _ _ _ hF

theorem mc_X4_finish {x1 : Int32} {I : IS} (J : JS) {q : IS} (hF : f_X4_finish x1 I = some q) : MC yX4_finish cX4_finish 4 none (rm_ 0 0) STas 9 [.ref (0), .int (x1)] I J (none, q, J) :=
  mc_of pn_X4 (Nat.le_of_ble_eq_true rfl) (fun z O => c_X4_finish_e O _ _ _ hF)

def f_X4_howManyDone_b25 (k4 : Int32 → Int32 → IS → Option (Int32)) (x1 : Int32) (x2 : Int32) (I : IS) : Option (Int32) :=
  k4 (x1) (x2 + (1 : Int32)) (I)
set_option maxHeartbeats 4000000 in
set_option maxRecDepth 100000 in
theorem c_X4_howManyDone_b25 {z : CTX} {J : JS} (O : OK z cX4_howManyDone RX4 3 STas 9 (rm_ 0 0) (some .int)) {k4 : Int32 → Int32 → IS → Option (Int32)} (hk4 : ∀ (x1 : Int32) (x2 : Int32) (I : IS) (q : Int32), k4 x1 x2 I = some q → G z 4 [(0, .ref (0)), (1, .int (x1)), (2, .int (x2))] [] I J (some (.int q), I, J)) : ∀ (x1 : Int32) (x2 : Int32) (I : IS) (q : Int32), f_X4_howManyDone_b25 k4 x1 x2 I = some q → G z 25 [(0, .ref (0)), (1, .int (x1)), (2, .int (x2))] [] I J (some (.int q), I, J) := by
  intro x1 x2 I q hF
  rw [f_X4_howManyDone_b25] at hF
  refine g_iinc O (pc := 25) (v := x2 + (1 : Int32)) (L' := [(2, .int (x2 + (1 : Int32))), (0, .ref (0)), (1, .int (x1))]) dX4_howManyDone_25 2 rfl rfl (by decide) rfl ?_
  refine g_goto O (pc := 28) 4 dX4_howManyDone_28 (by decide) ?_
  refine g_sub [1, 2, 0] (L' := [(0, .ref (0)), (1, .int (x1)), (2, .int (x2 + (1 : Int32)))]) rfl ?_
  exact hk4 _ _ _ _ hF

def f_X4_howManyDone_b4 : Nat → Int32 → Int32 → IS → Option (Int32)
  | 0, _, _, _ => none
  | fu + 1, x1, x2, I =>
    if (I (0) 8) ≤ x2 then
    (some (x1))
    else
    (if okI (x2) 32 = true then
    (if (I (4) (x2).toNatClampNeg) = (3 : Int32) then
    (f_X4_howManyDone_b25 (f_X4_howManyDone_b4 fu) (x1 + (1 : Int32)) (x2) (I))
    else
    (f_X4_howManyDone_b25 (f_X4_howManyDone_b4 fu) (x1) (x2) (I)))
    else none)
set_option maxHeartbeats 4000000 in
set_option maxRecDepth 100000 in
theorem c_X4_howManyDone_b4 {z : CTX} {J : JS} (O : OK z cX4_howManyDone RX4 3 STas 9 (rm_ 0 0) (some .int)) : ∀ (fu : Nat) (x1 : Int32) (x2 : Int32) (I : IS) (q : Int32), f_X4_howManyDone_b4 fu x1 x2 I = some q → G z 4 [(0, .ref (0)), (1, .int (x1)), (2, .int (x2))] [] I J (some (.int q), I, J) := by
  intro fu
  induction fu with
  | zero =>
    intro x1 x2 I q hF
    cases hF
  | succ fu ih =>
    intro x1 x2 I q hF
    rw [f_X4_howManyDone_b4] at hF
    refine g_iload_n O (pc := 4) dX4_howManyDone_4 2 rfl ?_
    refine g_aload_n O (pc := 5) dX4_howManyDone_5 0 rfl ?_
    refine g_getI O (pc := 6) isC_X4 dX4_howManyDone_6 fw_X4_36 (by decide) fd_STas_0_8 ?_
    refine g_icmp_ge O (pc := 9) 31 dX4_howManyDone_9 (by decide) (fun h1 => ?_) (fun h1 => ?_)
    · rw [if_pos h1] at hF
      refine g_iload_n O (pc := 31) dX4_howManyDone_31 1 rfl ?_
      obtain rfl := Option.some.inj hF
      exact g_ireturn O (pc := 32) dX4_howManyDone_32 rfl
    · rw [if_neg h1] at hF
      refine g_aload_n O (pc := 12) dX4_howManyDone_12 0 rfl ?_
      refine g_getR O (pc := 13) isC_X4 dX4_howManyDone_13 fw_X4_21 (by decide) fd_STas_0_3 ?_
      refine g_iload_n O (pc := 16) dX4_howManyDone_16 2 rfl ?_
      obtain ⟨h2, hF⟩ := gd hF
      refine g_il O (pc := 17) dX4_howManyDone_17 ar_STas_4 h2 ?_
      refine g_iconst O (pc := 18) dX4_howManyDone_18 (ic_3) ?_
      refine g_icmp_ne O (pc := 19) 25 dX4_howManyDone_19 (by decide) (fun h3 => ?_) (fun h3 => ?_)
      · rw [if_neg h3] at hF
        refine g_sub [0, 1, 2] (L' := [(0, .ref (0)), (1, .int (x1)), (2, .int (x2))]) rfl ?_
        exact c_X4_howManyDone_b25 O ih _ _ _ _ hF
      · rw [if_pos h3] at hF
        refine g_iinc O (pc := 22) (v := x1 + (1 : Int32)) (L' := [(1, .int (x1 + (1 : Int32))), (0, .ref (0)), (2, .int (x2))]) dX4_howManyDone_22 1 rfl rfl (by decide) rfl ?_
        refine g_sub [1, 0, 2] (L' := [(0, .ref (0)), (1, .int (x1 + (1 : Int32))), (2, .int (x2))]) rfl ?_
        exact c_X4_howManyDone_b25 O ih _ _ _ _ hF

def f_X4_howManyDone (I : IS) : Option (Int32) :=
  f_X4_howManyDone_b4 LF ((0 : Int32)) ((0 : Int32)) (I)
set_option maxHeartbeats 4000000 in
set_option maxRecDepth 100000 in
theorem c_X4_howManyDone_e {z : CTX} {J : JS} (O : OK z cX4_howManyDone RX4 3 STas 9 (rm_ 0 0) (some .int)) : ∀ (I : IS) (q : Int32), f_X4_howManyDone I = some q → G z 0 [(0, .ref (0))] [] I J (some (.int q), I, J) := by
  intro I q hF
  rw [f_X4_howManyDone] at hF
  refine g_iconst O (pc := 0) dX4_howManyDone_0 (ic_0) ?_
  refine g_istore_n O (pc := 1) (L' := [(1, .int ((0 : Int32))), (0, .ref (0))]) dX4_howManyDone_1 (by decide) rfl ?_
  refine g_iconst O (pc := 2) dX4_howManyDone_2 (ic_0) ?_
  refine g_istore_n O (pc := 3) (L' := [(2, .int ((0 : Int32))), (1, .int ((0 : Int32))), (0, .ref (0))]) dX4_howManyDone_3 (by decide) rfl ?_
  refine g_sub [2, 1, 0] (L' := [(0, .ref (0)), (1, .int ((0 : Int32))), (2, .int ((0 : Int32)))]) rfl ?_
  exact c_X4_howManyDone_b4 O _ _ _ _ _ hF

theorem mc_X4_howManyDone {I : IS} (J : JS) {q : Int32} (hF : f_X4_howManyDone I = some q) : MC yX4_howManyDone cX4_howManyDone 3 (some .int) (rm_ 0 0) STas 9 [.ref (0)] I J (some (.int q), I, J) :=
  mc_of pn_X4 (Nat.le_of_ble_eq_true rfl) (fun z O => c_X4_howManyDone_e O _ _ hF)

def f_X4_howManyEnded_b25 (k4 : Int32 → Int32 → IS → Option (Int32)) (x1 : Int32) (x2 : Int32) (I : IS) : Option (Int32) :=
  k4 (x1) (x2 + (1 : Int32)) (I)
set_option maxHeartbeats 4000000 in
set_option maxRecDepth 100000 in
theorem c_X4_howManyEnded_b25 {z : CTX} {J : JS} (O : OK z cX4_howManyEnded RX4 3 STas 9 (rm_ 0 0) (some .int)) {k4 : Int32 → Int32 → IS → Option (Int32)} (hk4 : ∀ (x1 : Int32) (x2 : Int32) (I : IS) (q : Int32), k4 x1 x2 I = some q → G z 4 [(0, .ref (0)), (1, .int (x1)), (2, .int (x2))] [] I J (some (.int q), I, J)) : ∀ (x1 : Int32) (x2 : Int32) (I : IS) (q : Int32), f_X4_howManyEnded_b25 k4 x1 x2 I = some q → G z 25 [(0, .ref (0)), (1, .int (x1)), (2, .int (x2))] [] I J (some (.int q), I, J) := by
  intro x1 x2 I q hF
  rw [f_X4_howManyEnded_b25] at hF
  refine g_iinc O (pc := 25) (v := x2 + (1 : Int32)) (L' := [(2, .int (x2 + (1 : Int32))), (0, .ref (0)), (1, .int (x1))]) dX4_howManyEnded_25 2 rfl rfl (by decide) rfl ?_
  refine g_goto O (pc := 28) 4 dX4_howManyEnded_28 (by decide) ?_
  refine g_sub [1, 2, 0] (L' := [(0, .ref (0)), (1, .int (x1)), (2, .int (x2 + (1 : Int32)))]) rfl ?_
  exact hk4 _ _ _ _ hF

def f_X4_howManyEnded_b4 : Nat → Int32 → Int32 → IS → Option (Int32)
  | 0, _, _, _ => none
  | fu + 1, x1, x2, I =>
    if (I (0) 8) ≤ x2 then
    (some (x1))
    else
    (if okI (x2) 32 = true then
    (if (I (4) (x2).toNatClampNeg) < (3 : Int32) then
    (f_X4_howManyEnded_b25 (f_X4_howManyEnded_b4 fu) (x1) (x2) (I))
    else
    (f_X4_howManyEnded_b25 (f_X4_howManyEnded_b4 fu) (x1 + (1 : Int32)) (x2) (I)))
    else none)
set_option maxHeartbeats 4000000 in
set_option maxRecDepth 100000 in
theorem c_X4_howManyEnded_b4 {z : CTX} {J : JS} (O : OK z cX4_howManyEnded RX4 3 STas 9 (rm_ 0 0) (some .int)) : ∀ (fu : Nat) (x1 : Int32) (x2 : Int32) (I : IS) (q : Int32), f_X4_howManyEnded_b4 fu x1 x2 I = some q → G z 4 [(0, .ref (0)), (1, .int (x1)), (2, .int (x2))] [] I J (some (.int q), I, J) := by
  intro fu
  induction fu with
  | zero =>
    intro x1 x2 I q hF
    cases hF
  | succ fu ih =>
    intro x1 x2 I q hF
    rw [f_X4_howManyEnded_b4] at hF
    refine g_iload_n O (pc := 4) dX4_howManyEnded_4 2 rfl ?_
    refine g_aload_n O (pc := 5) dX4_howManyEnded_5 0 rfl ?_
    refine g_getI O (pc := 6) isC_X4 dX4_howManyEnded_6 fw_X4_36 (by decide) fd_STas_0_8 ?_
    refine g_icmp_ge O (pc := 9) 31 dX4_howManyEnded_9 (by decide) (fun h1 => ?_) (fun h1 => ?_)
    · rw [if_pos h1] at hF
      refine g_iload_n O (pc := 31) dX4_howManyEnded_31 1 rfl ?_
      obtain rfl := Option.some.inj hF
      exact g_ireturn O (pc := 32) dX4_howManyEnded_32 rfl
    · rw [if_neg h1] at hF
      refine g_aload_n O (pc := 12) dX4_howManyEnded_12 0 rfl ?_
      refine g_getR O (pc := 13) isC_X4 dX4_howManyEnded_13 fw_X4_21 (by decide) fd_STas_0_3 ?_
      refine g_iload_n O (pc := 16) dX4_howManyEnded_16 2 rfl ?_
      obtain ⟨h2, hF⟩ := gd hF
      refine g_il O (pc := 17) dX4_howManyEnded_17 ar_STas_4 h2 ?_
      refine g_iconst O (pc := 18) dX4_howManyEnded_18 (ic_3) ?_
      refine g_icmp_lt O (pc := 19) 25 dX4_howManyEnded_19 (by decide) (fun h3 => ?_) (fun h3 => ?_)
      · rw [if_pos h3] at hF
        refine g_sub [0, 1, 2] (L' := [(0, .ref (0)), (1, .int (x1)), (2, .int (x2))]) rfl ?_
        exact c_X4_howManyEnded_b25 O ih _ _ _ _ hF
      · rw [if_neg h3] at hF
        refine g_iinc O (pc := 22) (v := x1 + (1 : Int32)) (L' := [(1, .int (x1 + (1 : Int32))), (0, .ref (0)), (2, .int (x2))]) dX4_howManyEnded_22 1 rfl rfl (by decide) rfl ?_
        refine g_sub [1, 0, 2] (L' := [(0, .ref (0)), (1, .int (x1 + (1 : Int32))), (2, .int (x2))]) rfl ?_
        exact c_X4_howManyEnded_b25 O ih _ _ _ _ hF

def f_X4_howManyEnded (I : IS) : Option (Int32) :=
  f_X4_howManyEnded_b4 LF ((0 : Int32)) ((0 : Int32)) (I)
set_option maxHeartbeats 4000000 in
set_option maxRecDepth 100000 in
theorem c_X4_howManyEnded_e {z : CTX} {J : JS} (O : OK z cX4_howManyEnded RX4 3 STas 9 (rm_ 0 0) (some .int)) : ∀ (I : IS) (q : Int32), f_X4_howManyEnded I = some q → G z 0 [(0, .ref (0))] [] I J (some (.int q), I, J) := by
  intro I q hF
  rw [f_X4_howManyEnded] at hF
  refine g_iconst O (pc := 0) dX4_howManyEnded_0 (ic_0) ?_
  refine g_istore_n O (pc := 1) (L' := [(1, .int ((0 : Int32))), (0, .ref (0))]) dX4_howManyEnded_1 (by decide) rfl ?_
  refine g_iconst O (pc := 2) dX4_howManyEnded_2 (ic_0) ?_
  refine g_istore_n O (pc := 3) (L' := [(2, .int ((0 : Int32))), (1, .int ((0 : Int32))), (0, .ref (0))]) dX4_howManyEnded_3 (by decide) rfl ?_
  refine g_sub [2, 1, 0] (L' := [(0, .ref (0)), (1, .int ((0 : Int32))), (2, .int ((0 : Int32)))]) rfl ?_
  exact c_X4_howManyEnded_b4 O _ _ _ _ _ hF

theorem mc_X4_howManyEnded {I : IS} (J : JS) {q : Int32} (hF : f_X4_howManyEnded I = some q) : MC yX4_howManyEnded cX4_howManyEnded 3 (some .int) (rm_ 0 0) STas 9 [.ref (0)] I J (some (.int q), I, J) :=
  mc_of pn_X4 (Nat.le_of_ble_eq_true rfl) (fun z O => c_X4_howManyEnded_e O _ _ hF)

def f_X4_howManyIn_b27 (k6 : Int32 → Int32 → Int32 → IS → Option (Int32)) (x1 : Int32) (x2 : Int32) (x3 : Int32) (I : IS) : Option (Int32) :=
  k6 (x1) (x2) (x3 + (1 : Int32)) (I)
set_option maxHeartbeats 4000000 in
set_option maxRecDepth 100000 in
theorem c_X4_howManyIn_b27 {z : CTX} {J : JS} (O : OK z cX4_howManyIn RX4 4 STas 9 (rm_ 0 0) (some .int)) {k6 : Int32 → Int32 → Int32 → IS → Option (Int32)} (hk6 : ∀ (x1 : Int32) (x2 : Int32) (x3 : Int32) (I : IS) (q : Int32), k6 x1 x2 x3 I = some q → G z 6 [(0, .ref (0)), (1, .int (x1)), (2, .int (x2)), (3, .int (x3))] [] I J (some (.int q), I, J)) : ∀ (x1 : Int32) (x2 : Int32) (x3 : Int32) (I : IS) (q : Int32), f_X4_howManyIn_b27 k6 x1 x2 x3 I = some q → G z 27 [(0, .ref (0)), (1, .int (x1)), (2, .int (x2)), (3, .int (x3))] [] I J (some (.int q), I, J) := by
  intro x1 x2 x3 I q hF
  rw [f_X4_howManyIn_b27] at hF
  refine g_iinc O (pc := 27) (v := x3 + (1 : Int32)) (L' := [(3, .int (x3 + (1 : Int32))), (0, .ref (0)), (1, .int (x1)), (2, .int (x2))]) dX4_howManyIn_27 3 rfl rfl (by decide) rfl ?_
  refine g_goto O (pc := 30) 6 dX4_howManyIn_30 (by decide) ?_
  refine g_sub [1, 2, 3, 0] (L' := [(0, .ref (0)), (1, .int (x1)), (2, .int (x2)), (3, .int (x3 + (1 : Int32)))]) rfl ?_
  exact hk6 _ _ _ _ _ hF

def f_X4_howManyIn_b6 : Nat → Int32 → Int32 → Int32 → IS → Option (Int32)
  | 0, _, _, _, _ => none
  | fu + 1, x1, x2, x3, I =>
    if (I (0) 8) ≤ x3 then
    (some (x2))
    else
    (if okI (x3) 32 = true then
    (if (I (5) (x3).toNatClampNeg) = x1 then
    (f_X4_howManyIn_b27 (f_X4_howManyIn_b6 fu) (x1) (x2 + (1 : Int32)) (x3) (I))
    else
    (f_X4_howManyIn_b27 (f_X4_howManyIn_b6 fu) (x1) (x2) (x3) (I)))
    else none)
set_option maxHeartbeats 4000000 in
set_option maxRecDepth 100000 in
theorem c_X4_howManyIn_b6 {z : CTX} {J : JS} (O : OK z cX4_howManyIn RX4 4 STas 9 (rm_ 0 0) (some .int)) : ∀ (fu : Nat) (x1 : Int32) (x2 : Int32) (x3 : Int32) (I : IS) (q : Int32), f_X4_howManyIn_b6 fu x1 x2 x3 I = some q → G z 6 [(0, .ref (0)), (1, .int (x1)), (2, .int (x2)), (3, .int (x3))] [] I J (some (.int q), I, J) := by
  intro fu
  induction fu with
  | zero =>
    intro x1 x2 x3 I q hF
    cases hF
  | succ fu ih =>
    intro x1 x2 x3 I q hF
    rw [f_X4_howManyIn_b6] at hF
    refine g_iload_n O (pc := 6) dX4_howManyIn_6 3 rfl ?_
    refine g_aload_n O (pc := 7) dX4_howManyIn_7 0 rfl ?_
    refine g_getI O (pc := 8) isC_X4 dX4_howManyIn_8 fw_X4_36 (by decide) fd_STas_0_8 ?_
    refine g_icmp_ge O (pc := 11) 33 dX4_howManyIn_11 (by decide) (fun h1 => ?_) (fun h1 => ?_)
    · rw [if_pos h1] at hF
      refine g_iload_n O (pc := 33) dX4_howManyIn_33 2 rfl ?_
      obtain rfl := Option.some.inj hF
      exact g_ireturn O (pc := 34) dX4_howManyIn_34 rfl
    · rw [if_neg h1] at hF
      refine g_aload_n O (pc := 14) dX4_howManyIn_14 0 rfl ?_
      refine g_getR O (pc := 15) isC_X4 dX4_howManyIn_15 fw_X4_24 (by decide) fd_STas_0_4 ?_
      refine g_iload_n O (pc := 18) dX4_howManyIn_18 3 rfl ?_
      obtain ⟨h2, hF⟩ := gd hF
      refine g_il O (pc := 19) dX4_howManyIn_19 ar_STas_5 h2 ?_
      refine g_iload_n O (pc := 20) dX4_howManyIn_20 1 rfl ?_
      refine g_icmp_ne O (pc := 21) 27 dX4_howManyIn_21 (by decide) (fun h3 => ?_) (fun h3 => ?_)
      · rw [if_neg h3] at hF
        refine g_sub [0, 1, 2, 3] (L' := [(0, .ref (0)), (1, .int (x1)), (2, .int (x2)), (3, .int (x3))]) rfl ?_
        exact c_X4_howManyIn_b27 O ih _ _ _ _ _ hF
      · rw [if_pos h3] at hF
        refine g_iinc O (pc := 24) (v := x2 + (1 : Int32)) (L' := [(2, .int (x2 + (1 : Int32))), (0, .ref (0)), (1, .int (x1)), (3, .int (x3))]) dX4_howManyIn_24 2 rfl rfl (by decide) rfl ?_
        refine g_sub [1, 2, 0, 3] (L' := [(0, .ref (0)), (1, .int (x1)), (2, .int (x2 + (1 : Int32))), (3, .int (x3))]) rfl ?_
        exact c_X4_howManyIn_b27 O ih _ _ _ _ _ hF

def f_X4_howManyIn (x1 : Int32) (I : IS) : Option (Int32) :=
  f_X4_howManyIn_b6 LF (x1) ((0 : Int32)) ((x1 + (1 : Int32))) (I)
set_option maxHeartbeats 4000000 in
set_option maxRecDepth 100000 in
theorem c_X4_howManyIn_e {z : CTX} {J : JS} (O : OK z cX4_howManyIn RX4 4 STas 9 (rm_ 0 0) (some .int)) : ∀ (x1 : Int32) (I : IS) (q : Int32), f_X4_howManyIn x1 I = some q → G z 0 [(0, .ref (0)), (1, .int (x1))] [] I J (some (.int q), I, J) := by
  intro x1 I q hF
  rw [f_X4_howManyIn] at hF
  refine g_iconst O (pc := 0) dX4_howManyIn_0 (ic_0) ?_
  refine g_istore_n O (pc := 1) (L' := [(2, .int ((0 : Int32))), (0, .ref (0)), (1, .int (x1))]) dX4_howManyIn_1 (by decide) rfl ?_
  refine g_iload_n O (pc := 2) dX4_howManyIn_2 2 rfl ?_
  refine g_iconst O (pc := 3) dX4_howManyIn_3 (ic_1) ?_
  refine g_iadd O (pc := 4) dX4_howManyIn_4 ?_
  refine g_istore_n O (pc := 5) (L' := [(3, .int ((x1 + (1 : Int32)))), (2, .int ((0 : Int32))), (0, .ref (0)), (1, .int (x1))]) dX4_howManyIn_5 (by decide) rfl ?_
  refine g_sub [2, 3, 1, 0] (L' := [(0, .ref (0)), (1, .int (x1)), (2, .int ((0 : Int32))), (3, .int ((x1 + (1 : Int32))))]) rfl ?_
  exact c_X4_howManyIn_b6 O _ _ _ _ _ _ hF

theorem mc_X4_howManyIn {x1 : Int32} {I : IS} (J : JS) {q : Int32} (hF : f_X4_howManyIn x1 I = some q) : MC yX4_howManyIn cX4_howManyIn 4 (some .int) (rm_ 0 0) STas 9 [.ref (0), .int (x1)] I J (some (.int q), I, J) :=
  mc_of pn_X4 (Nat.le_of_ble_eq_true rfl) (fun z O => c_X4_howManyIn_e O _ _ _ hF)

def f_X4_isBelow_b44 (s0 : Int32) (I : IS) : Option (Int32) :=
  if okZ (s0) = true then some (s0) else none
set_option maxHeartbeats 4000000 in
set_option maxRecDepth 100000 in
theorem c_X4_isBelow_b44 {z : CTX} {J : JS} (O : OK z cX4_isBelow RX4 5 STas 9 (rm_ 0 0) (some .boolean)) : ∀ (s0 : Int32) (I : IS) (q : Int32), f_X4_isBelow_b44 s0 I = some q → G z 44 [] [.int (s0)] I J (some (.int q), I, J) := by
  intro s0 I q hF
  rw [f_X4_isBelow_b44] at hF
  obtain ⟨h1, hF⟩ := gd hF
  obtain rfl := Option.some.inj hF
  exact g_zreturn O (pc := 44) dX4_isBelow_44 h1 rfl

def f_X4_isBelow_b34 (x2 : Int32) (x3 : Int32) (I : IS) : Option (Int32) :=
  if x3 = x2 then
  (f_X4_isBelow_b44 ((1 : Int32)) (I))
  else
  (f_X4_isBelow_b44 ((0 : Int32)) (I))
set_option maxHeartbeats 4000000 in
set_option maxRecDepth 100000 in
theorem c_X4_isBelow_b34 {z : CTX} {J : JS} (O : OK z cX4_isBelow RX4 5 STas 9 (rm_ 0 0) (some .boolean)) : ∀ (x2 : Int32) (x3 : Int32) (I : IS) (q : Int32), f_X4_isBelow_b34 x2 x3 I = some q → G z 34 [(2, .int (x2)), (3, .int (x3))] [] I J (some (.int q), I, J) := by
  intro x2 x3 I q hF
  rw [f_X4_isBelow_b34] at hF
  refine g_iload_n O (pc := 34) dX4_isBelow_34 1 rfl ?_
  refine g_iload_n O (pc := 35) dX4_isBelow_35 0 rfl ?_
  refine g_icmp_ne O (pc := 36) 43 dX4_isBelow_36 (by decide) (fun h1 => ?_) (fun h1 => ?_)
  · rw [if_neg h1] at hF
    refine g_iconst O (pc := 43) dX4_isBelow_43 (ic_0) ?_
    refine g_sub [] (L' := []) rfl ?_
    exact c_X4_isBelow_b44 O _ _ _ hF
  · rw [if_pos h1] at hF
    refine g_iconst O (pc := 39) dX4_isBelow_39 (ic_1) ?_
    refine g_goto O (pc := 40) 44 dX4_isBelow_40 (by decide) ?_
    refine g_sub [] (L' := []) rfl ?_
    exact c_X4_isBelow_b44 O _ _ _ hF

def f_X4_isBelow_b10 : Nat → Int32 → Int32 → Int32 → IS → Option (Int32)
  | 0, _, _, _, _ => none
  | fu + 1, x2, x3, x4, I =>
    if (4 : Int32) ≤ x4 then
    (f_X4_isBelow_b34 (x2) (x3) (I))
    else
    (if x3 ≤ x2 then
    (f_X4_isBelow_b34 (x2) (x3) (I))
    else
    (if okI (x3) 32 = true then
    (f_X4_isBelow_b10 fu (x2) ((I (5) (x3).toNatClampNeg)) (x4 + (1 : Int32)) (I))
    else none))
set_option maxHeartbeats 4000000 in
set_option maxRecDepth 100000 in
theorem c_X4_isBelow_b10 {z : CTX} {J : JS} (O : OK z cX4_isBelow RX4 5 STas 9 (rm_ 0 0) (some .boolean)) : ∀ (fu : Nat) (x2 : Int32) (x3 : Int32) (x4 : Int32) (I : IS) (q : Int32), f_X4_isBelow_b10 fu x2 x3 x4 I = some q → G z 10 [(0, .ref (0)), (2, .int (x2)), (3, .int (x3)), (4, .int (x4))] [] I J (some (.int q), I, J) := by
  intro fu
  induction fu with
  | zero =>
    intro x2 x3 x4 I q hF
    cases hF
  | succ fu ih =>
    intro x2 x3 x4 I q hF
    rw [f_X4_isBelow_b10] at hF
    refine g_iload O (pc := 10) dX4_isBelow_10 3 rfl ?_
    refine g_iconst O (pc := 12) dX4_isBelow_12 (ic_4) ?_
    refine g_icmp_ge O (pc := 13) 34 dX4_isBelow_13 (by decide) (fun h1 => ?_) (fun h1 => ?_)
    · rw [if_pos h1] at hF
      refine g_sub [1, 2] (L' := [(2, .int (x2)), (3, .int (x3))]) rfl ?_
      exact c_X4_isBelow_b34 O _ _ _ _ hF
    · rw [if_neg h1] at hF
      refine g_iload_n O (pc := 16) dX4_isBelow_16 2 rfl ?_
      refine g_iload_n O (pc := 17) dX4_isBelow_17 1 rfl ?_
      refine g_icmp_le O (pc := 18) 34 dX4_isBelow_18 (by decide) (fun h2 => ?_) (fun h2 => ?_)
      · rw [if_pos h2] at hF
        refine g_sub [1, 2] (L' := [(2, .int (x2)), (3, .int (x3))]) rfl ?_
        exact c_X4_isBelow_b34 O _ _ _ _ hF
      · rw [if_neg h2] at hF
        refine g_aload_n O (pc := 21) dX4_isBelow_21 0 rfl ?_
        refine g_getR O (pc := 22) isC_X4 dX4_isBelow_22 fw_X4_24 (by decide) fd_STas_0_4 ?_
        refine g_iload_n O (pc := 25) dX4_isBelow_25 2 rfl ?_
        obtain ⟨h3, hF⟩ := gd hF
        refine g_il O (pc := 26) dX4_isBelow_26 ar_STas_5 h3 ?_
        refine g_istore_n O (pc := 27) (L' := [(3, .int ((I (5) (x3).toNatClampNeg))), (0, .ref (0)), (2, .int (x2)), (4, .int (x4))]) dX4_isBelow_27 (by decide) rfl ?_
        refine g_iinc O (pc := 28) (v := x4 + (1 : Int32)) (L' := [(4, .int (x4 + (1 : Int32))), (3, .int ((I (5) (x3).toNatClampNeg))), (0, .ref (0)), (2, .int (x2))]) dX4_isBelow_28 3 rfl rfl (by decide) rfl ?_
        refine g_goto O (pc := 31) 10 dX4_isBelow_31 (by decide) ?_
        refine g_sub [2, 3, 1, 0] (L' := [(0, .ref (0)), (2, .int (x2)), (3, .int ((I (5) (x3).toNatClampNeg))), (4, .int (x4 + (1 : Int32)))]) rfl ?_
        exact ih _ _ _ _ _ hF

def f_X4_isBelow (x1 : Int32) (x2 : Int32) (I : IS) : Option (Int32) :=
  if okI (x1) 32 = true then
  (f_X4_isBelow_b10 LF (x2) ((I (5) (x1).toNatClampNeg)) ((0 : Int32)) (I))
  else none
set_option maxHeartbeats 4000000 in
set_option maxRecDepth 100000 in
theorem c_X4_isBelow_e {z : CTX} {J : JS} (O : OK z cX4_isBelow RX4 5 STas 9 (rm_ 0 0) (some .boolean)) : ∀ (x1 : Int32) (x2 : Int32) (I : IS) (q : Int32), f_X4_isBelow x1 x2 I = some q → G z 0 [(0, .ref (0)), (1, .int (x1)), (2, .int (x2))] [] I J (some (.int q), I, J) := by
  intro x1 x2 I q hF
  rw [f_X4_isBelow] at hF
  refine g_aload_n O (pc := 0) dX4_isBelow_0 0 rfl ?_
  refine g_getR O (pc := 1) isC_X4 dX4_isBelow_1 fw_X4_24 (by decide) fd_STas_0_4 ?_
  refine g_iload_n O (pc := 4) dX4_isBelow_4 1 rfl ?_
  obtain ⟨h1, hF⟩ := gd hF
  refine g_il O (pc := 5) dX4_isBelow_5 ar_STas_5 h1 ?_
  refine g_istore_n O (pc := 6) (L' := [(3, .int ((I (5) (x1).toNatClampNeg))), (0, .ref (0)), (1, .int (x1)), (2, .int (x2))]) dX4_isBelow_6 (by decide) rfl ?_
  refine g_iconst O (pc := 7) dX4_isBelow_7 (ic_0) ?_
  refine g_istore O (pc := 8) (L' := [(4, .int ((0 : Int32))), (3, .int ((I (5) (x1).toNatClampNeg))), (0, .ref (0)), (1, .int (x1)), (2, .int (x2))]) dX4_isBelow_8 (by decide) rfl ?_
  refine g_sub [2, 4, 1, 0] (L' := [(0, .ref (0)), (2, .int (x2)), (3, .int ((I (5) (x1).toNatClampNeg))), (4, .int ((0 : Int32)))]) rfl ?_
  exact c_X4_isBelow_b10 O _ _ _ _ _ _ hF

theorem mc_X4_isBelow {x1 : Int32} {x2 : Int32} {I : IS} (J : JS) {q : Int32} (hF : f_X4_isBelow x1 x2 I = some q) : MC yX4_isBelow cX4_isBelow 5 (some .boolean) (rm_ 0 0) STas 9 [.ref (0), .int (x1), .int (x2)] I J (some (.int q), I, J) :=
  mc_of pn_X4 (Nat.le_of_ble_eq_true rfl) (fun z O => c_X4_isBelow_e O _ _ _ _ hF)

def f_X4_isEnded_b23 (s0 : Int32) (I : IS) : Option (Int32) :=
  if okZ (s0) = true then some (s0) else none
set_option maxHeartbeats 4000000 in
set_option maxRecDepth 100000 in
theorem c_X4_isEnded_b23 {z : CTX} {J : JS} (O : OK z cX4_isEnded RX4 2 STas 9 (rm_ 1 21) (some .boolean)) : ∀ (s0 : Int32) (I : IS) (q : Int32), f_X4_isEnded_b23 s0 I = some q → G z 23 [] [.int (s0)] I J (some (.int q), I, J) := by
  intro s0 I q hF
  rw [f_X4_isEnded_b23] at hF
  obtain ⟨h1, hF⟩ := gd hF
  obtain rfl := Option.some.inj hF
  exact g_zreturn O (pc := 23) dX4_isEnded_23 h1 rfl

def f_X4_isEnded_b22 (I : IS) : Option (Int32) :=
  f_X4_isEnded_b23 ((0 : Int32)) (I)
set_option maxHeartbeats 4000000 in
set_option maxRecDepth 100000 in
theorem c_X4_isEnded_b22 {z : CTX} {J : JS} (O : OK z cX4_isEnded RX4 2 STas 9 (rm_ 1 21) (some .boolean)) : ∀ (I : IS) (q : Int32), f_X4_isEnded_b22 I = some q → G z 22 [] [] I J (some (.int q), I, J) := by
  intro I q hF
  rw [f_X4_isEnded_b22] at hF
  refine g_iconst O (pc := 22) dX4_isEnded_22 (ic_0) ?_
  refine g_sub [] (L' := []) rfl ?_
  exact c_X4_isEnded_b23 O _ _ _ hF

def f_X4_isEnded (x1 : Int32) (I : IS) : Option (Int32) :=
  (f_X4_has (x1) I).bind fun q1 =>
  (if q1 = 0 then
  (f_X4_isEnded_b22 (I))
  else
  (if okI (x1) 32 = true then
  (if (I (4) (x1).toNatClampNeg) < (3 : Int32) then
  (f_X4_isEnded_b22 (I))
  else
  (f_X4_isEnded_b23 ((1 : Int32)) (I)))
  else none))
set_option maxHeartbeats 4000000 in
set_option maxRecDepth 100000 in
theorem c_X4_isEnded_e {z : CTX} {J : JS} (O : OK z cX4_isEnded RX4 2 STas 9 (rm_ 1 21) (some .boolean)) : ∀ (x1 : Int32) (I : IS) (q : Int32), f_X4_isEnded x1 I = some q → G z 0 [(0, .ref (0)), (1, .int (x1))] [] I J (some (.int q), I, J) := by
  intro x1 I q hF
  rw [f_X4_isEnded] at hF
  refine g_aload_n O (pc := 0) dX4_isEnded_0 0 rfl ?_
  refine g_iload_n O (pc := 1) dX4_isEnded_1 1 rfl ?_
  obtain ⟨q1, e2, hF⟩ := bnd hF
  refine g_Vi O (pc := 2) (st := []) dX4_isEnded_2 (mc_X4_has J e2) cb_X4_has ml_X4_46 isC_X4 ob_STas (zm0 _ _ _ _ _ _ _) (rmok (Nat.le_of_ble_eq_true rfl) (Nat.le_of_ble_eq_true rfl)) (Nat.le_of_ble_eq_true rfl) rfl ?_
  refine g_if_eq O (pc := 5) 22 dX4_isEnded_5 (by decide) (fun h3 => ?_) (fun h3 => ?_)
  · rw [if_pos h3] at hF
    refine g_sub [] (L' := []) rfl ?_
    exact c_X4_isEnded_b22 O _ _ hF
  · rw [if_neg h3] at hF
    refine g_aload_n O (pc := 8) dX4_isEnded_8 0 rfl ?_
    refine g_getR O (pc := 9) isC_X4 dX4_isEnded_9 fw_X4_21 (by decide) fd_STas_0_3 ?_
    refine g_iload_n O (pc := 12) dX4_isEnded_12 1 rfl ?_
    obtain ⟨h4, hF⟩ := gd hF
    refine g_il O (pc := 13) dX4_isEnded_13 ar_STas_4 h4 ?_
    refine g_iconst O (pc := 14) dX4_isEnded_14 (ic_3) ?_
    refine g_icmp_lt O (pc := 15) 22 dX4_isEnded_15 (by decide) (fun h5 => ?_) (fun h5 => ?_)
    · rw [if_pos h5] at hF
      refine g_sub [] (L' := []) rfl ?_
      exact c_X4_isEnded_b22 O _ _ hF
    · rw [if_neg h5] at hF
      refine g_iconst O (pc := 18) dX4_isEnded_18 (ic_1) ?_
      refine g_goto O (pc := 19) 23 dX4_isEnded_19 (by decide) ?_
      refine g_sub [] (L' := []) rfl ?_
      exact c_X4_isEnded_b23 O _ _ _ hF

theorem mc_X4_isEnded {x1 : Int32} {I : IS} (J : JS) {q : Int32} (hF : f_X4_isEnded x1 I = some q) : MC yX4_isEnded cX4_isEnded 2 (some .boolean) (rm_ 1 21) STas 9 [.ref (0), .int (x1)] I J (some (.int q), I, J) :=
  mc_of pn_X4 (Nat.le_of_ble_eq_true rfl) (fun z O => c_X4_isEnded_e O _ _ _ hF)

def f_X4_isJoining_b23 (s0 : Int32) (I : IS) : Option (Int32) :=
  if okZ (s0) = true then some (s0) else none
set_option maxHeartbeats 4000000 in
set_option maxRecDepth 100000 in
theorem c_X4_isJoining_b23 {z : CTX} {J : JS} (O : OK z cX4_isJoining RX4 2 STas 9 (rm_ 1 21) (some .boolean)) : ∀ (s0 : Int32) (I : IS) (q : Int32), f_X4_isJoining_b23 s0 I = some q → G z 23 [] [.int (s0)] I J (some (.int q), I, J) := by
  intro s0 I q hF
  rw [f_X4_isJoining_b23] at hF
  obtain ⟨h1, hF⟩ := gd hF
  obtain rfl := Option.some.inj hF
  exact g_zreturn O (pc := 23) dX4_isJoining_23 h1 rfl

def f_X4_isJoining_b22 (I : IS) : Option (Int32) :=
  f_X4_isJoining_b23 ((0 : Int32)) (I)
set_option maxHeartbeats 4000000 in
set_option maxRecDepth 100000 in
theorem c_X4_isJoining_b22 {z : CTX} {J : JS} (O : OK z cX4_isJoining RX4 2 STas 9 (rm_ 1 21) (some .boolean)) : ∀ (I : IS) (q : Int32), f_X4_isJoining_b22 I = some q → G z 22 [] [] I J (some (.int q), I, J) := by
  intro I q hF
  rw [f_X4_isJoining_b22] at hF
  refine g_iconst O (pc := 22) dX4_isJoining_22 (ic_0) ?_
  refine g_sub [] (L' := []) rfl ?_
  exact c_X4_isJoining_b23 O _ _ _ hF

def f_X4_isJoining (x1 : Int32) (I : IS) : Option (Int32) :=
  (f_X4_has (x1) I).bind fun q1 =>
  (if q1 = 0 then
  (f_X4_isJoining_b22 (I))
  else
  (if okI (x1) 32 = true then
  (if (I (4) (x1).toNatClampNeg) = (2 : Int32) then
  (f_X4_isJoining_b23 ((1 : Int32)) (I))
  else
  (f_X4_isJoining_b22 (I)))
  else none))
set_option maxHeartbeats 4000000 in
set_option maxRecDepth 100000 in
theorem c_X4_isJoining_e {z : CTX} {J : JS} (O : OK z cX4_isJoining RX4 2 STas 9 (rm_ 1 21) (some .boolean)) : ∀ (x1 : Int32) (I : IS) (q : Int32), f_X4_isJoining x1 I = some q → G z 0 [(0, .ref (0)), (1, .int (x1))] [] I J (some (.int q), I, J) := by
  intro x1 I q hF
  rw [f_X4_isJoining] at hF
  refine g_aload_n O (pc := 0) dX4_isJoining_0 0 rfl ?_
  refine g_iload_n O (pc := 1) dX4_isJoining_1 1 rfl ?_
  obtain ⟨q1, e2, hF⟩ := bnd hF
  refine g_Vi O (pc := 2) (st := []) dX4_isJoining_2 (mc_X4_has J e2) cb_X4_has ml_X4_46 isC_X4 ob_STas (zm0 _ _ _ _ _ _ _) (rmok (Nat.le_of_ble_eq_true rfl) (Nat.le_of_ble_eq_true rfl)) (Nat.le_of_ble_eq_true rfl) rfl ?_
  refine g_if_eq O (pc := 5) 22 dX4_isJoining_5 (by decide) (fun h3 => ?_) (fun h3 => ?_)
  · rw [if_pos h3] at hF
    refine g_sub [] (L' := []) rfl ?_
    exact c_X4_isJoining_b22 O _ _ hF
  · rw [if_neg h3] at hF
    refine g_aload_n O (pc := 8) dX4_isJoining_8 0 rfl ?_
    refine g_getR O (pc := 9) isC_X4 dX4_isJoining_9 fw_X4_21 (by decide) fd_STas_0_3 ?_
    refine g_iload_n O (pc := 12) dX4_isJoining_12 1 rfl ?_
    obtain ⟨h4, hF⟩ := gd hF
    refine g_il O (pc := 13) dX4_isJoining_13 ar_STas_4 h4 ?_
    refine g_iconst O (pc := 14) dX4_isJoining_14 (ic_2) ?_
    refine g_icmp_ne O (pc := 15) 22 dX4_isJoining_15 (by decide) (fun h5 => ?_) (fun h5 => ?_)
    · rw [if_neg h5] at hF
      refine g_sub [] (L' := []) rfl ?_
      exact c_X4_isJoining_b22 O _ _ hF
    · rw [if_pos h5] at hF
      refine g_iconst O (pc := 18) dX4_isJoining_18 (ic_1) ?_
      refine g_goto O (pc := 19) 23 dX4_isJoining_19 (by decide) ?_
      refine g_sub [] (L' := []) rfl ?_
      exact c_X4_isJoining_b23 O _ _ _ hF

theorem mc_X4_isJoining {x1 : Int32} {I : IS} (J : JS) {q : Int32} (hF : f_X4_isJoining x1 I = some q) : MC yX4_isJoining cX4_isJoining 2 (some .boolean) (rm_ 1 21) STas 9 [.ref (0), .int (x1)] I J (some (.int q), I, J) :=
  mc_of pn_X4 (Nat.le_of_ble_eq_true rfl) (fun z O => c_X4_isJoining_e O _ _ _ hF)

def f_X4_lessLeft (x1 : Int32) (I : IS) : Option (Int32 × IS) :=
  if okI (x1) 32 = true then
  (if okI (x1) 32 = true then
  (if okI (x1) 32 = true then
  (some (((u2 I (2) (x1).toNatClampNeg (((I (2) (x1).toNatClampNeg) - (1 : Int32)))) (2) (x1).toNatClampNeg), (u2 I (2) (x1).toNatClampNeg (((I (2) (x1).toNatClampNeg) - (1 : Int32))))))
  else none)
  else none)
  else none
set_option maxHeartbeats 4000000 in
set_option maxRecDepth 100000 in
theorem c_X4_lessLeft_e {z : CTX} {J : JS} (O : OK z cX4_lessLeft RX4 2 STas 9 (rm_ 0 0) (some .int)) : ∀ (x1 : Int32) (I : IS) (q : Int32 × IS), f_X4_lessLeft x1 I = some q → G z 0 [(0, .ref (0)), (1, .int (x1))] [] I J (some (.int q.1), q.2, J) := by
  intro x1 I q hF
  rw [f_X4_lessLeft] at hF
  refine g_aload_n O (pc := 0) dX4_lessLeft_0 0 rfl ?_
  refine g_getR O (pc := 1) isC_X4 dX4_lessLeft_1 fw_X4_15 (by decide) fd_STas_0_1 ?_
  refine g_iload_n O (pc := 4) dX4_lessLeft_4 1 rfl ?_
  refine g_dup2 O (pc := 5) dX4_lessLeft_5 rfl rfl ?_
  obtain ⟨h1, hF⟩ := gd hF
  refine g_il O (pc := 6) dX4_lessLeft_6 ar_STas_2 h1 ?_
  refine g_iconst O (pc := 7) dX4_lessLeft_7 (ic_1) ?_
  refine g_isub O (pc := 8) dX4_lessLeft_8 ?_
  obtain ⟨h2, hF⟩ := gd hF
  refine g_is O (pc := 9) dX4_lessLeft_9 ar_STas_2 h2 ?_
  refine g_aload_n O (pc := 10) dX4_lessLeft_10 0 rfl ?_
  refine g_getR O (pc := 11) isC_X4 dX4_lessLeft_11 fw_X4_15 (by decide) fd_STas_0_1 ?_
  refine g_iload_n O (pc := 14) dX4_lessLeft_14 1 rfl ?_
  obtain ⟨h3, hF⟩ := gd hF
  refine g_il O (pc := 15) dX4_lessLeft_15 ar_STas_2 h3 ?_
  obtain rfl := Option.some.inj hF
  exact g_ireturn O (pc := 16) dX4_lessLeft_16 rfl

theorem mc_X4_lessLeft {x1 : Int32} {I : IS} (J : JS) {q : Int32 × IS} (hF : f_X4_lessLeft x1 I = some q) : MC yX4_lessLeft cX4_lessLeft 2 (some .int) (rm_ 0 0) STas 9 [.ref (0), .int (x1)] I J (some (.int q.1), q.2, J) :=
  mc_of pn_X4 (Nat.le_of_ble_eq_true rfl) (fun z O => c_X4_lessLeft_e O _ _ _ hF)

def f_X4_span_b75 (k30 : Int32 → Int32 → IS → Option (Int32 × IS)) (x1 : Int32) (x2 : Int32) (I : IS) : Option (Int32 × IS) :=
  k30 (x1) (x2 + (-1 : Int32)) (I)
set_option maxHeartbeats 4000000 in
set_option maxRecDepth 100000 in
theorem c_X4_span_b75 {z : CTX} {J : JS} (O : OK z cX4_span RX4 4 STas 9 (rm_ 1 15) (some .int)) {k30 : Int32 → Int32 → IS → Option (Int32 × IS)} (hk30 : ∀ (x1 : Int32) (x2 : Int32) (I : IS) (q : Int32 × IS), k30 x1 x2 I = some q → G z 30 [(0, .ref (0)), (1, .int (x1)), (2, .int (x2))] [] I J (some (.int q.1), q.2, J)) : ∀ (x1 : Int32) (x2 : Int32) (I : IS) (q : Int32 × IS), f_X4_span_b75 k30 x1 x2 I = some q → G z 75 [(0, .ref (0)), (1, .int (x1)), (2, .int (x2))] [] I J (some (.int q.1), q.2, J) := by
  intro x1 x2 I q hF
  rw [f_X4_span_b75] at hF
  refine g_iinc O (pc := 75) (v := x2 + (-1 : Int32)) (L' := [(2, .int (x2 + (-1 : Int32))), (0, .ref (0)), (1, .int (x1))]) dX4_span_75 2 rfl rfl (by decide) rfl ?_
  refine g_goto O (pc := 78) 30 dX4_span_78 (by decide) ?_
  refine g_sub [1, 2, 0] (L' := [(0, .ref (0)), (1, .int (x1)), (2, .int (x2 + (-1 : Int32)))]) rfl ?_
  exact hk30 _ _ _ _ hF

def f_X4_span_b30 : Nat → Int32 → Int32 → IS → Option (Int32 × IS)
  | 0, _, _, _ => none
  | fu + 1, x1, x2, I =>
    if x2 ≤ x1 then
    (if okI (x1) 32 = true then
    (if okI (x1) 32 = true then
    (some (((I (1) (x1).toNatClampNeg) + (I (8) (x1).toNatClampNeg)), I))
    else none)
    else none)
    else
    (if okI (x2) 32 = true then
    (if (I (5) (x2).toNatClampNeg) < x1 then
    (f_X4_span_b75 (f_X4_span_b30 fu) (x1) (x2) (I))
    else
    (if okI ((I (5) (x2).toNatClampNeg)) 32 = true then
    (if okI (x2) 32 = true then
    (if okI (x2) 32 = true then
    (if okI ((I (5) (x2).toNatClampNeg)) 32 = true then
    ((some (u2 I (8) ((I (5) (x2).toNatClampNeg)).toNatClampNeg ((if (I (8) ((I (5) (x2).toNatClampNeg)).toNatClampNeg) < ((I (1) (x2).toNatClampNeg) + (I (8) (x2).toNatClampNeg)) then ((I (1) (x2).toNatClampNeg) + (I (8) (x2).toNatClampNeg)) else (I (8) ((I (5) (x2).toNatClampNeg)).toNatClampNeg))))).bind fun I10 =>
    (f_X4_span_b75 (f_X4_span_b30 fu) (x1) (x2) (I10)))
    else none)
    else none)
    else none)
    else none))
    else none)
set_option maxHeartbeats 4000000 in
set_option maxRecDepth 100000 in
theorem c_X4_span_b30 {z : CTX} {J : JS} (O : OK z cX4_span RX4 4 STas 9 (rm_ 1 15) (some .int)) : ∀ (fu : Nat) (x1 : Int32) (x2 : Int32) (I : IS) (q : Int32 × IS), f_X4_span_b30 fu x1 x2 I = some q → G z 30 [(0, .ref (0)), (1, .int (x1)), (2, .int (x2))] [] I J (some (.int q.1), q.2, J) := by
  intro fu
  induction fu with
  | zero =>
    intro x1 x2 I q hF
    cases hF
  | succ fu ih =>
    intro x1 x2 I q hF
    rw [f_X4_span_b30] at hF
    refine g_iload_n O (pc := 30) dX4_span_30 2 rfl ?_
    refine g_iload_n O (pc := 31) dX4_span_31 1 rfl ?_
    refine g_icmp_le O (pc := 32) 81 dX4_span_32 (by decide) (fun h1 => ?_) (fun h1 => ?_)
    · rw [if_pos h1] at hF
      refine g_aload_n O (pc := 81) dX4_span_81 0 rfl ?_
      refine g_getR O (pc := 82) isC_X4 dX4_span_82 fw_X4_9 (by decide) fd_STas_0_0 ?_
      refine g_iload_n O (pc := 85) dX4_span_85 1 rfl ?_
      obtain ⟨h2, hF⟩ := gd hF
      refine g_il O (pc := 86) dX4_span_86 ar_STas_1 h2 ?_
      refine g_aload_n O (pc := 87) dX4_span_87 0 rfl ?_
      refine g_getR O (pc := 88) isC_X4 dX4_span_88 fw_X4_33 (by decide) fd_STas_0_7 ?_
      refine g_iload_n O (pc := 91) dX4_span_91 1 rfl ?_
      obtain ⟨h3, hF⟩ := gd hF
      refine g_il O (pc := 92) dX4_span_92 ar_STas_8 h3 ?_
      refine g_iadd O (pc := 93) dX4_span_93 ?_
      obtain rfl := Option.some.inj hF
      exact g_ireturn O (pc := 94) dX4_span_94 rfl
    · rw [if_neg h1] at hF
      refine g_aload_n O (pc := 35) dX4_span_35 0 rfl ?_
      refine g_getR O (pc := 36) isC_X4 dX4_span_36 fw_X4_24 (by decide) fd_STas_0_4 ?_
      refine g_iload_n O (pc := 39) dX4_span_39 2 rfl ?_
      obtain ⟨h4, hF⟩ := gd hF
      refine g_il O (pc := 40) dX4_span_40 ar_STas_5 h4 ?_
      refine g_istore_n O (pc := 41) (L' := [(3, .int ((I (5) (x2).toNatClampNeg))), (0, .ref (0)), (1, .int (x1)), (2, .int (x2))]) dX4_span_41 (by decide) rfl ?_
      refine g_iload_n O (pc := 42) dX4_span_42 0 rfl ?_
      refine g_iload_n O (pc := 43) dX4_span_43 2 rfl ?_
      refine g_icmp_lt O (pc := 44) 75 dX4_span_44 (by decide) (fun h5 => ?_) (fun h5 => ?_)
      · rw [if_pos h5] at hF
        refine g_sub [1, 2, 3] (L' := [(0, .ref (0)), (1, .int (x1)), (2, .int (x2))]) rfl ?_
        exact c_X4_span_b75 O ih _ _ _ _ hF
      · rw [if_neg h5] at hF
        refine g_aload_n O (pc := 47) dX4_span_47 1 rfl ?_
        refine g_getR O (pc := 48) isC_X4 dX4_span_48 fw_X4_33 (by decide) fd_STas_0_7 ?_
        refine g_iload_n O (pc := 51) dX4_span_51 0 rfl ?_
        refine g_aload_n O (pc := 52) dX4_span_52 1 rfl ?_
        refine g_getR O (pc := 53) isC_X4 dX4_span_53 fw_X4_33 (by decide) fd_STas_0_7 ?_
        refine g_iload_n O (pc := 56) dX4_span_56 0 rfl ?_
        obtain ⟨h6, hF⟩ := gd hF
        refine g_il O (pc := 57) dX4_span_57 ar_STas_8 h6 ?_
        refine g_aload_n O (pc := 58) dX4_span_58 1 rfl ?_
        refine g_getR O (pc := 59) isC_X4 dX4_span_59 fw_X4_9 (by decide) fd_STas_0_0 ?_
        refine g_iload_n O (pc := 62) dX4_span_62 3 rfl ?_
        obtain ⟨h7, hF⟩ := gd hF
        refine g_il O (pc := 63) dX4_span_63 ar_STas_1 h7 ?_
        refine g_aload_n O (pc := 64) dX4_span_64 1 rfl ?_
        refine g_getR O (pc := 65) isC_X4 dX4_span_65 fw_X4_33 (by decide) fd_STas_0_7 ?_
        refine g_iload_n O (pc := 68) dX4_span_68 3 rfl ?_
        obtain ⟨h8, hF⟩ := gd hF
        refine g_il O (pc := 69) dX4_span_69 ar_STas_8 h8 ?_
        refine g_iadd O (pc := 70) dX4_span_70 ?_
        refine g_max O (pc := 71) (st := [.int ((I (5) (x2).toNatClampNeg)), .ref (8)]) dX4_span_71 ml_X4_50 mst_max mini_math mcode_max (by decide) (Nat.le_of_ble_eq_true rfl) ?_
        obtain ⟨h9, hF⟩ := gd hF
        refine g_is O (pc := 74) dX4_span_74 ar_STas_8 h9 ?_
        obtain ⟨I10, g11, hF⟩ := bnd hF
        refine g_nmI (Option.some.inj g11) ?_
        refine g_sub [1, 2, 3] (L' := [(0, .ref (0)), (1, .int (x1)), (2, .int (x2))]) rfl ?_
        exact c_X4_span_b75 O ih _ _ _ _ hF

def f_X4_span_b2 : Nat → Int32 → Int32 → IS → Option (Int32 × IS)
  | 0, _, _, _ => none
  | fu + 1, x1, x2, I =>
    if (I (0) 8) ≤ x2 then
    (f_X4_span_b30 LF (x1) (((I (0) 8) - (1 : Int32))) (I))
    else
    (if okI (x2) 32 = true then
    (f_X4_span_b2 fu (x1) (x2 + (1 : Int32)) ((u2 I (8) (x2).toNatClampNeg ((0 : Int32)))))
    else none)
set_option maxHeartbeats 4000000 in
set_option maxRecDepth 100000 in
theorem c_X4_span_b2 {z : CTX} {J : JS} (O : OK z cX4_span RX4 4 STas 9 (rm_ 1 15) (some .int)) : ∀ (fu : Nat) (x1 : Int32) (x2 : Int32) (I : IS) (q : Int32 × IS), f_X4_span_b2 fu x1 x2 I = some q → G z 2 [(0, .ref (0)), (1, .int (x1)), (2, .int (x2))] [] I J (some (.int q.1), q.2, J) := by
  intro fu
  induction fu with
  | zero =>
    intro x1 x2 I q hF
    cases hF
  | succ fu ih =>
    intro x1 x2 I q hF
    rw [f_X4_span_b2] at hF
    refine g_iload_n O (pc := 2) dX4_span_2 2 rfl ?_
    refine g_aload_n O (pc := 3) dX4_span_3 0 rfl ?_
    refine g_getI O (pc := 4) isC_X4 dX4_span_4 fw_X4_36 (by decide) fd_STas_0_8 ?_
    refine g_icmp_ge O (pc := 7) 23 dX4_span_7 (by decide) (fun h1 => ?_) (fun h1 => ?_)
    · rw [if_pos h1] at hF
      refine g_aload_n O (pc := 23) dX4_span_23 0 rfl ?_
      refine g_getI O (pc := 24) isC_X4 dX4_span_24 fw_X4_36 (by decide) fd_STas_0_8 ?_
      refine g_iconst O (pc := 27) dX4_span_27 (ic_1) ?_
      refine g_isub O (pc := 28) dX4_span_28 ?_
      refine g_istore_n O (pc := 29) (L' := [(2, .int (((I (0) 8) - (1 : Int32)))), (0, .ref (0)), (1, .int (x1))]) dX4_span_29 (by decide) rfl ?_
      refine g_sub [1, 2, 0] (L' := [(0, .ref (0)), (1, .int (x1)), (2, .int (((I (0) 8) - (1 : Int32))))]) rfl ?_
      exact c_X4_span_b30 O _ _ _ _ _ hF
    · rw [if_neg h1] at hF
      refine g_aload_n O (pc := 10) dX4_span_10 0 rfl ?_
      refine g_getR O (pc := 11) isC_X4 dX4_span_11 fw_X4_33 (by decide) fd_STas_0_7 ?_
      refine g_iload_n O (pc := 14) dX4_span_14 2 rfl ?_
      refine g_iconst O (pc := 15) dX4_span_15 (ic_0) ?_
      obtain ⟨h2, hF⟩ := gd hF
      refine g_is O (pc := 16) dX4_span_16 ar_STas_8 h2 ?_
      refine g_iinc O (pc := 17) (v := x2 + (1 : Int32)) (L' := [(2, .int (x2 + (1 : Int32))), (0, .ref (0)), (1, .int (x1))]) dX4_span_17 2 rfl rfl (by decide) rfl ?_
      refine g_goto O (pc := 20) 2 dX4_span_20 (by decide) ?_
      refine g_sub [1, 2, 0] (L' := [(0, .ref (0)), (1, .int (x1)), (2, .int (x2 + (1 : Int32)))]) rfl ?_
      exact ih _ _ _ _ hF

def f_X4_span (x1 : Int32) (I : IS) : Option (Int32 × IS) :=
  f_X4_span_b2 LF (x1) (x1) (I)
set_option maxHeartbeats 4000000 in
set_option maxRecDepth 100000 in
theorem c_X4_span_e {z : CTX} {J : JS} (O : OK z cX4_span RX4 4 STas 9 (rm_ 1 15) (some .int)) : ∀ (x1 : Int32) (I : IS) (q : Int32 × IS), f_X4_span x1 I = some q → G z 0 [(0, .ref (0)), (1, .int (x1))] [] I J (some (.int q.1), q.2, J) := by
  intro x1 I q hF
  rw [f_X4_span] at hF
  refine g_iload_n O (pc := 0) dX4_span_0 1 rfl ?_
  refine g_istore_n O (pc := 1) (L' := [(2, .int (x1)), (0, .ref (0)), (1, .int (x1))]) dX4_span_1 (by decide) rfl ?_
  refine g_sub [1, 2, 0] (L' := [(0, .ref (0)), (1, .int (x1)), (2, .int (x1))]) rfl ?_
  exact c_X4_span_b2 O _ _ _ _ _ hF

theorem mc_X4_span {x1 : Int32} {I : IS} (J : JS) {q : Int32 × IS} (hF : f_X4_span x1 I = some q) : MC yX4_span cX4_span 4 (some .int) (rm_ 1 15) STas 9 [.ref (0), .int (x1)] I J (some (.int q.1), q.2, J) :=
  mc_of pn_X4 (Nat.le_of_ble_eq_true rfl) (fun z O => c_X4_span_e O _ _ _ hF)

def f_X4_workOfAll_b37 (k11 : Int32 → Int32 → Int32 → IS → Option (Int32)) (x1 : Int32) (x2 : Int32) (x3 : Int32) (I : IS) : Option (Int32) :=
  k11 (x1) (x2) (x3 + (1 : Int32)) (I)
set_option maxHeartbeats 4000000 in
set_option maxRecDepth 100000 in
theorem c_X4_workOfAll_b37 {z : CTX} {J : JS} (O : OK z cX4_workOfAll RX4 4 STas 9 (rm_ 1 24) (some .int)) {k11 : Int32 → Int32 → Int32 → IS → Option (Int32)} (hk11 : ∀ (x1 : Int32) (x2 : Int32) (x3 : Int32) (I : IS) (q : Int32), k11 x1 x2 x3 I = some q → G z 11 [(0, .ref (0)), (1, .int (x1)), (2, .int (x2)), (3, .int (x3))] [] I J (some (.int q), I, J)) : ∀ (x1 : Int32) (x2 : Int32) (x3 : Int32) (I : IS) (q : Int32), f_X4_workOfAll_b37 k11 x1 x2 x3 I = some q → G z 37 [(0, .ref (0)), (1, .int (x1)), (2, .int (x2)), (3, .int (x3))] [] I J (some (.int q), I, J) := by
  intro x1 x2 x3 I q hF
  rw [f_X4_workOfAll_b37] at hF
  refine g_iinc O (pc := 37) (v := x3 + (1 : Int32)) (L' := [(3, .int (x3 + (1 : Int32))), (0, .ref (0)), (1, .int (x1)), (2, .int (x2))]) dX4_workOfAll_37 3 rfl rfl (by decide) rfl ?_
  refine g_goto O (pc := 40) 11 dX4_workOfAll_40 (by decide) ?_
  refine g_sub [1, 2, 3, 0] (L' := [(0, .ref (0)), (1, .int (x1)), (2, .int (x2)), (3, .int (x3 + (1 : Int32)))]) rfl ?_
  exact hk11 _ _ _ _ _ hF

def f_X4_workOfAll_b11 : Nat → Int32 → Int32 → Int32 → IS → Option (Int32)
  | 0, _, _, _, _ => none
  | fu + 1, x1, x2, x3, I =>
    if (I (0) 8) ≤ x3 then
    (some (x2))
    else
    ((f_X4_isBelow (x3) (x1) I).bind fun q2 =>
    (if q2 = 0 then
    (f_X4_workOfAll_b37 (f_X4_workOfAll_b11 fu) (x1) (x2) (x3) (I))
    else
    (if okI (x3) 32 = true then
    (f_X4_workOfAll_b37 (f_X4_workOfAll_b11 fu) (x1) ((x2 + (I (1) (x3).toNatClampNeg))) (x3) (I))
    else none)))
set_option maxHeartbeats 4000000 in
set_option maxRecDepth 100000 in
theorem c_X4_workOfAll_b11 {z : CTX} {J : JS} (O : OK z cX4_workOfAll RX4 4 STas 9 (rm_ 1 24) (some .int)) : ∀ (fu : Nat) (x1 : Int32) (x2 : Int32) (x3 : Int32) (I : IS) (q : Int32), f_X4_workOfAll_b11 fu x1 x2 x3 I = some q → G z 11 [(0, .ref (0)), (1, .int (x1)), (2, .int (x2)), (3, .int (x3))] [] I J (some (.int q), I, J) := by
  intro fu
  induction fu with
  | zero =>
    intro x1 x2 x3 I q hF
    cases hF
  | succ fu ih =>
    intro x1 x2 x3 I q hF
    rw [f_X4_workOfAll_b11] at hF
    refine g_iload_n O (pc := 11) dX4_workOfAll_11 3 rfl ?_
    refine g_aload_n O (pc := 12) dX4_workOfAll_12 0 rfl ?_
    refine g_getI O (pc := 13) isC_X4 dX4_workOfAll_13 fw_X4_36 (by decide) fd_STas_0_8 ?_
    refine g_icmp_ge O (pc := 16) 43 dX4_workOfAll_16 (by decide) (fun h1 => ?_) (fun h1 => ?_)
    · rw [if_pos h1] at hF
      refine g_iload_n O (pc := 43) dX4_workOfAll_43 2 rfl ?_
      obtain rfl := Option.some.inj hF
      exact g_ireturn O (pc := 44) dX4_workOfAll_44 rfl
    · rw [if_neg h1] at hF
      refine g_aload_n O (pc := 19) dX4_workOfAll_19 0 rfl ?_
      refine g_iload_n O (pc := 20) dX4_workOfAll_20 3 rfl ?_
      refine g_iload_n O (pc := 21) dX4_workOfAll_21 1 rfl ?_
      obtain ⟨q2, e3, hF⟩ := bnd hF
      refine g_Vi O (pc := 22) (st := []) dX4_workOfAll_22 (mc_X4_isBelow J e3) cb_X4_isBelow ml_X4_56 isC_X4 ob_STas (zm0 _ _ _ _ _ _ _) (rmok (Nat.le_of_ble_eq_true rfl) (Nat.le_of_ble_eq_true rfl)) (Nat.le_of_ble_eq_true rfl) rfl ?_
      refine g_if_eq O (pc := 25) 37 dX4_workOfAll_25 (by decide) (fun h4 => ?_) (fun h4 => ?_)
      · rw [if_pos h4] at hF
        refine g_sub [0, 1, 2, 3] (L' := [(0, .ref (0)), (1, .int (x1)), (2, .int (x2)), (3, .int (x3))]) rfl ?_
        exact c_X4_workOfAll_b37 O ih _ _ _ _ _ hF
      · rw [if_neg h4] at hF
        refine g_iload_n O (pc := 28) dX4_workOfAll_28 2 rfl ?_
        refine g_aload_n O (pc := 29) dX4_workOfAll_29 0 rfl ?_
        refine g_getR O (pc := 30) isC_X4 dX4_workOfAll_30 fw_X4_9 (by decide) fd_STas_0_0 ?_
        refine g_iload_n O (pc := 33) dX4_workOfAll_33 3 rfl ?_
        obtain ⟨h5, hF⟩ := gd hF
        refine g_il O (pc := 34) dX4_workOfAll_34 ar_STas_1 h5 ?_
        refine g_iadd O (pc := 35) dX4_workOfAll_35 ?_
        refine g_istore_n O (pc := 36) (L' := [(2, .int ((x2 + (I (1) (x3).toNatClampNeg)))), (0, .ref (0)), (1, .int (x1)), (3, .int (x3))]) dX4_workOfAll_36 (by decide) rfl ?_
        refine g_sub [1, 2, 0, 3] (L' := [(0, .ref (0)), (1, .int (x1)), (2, .int ((x2 + (I (1) (x3).toNatClampNeg)))), (3, .int (x3))]) rfl ?_
        exact c_X4_workOfAll_b37 O ih _ _ _ _ _ hF

def f_X4_workOfAll (x1 : Int32) (I : IS) : Option (Int32) :=
  if okI (x1) 32 = true then
  (f_X4_workOfAll_b11 LF (x1) ((I (1) (x1).toNatClampNeg)) ((x1 + (1 : Int32))) (I))
  else none
set_option maxHeartbeats 4000000 in
set_option maxRecDepth 100000 in
theorem c_X4_workOfAll_e {z : CTX} {J : JS} (O : OK z cX4_workOfAll RX4 4 STas 9 (rm_ 1 24) (some .int)) : ∀ (x1 : Int32) (I : IS) (q : Int32), f_X4_workOfAll x1 I = some q → G z 0 [(0, .ref (0)), (1, .int (x1))] [] I J (some (.int q), I, J) := by
  intro x1 I q hF
  rw [f_X4_workOfAll] at hF
  refine g_aload_n O (pc := 0) dX4_workOfAll_0 0 rfl ?_
  refine g_getR O (pc := 1) isC_X4 dX4_workOfAll_1 fw_X4_9 (by decide) fd_STas_0_0 ?_
  refine g_iload_n O (pc := 4) dX4_workOfAll_4 1 rfl ?_
  obtain ⟨h1, hF⟩ := gd hF
  refine g_il O (pc := 5) dX4_workOfAll_5 ar_STas_1 h1 ?_
  refine g_istore_n O (pc := 6) (L' := [(2, .int ((I (1) (x1).toNatClampNeg))), (0, .ref (0)), (1, .int (x1))]) dX4_workOfAll_6 (by decide) rfl ?_
  refine g_iload_n O (pc := 7) dX4_workOfAll_7 2 rfl ?_
  refine g_iconst O (pc := 8) dX4_workOfAll_8 (ic_1) ?_
  refine g_iadd O (pc := 9) dX4_workOfAll_9 ?_
  refine g_istore_n O (pc := 10) (L' := [(3, .int ((x1 + (1 : Int32)))), (2, .int ((I (1) (x1).toNatClampNeg))), (0, .ref (0)), (1, .int (x1))]) dX4_workOfAll_10 (by decide) rfl ?_
  refine g_sub [2, 3, 1, 0] (L' := [(0, .ref (0)), (1, .int (x1)), (2, .int ((I (1) (x1).toNatClampNeg))), (3, .int ((x1 + (1 : Int32))))]) rfl ?_
  exact c_X4_workOfAll_b11 O _ _ _ _ _ _ hF

theorem mc_X4_workOfAll {x1 : Int32} {I : IS} (J : JS) {q : Int32} (hF : f_X4_workOfAll x1 I = some q) : MC yX4_workOfAll cX4_workOfAll 4 (some .int) (rm_ 1 24) STas 9 [.ref (0), .int (x1)] I J (some (.int q), I, J) :=
  mc_of pn_X4 (Nat.le_of_ble_eq_true rfl) (fun z O => c_X4_workOfAll_e O _ _ _ hF)

def f_X4_worthOfAllDone_b31 (k4 : Int32 → Int32 → IS → Option (Int32)) (x1 : Int32) (x2 : Int32) (I : IS) : Option (Int32) :=
  k4 (x1) (x2 + (1 : Int32)) (I)
set_option maxHeartbeats 4000000 in
set_option maxRecDepth 100000 in
theorem c_X4_worthOfAllDone_b31 {z : CTX} {J : JS} (O : OK z cX4_worthOfAllDone RX4 3 STas 9 (rm_ 0 0) (some .int)) {k4 : Int32 → Int32 → IS → Option (Int32)} (hk4 : ∀ (x1 : Int32) (x2 : Int32) (I : IS) (q : Int32), k4 x1 x2 I = some q → G z 4 [(0, .ref (0)), (1, .int (x1)), (2, .int (x2))] [] I J (some (.int q), I, J)) : ∀ (x1 : Int32) (x2 : Int32) (I : IS) (q : Int32), f_X4_worthOfAllDone_b31 k4 x1 x2 I = some q → G z 31 [(0, .ref (0)), (1, .int (x1)), (2, .int (x2))] [] I J (some (.int q), I, J) := by
  intro x1 x2 I q hF
  rw [f_X4_worthOfAllDone_b31] at hF
  refine g_iinc O (pc := 31) (v := x2 + (1 : Int32)) (L' := [(2, .int (x2 + (1 : Int32))), (0, .ref (0)), (1, .int (x1))]) dX4_worthOfAllDone_31 2 rfl rfl (by decide) rfl ?_
  refine g_goto O (pc := 34) 4 dX4_worthOfAllDone_34 (by decide) ?_
  refine g_sub [1, 2, 0] (L' := [(0, .ref (0)), (1, .int (x1)), (2, .int (x2 + (1 : Int32)))]) rfl ?_
  exact hk4 _ _ _ _ hF

def f_X4_worthOfAllDone_b4 : Nat → Int32 → Int32 → IS → Option (Int32)
  | 0, _, _, _ => none
  | fu + 1, x1, x2, I =>
    if (I (0) 8) ≤ x2 then
    (some (x1))
    else
    (if okI (x2) 32 = true then
    (if (I (4) (x2).toNatClampNeg) = (3 : Int32) then
    (if okI (x2) 32 = true then
    (f_X4_worthOfAllDone_b31 (f_X4_worthOfAllDone_b4 fu) ((x1 + (I (3) (x2).toNatClampNeg))) (x2) (I))
    else none)
    else
    (f_X4_worthOfAllDone_b31 (f_X4_worthOfAllDone_b4 fu) (x1) (x2) (I)))
    else none)
set_option maxHeartbeats 4000000 in
set_option maxRecDepth 100000 in
theorem c_X4_worthOfAllDone_b4 {z : CTX} {J : JS} (O : OK z cX4_worthOfAllDone RX4 3 STas 9 (rm_ 0 0) (some .int)) : ∀ (fu : Nat) (x1 : Int32) (x2 : Int32) (I : IS) (q : Int32), f_X4_worthOfAllDone_b4 fu x1 x2 I = some q → G z 4 [(0, .ref (0)), (1, .int (x1)), (2, .int (x2))] [] I J (some (.int q), I, J) := by
  intro fu
  induction fu with
  | zero =>
    intro x1 x2 I q hF
    cases hF
  | succ fu ih =>
    intro x1 x2 I q hF
    rw [f_X4_worthOfAllDone_b4] at hF
    refine g_iload_n O (pc := 4) dX4_worthOfAllDone_4 2 rfl ?_
    refine g_aload_n O (pc := 5) dX4_worthOfAllDone_5 0 rfl ?_
    refine g_getI O (pc := 6) isC_X4 dX4_worthOfAllDone_6 fw_X4_36 (by decide) fd_STas_0_8 ?_
    refine g_icmp_ge O (pc := 9) 37 dX4_worthOfAllDone_9 (by decide) (fun h1 => ?_) (fun h1 => ?_)
    · rw [if_pos h1] at hF
      refine g_iload_n O (pc := 37) dX4_worthOfAllDone_37 1 rfl ?_
      obtain rfl := Option.some.inj hF
      exact g_ireturn O (pc := 38) dX4_worthOfAllDone_38 rfl
    · rw [if_neg h1] at hF
      refine g_aload_n O (pc := 12) dX4_worthOfAllDone_12 0 rfl ?_
      refine g_getR O (pc := 13) isC_X4 dX4_worthOfAllDone_13 fw_X4_21 (by decide) fd_STas_0_3 ?_
      refine g_iload_n O (pc := 16) dX4_worthOfAllDone_16 2 rfl ?_
      obtain ⟨h2, hF⟩ := gd hF
      refine g_il O (pc := 17) dX4_worthOfAllDone_17 ar_STas_4 h2 ?_
      refine g_iconst O (pc := 18) dX4_worthOfAllDone_18 (ic_3) ?_
      refine g_icmp_ne O (pc := 19) 31 dX4_worthOfAllDone_19 (by decide) (fun h3 => ?_) (fun h3 => ?_)
      · rw [if_neg h3] at hF
        refine g_sub [0, 1, 2] (L' := [(0, .ref (0)), (1, .int (x1)), (2, .int (x2))]) rfl ?_
        exact c_X4_worthOfAllDone_b31 O ih _ _ _ _ hF
      · rw [if_pos h3] at hF
        refine g_iload_n O (pc := 22) dX4_worthOfAllDone_22 1 rfl ?_
        refine g_aload_n O (pc := 23) dX4_worthOfAllDone_23 0 rfl ?_
        refine g_getR O (pc := 24) isC_X4 dX4_worthOfAllDone_24 fw_X4_18 (by decide) fd_STas_0_2 ?_
        refine g_iload_n O (pc := 27) dX4_worthOfAllDone_27 2 rfl ?_
        obtain ⟨h4, hF⟩ := gd hF
        refine g_il O (pc := 28) dX4_worthOfAllDone_28 ar_STas_3 h4 ?_
        refine g_iadd O (pc := 29) dX4_worthOfAllDone_29 ?_
        refine g_istore_n O (pc := 30) (L' := [(1, .int ((x1 + (I (3) (x2).toNatClampNeg)))), (0, .ref (0)), (2, .int (x2))]) dX4_worthOfAllDone_30 (by decide) rfl ?_
        refine g_sub [1, 0, 2] (L' := [(0, .ref (0)), (1, .int ((x1 + (I (3) (x2).toNatClampNeg)))), (2, .int (x2))]) rfl ?_
        exact c_X4_worthOfAllDone_b31 O ih _ _ _ _ hF

def f_X4_worthOfAllDone (I : IS) : Option (Int32) :=
  f_X4_worthOfAllDone_b4 LF ((0 : Int32)) ((0 : Int32)) (I)
set_option maxHeartbeats 4000000 in
set_option maxRecDepth 100000 in
theorem c_X4_worthOfAllDone_e {z : CTX} {J : JS} (O : OK z cX4_worthOfAllDone RX4 3 STas 9 (rm_ 0 0) (some .int)) : ∀ (I : IS) (q : Int32), f_X4_worthOfAllDone I = some q → G z 0 [(0, .ref (0))] [] I J (some (.int q), I, J) := by
  intro I q hF
  rw [f_X4_worthOfAllDone] at hF
  refine g_iconst O (pc := 0) dX4_worthOfAllDone_0 (ic_0) ?_
  refine g_istore_n O (pc := 1) (L' := [(1, .int ((0 : Int32))), (0, .ref (0))]) dX4_worthOfAllDone_1 (by decide) rfl ?_
  refine g_iconst O (pc := 2) dX4_worthOfAllDone_2 (ic_0) ?_
  refine g_istore_n O (pc := 3) (L' := [(2, .int ((0 : Int32))), (1, .int ((0 : Int32))), (0, .ref (0))]) dX4_worthOfAllDone_3 (by decide) rfl ?_
  refine g_sub [2, 1, 0] (L' := [(0, .ref (0)), (1, .int ((0 : Int32))), (2, .int ((0 : Int32)))]) rfl ?_
  exact c_X4_worthOfAllDone_b4 O _ _ _ _ _ hF

theorem mc_X4_worthOfAllDone {I : IS} (J : JS) {q : Int32} (hF : f_X4_worthOfAllDone I = some q) : MC yX4_worthOfAllDone cX4_worthOfAllDone 3 (some .int) (rm_ 0 0) STas 9 [.ref (0)] I J (some (.int q), I, J) :=
  mc_of pn_X4 (Nat.le_of_ble_eq_true rfl) (fun z O => c_X4_worthOfAllDone_e O _ _ hF)

def f_X5_append (x1 : Int32) (I : IS) : Option (Int32 × IS) :=
  if (I (0) 1) < (100 : Int32) then
  (if okI ((I (0) 1)) 100 = true then
  ((some (u2 (u2 I (1) ((I (0) 1)).toNatClampNeg (x1)) (0) 1 ((((u2 I (1) ((I (0) 1)).toNatClampNeg (x1)) (0) 1) + (1 : Int32))))).bind fun I3 =>
  (some ((1 : Int32), I3)))
  else none)
  else
  (some ((0 : Int32), I))
set_option maxHeartbeats 4000000 in
set_option maxRecDepth 100000 in
theorem c_X5_append_e {z : CTX} {J : JS} (O : OK z cX5_append RX5 2 STxt 7 (rm_ 0 0) (some .boolean)) : ∀ (x1 : Int32) (I : IS) (q : Int32 × IS), f_X5_append x1 I = some q → G z 0 [(0, .ref (0)), (1, .int (x1))] [] I J (some (.int q.1), q.2, J) := by
  intro x1 I q hF
  rw [f_X5_append] at hF
  refine g_aload_n O (pc := 0) dX5_append_0 0 rfl ?_
  refine g_getI O (pc := 1) isC_X5 dX5_append_1 fw_X5_15 (by decide) fd_STxt_0_1 ?_
  refine g_aload_n O (pc := 4) dX5_append_4 0 rfl ?_
  refine g_getR O (pc := 5) isC_X5 dX5_append_5 fw_X5_9 (by decide) fd_STxt_0_0 ?_
  refine g_len O (pc := 8) dX5_append_8 (by decide) ar_STxt_1 (v := (100 : Int32)) rfl ?_
  refine g_icmp_lt O (pc := 9) 14 dX5_append_9 (by decide) (fun h1 => ?_) (fun h1 => ?_)
  · rw [if_pos h1] at hF
    refine g_aload_n O (pc := 14) dX5_append_14 0 rfl ?_
    refine g_getR O (pc := 15) isC_X5 dX5_append_15 fw_X5_9 (by decide) fd_STxt_0_0 ?_
    refine g_aload_n O (pc := 18) dX5_append_18 0 rfl ?_
    refine g_getI O (pc := 19) isC_X5 dX5_append_19 fw_X5_15 (by decide) fd_STxt_0_1 ?_
    refine g_iload_n O (pc := 22) dX5_append_22 1 rfl ?_
    obtain ⟨h2, hF⟩ := gd hF
    refine g_is O (pc := 23) dX5_append_23 ar_STxt_1 h2 ?_
    refine g_aload_n O (pc := 24) dX5_append_24 0 rfl ?_
    refine g_dup O (pc := 25) dX5_append_25 rfl ?_
    refine g_getI O (pc := 26) isC_X5 dX5_append_26 fw_X5_15 (by decide) fd_STxt_0_1 ?_
    refine g_iconst O (pc := 29) dX5_append_29 (ic_1) ?_
    refine g_iadd O (pc := 30) dX5_append_30 ?_
    refine g_putI O (pc := 31) isC_X5 isT_X5 dX5_append_31 fw_X5_15 (by decide) rfl rfl fd_STxt_0_1 ?_
    obtain ⟨I3, g4, hF⟩ := bnd hF
    refine g_nmI (Option.some.inj g4) ?_
    refine g_iconst O (pc := 34) dX5_append_34 (ic_1) ?_
    obtain rfl := Option.some.inj hF
    exact g_zreturn O (pc := 35) dX5_append_35 (by decide) rfl
  · rw [if_neg h1] at hF
    refine g_iconst O (pc := 12) dX5_append_12 (ic_0) ?_
    obtain rfl := Option.some.inj hF
    exact g_zreturn O (pc := 13) dX5_append_13 (by decide) rfl

theorem mc_X5_append {x1 : Int32} {I : IS} (J : JS) {q : Int32 × IS} (hF : f_X5_append x1 I = some q) : MC yX5_append cX5_append 2 (some .boolean) (rm_ 0 0) STxt 7 [.ref (0), .int (x1)] I J (some (.int q.1), q.2, J) :=
  mc_of pn_X5 (Nat.le_of_ble_eq_true rfl) (fun z O => c_X5_append_e O _ _ _ hF)

def f_X5_begin_b87 (I : IS) : Option (Int32 × IS) :=
  some ((1 : Int32), (u2 (u2 I (0) 5 (((I (0) 5) + (1 : Int32)))) (0) 9 ((1 : Int32))))
set_option maxHeartbeats 4000000 in
set_option maxRecDepth 100000 in
theorem c_X5_begin_b87 {z : CTX} {J : JS} (O : OK z cX5_begin RX5 2 STxt 7 (rm_ 0 0) (some .boolean)) : ∀ (I : IS) (q : Int32 × IS), f_X5_begin_b87 I = some q → G z 87 [(0, .ref (0))] [] I J (some (.int q.1), q.2, J) := by
  intro I q hF
  rw [f_X5_begin_b87] at hF
  refine g_aload_n O (pc := 87) dX5_begin_87 0 rfl ?_
  refine g_dup O (pc := 88) dX5_begin_88 rfl ?_
  refine g_getI O (pc := 89) isC_X5 dX5_begin_89 fw_X5_28 (by decide) fd_STxt_0_5 ?_
  refine g_iconst O (pc := 92) dX5_begin_92 (ic_1) ?_
  refine g_iadd O (pc := 93) dX5_begin_93 ?_
  refine g_putI O (pc := 94) isC_X5 isT_X5 dX5_begin_94 fw_X5_28 (by decide) rfl rfl fd_STxt_0_5 ?_
  refine g_aload_n O (pc := 97) dX5_begin_97 0 rfl ?_
  refine g_iconst O (pc := 98) dX5_begin_98 (ic_1) ?_
  refine g_putI O (pc := 99) isC_X5 isT_X5 dX5_begin_99 fw_X5_40 (by decide) rfl rfl fd_STxt_0_9 ?_
  refine g_iconst O (pc := 102) dX5_begin_102 (ic_1) ?_
  obtain rfl := Option.some.inj hF
  exact g_zreturn O (pc := 103) dX5_begin_103 (by decide) rfl

def f_X5_begin (x1 : Int32) (I : IS) : Option (Int32 × IS) :=
  if (I (0) 5) < (100 : Int32) then
  (if okI ((I (0) 5)) 100 = true then
  (if okI (((u2 I (2) ((I (0) 5)).toNatClampNeg (x1)) (0) 5)) 100 = true then
  ((some (u2 (u2 I (2) ((I (0) 5)).toNatClampNeg (x1)) (3) (((u2 I (2) ((I (0) 5)).toNatClampNeg (x1)) (0) 5)).toNatClampNeg ((0 : Int32)))).bind fun I4 =>
  (if okI ((I4 (0) 5)) 100 = true then
  (if ((u2 I4 (4) ((I4 (0) 5)).toNatClampNeg ((-5 : Int32))) (0) 8) ≤ 0 then
  (f_X5_begin_b87 ((u2 I4 (4) ((I4 (0) 5)).toNatClampNeg ((-5 : Int32)))))
  else
  (if okI ((((u2 I4 (4) ((I4 (0) 5)).toNatClampNeg ((-5 : Int32))) (0) 8) - (1 : Int32))) 4 = true then
  (if okI (((u2 I4 (4) ((I4 (0) 5)).toNatClampNeg ((-5 : Int32))) (0) 5)) 100 = true then
  ((some (u2 (u2 I4 (4) ((I4 (0) 5)).toNatClampNeg ((-5 : Int32))) (4) (((u2 I4 (4) ((I4 (0) 5)).toNatClampNeg ((-5 : Int32))) (0) 5)).toNatClampNeg (((u2 I4 (4) ((I4 (0) 5)).toNatClampNeg ((-5 : Int32))) (5) ((((u2 I4 (4) ((I4 (0) 5)).toNatClampNeg ((-5 : Int32))) (0) 8) - (1 : Int32))).toNatClampNeg)))).bind fun I10 =>
  (if okI (((I10 (0) 8) - (1 : Int32))) 4 = true then
  (if okI (((I10 (0) 8) - (1 : Int32))) 4 = true then
  ((some (u2 I10 (6) (((I10 (0) 8) - (1 : Int32))).toNatClampNeg (((I10 (6) (((I10 (0) 8) - (1 : Int32))).toNatClampNeg) + (1 : Int32))))).bind fun I14 =>
  (f_X5_begin_b87 (I14)))
  else none)
  else none))
  else none)
  else none))
  else none))
  else none)
  else none)
  else
  (some ((0 : Int32), I))
set_option maxHeartbeats 4000000 in
set_option maxRecDepth 100000 in
theorem c_X5_begin_e {z : CTX} {J : JS} (O : OK z cX5_begin RX5 2 STxt 7 (rm_ 0 0) (some .boolean)) : ∀ (x1 : Int32) (I : IS) (q : Int32 × IS), f_X5_begin x1 I = some q → G z 0 [(0, .ref (0)), (1, .int (x1))] [] I J (some (.int q.1), q.2, J) := by
  intro x1 I q hF
  rw [f_X5_begin] at hF
  refine g_aload_n O (pc := 0) dX5_begin_0 0 rfl ?_
  refine g_getI O (pc := 1) isC_X5 dX5_begin_1 fw_X5_28 (by decide) fd_STxt_0_5 ?_
  refine g_aload_n O (pc := 4) dX5_begin_4 0 rfl ?_
  refine g_getR O (pc := 5) isC_X5 dX5_begin_5 fw_X5_19 (by decide) fd_STxt_0_2 ?_
  refine g_len O (pc := 8) dX5_begin_8 (by decide) ar_STxt_2 (v := (100 : Int32)) rfl ?_
  refine g_icmp_lt O (pc := 9) 14 dX5_begin_9 (by decide) (fun h1 => ?_) (fun h1 => ?_)
  · rw [if_pos h1] at hF
    refine g_aload_n O (pc := 14) dX5_begin_14 0 rfl ?_
    refine g_getR O (pc := 15) isC_X5 dX5_begin_15 fw_X5_19 (by decide) fd_STxt_0_2 ?_
    refine g_aload_n O (pc := 18) dX5_begin_18 0 rfl ?_
    refine g_getI O (pc := 19) isC_X5 dX5_begin_19 fw_X5_28 (by decide) fd_STxt_0_5 ?_
    refine g_iload_n O (pc := 22) dX5_begin_22 1 rfl ?_
    obtain ⟨h2, hF⟩ := gd hF
    refine g_is O (pc := 23) dX5_begin_23 ar_STxt_2 h2 ?_
    refine g_aload_n O (pc := 24) dX5_begin_24 0 rfl ?_
    refine g_getR O (pc := 25) isC_X5 dX5_begin_25 fw_X5_22 (by decide) fd_STxt_0_3 ?_
    refine g_aload_n O (pc := 28) dX5_begin_28 0 rfl ?_
    refine g_getI O (pc := 29) isC_X5 dX5_begin_29 fw_X5_28 (by decide) fd_STxt_0_5 ?_
    refine g_iconst O (pc := 32) dX5_begin_32 (ic_0) ?_
    obtain ⟨h3, hF⟩ := gd hF
    refine g_is O (pc := 33) dX5_begin_33 ar_STxt_3 h3 ?_
    obtain ⟨I4, g5, hF⟩ := bnd hF
    refine g_nmI (Option.some.inj g5) ?_
    refine g_aload_n O (pc := 34) dX5_begin_34 0 rfl ?_
    refine g_getR O (pc := 35) isC_X5 dX5_begin_35 fw_X5_25 (by decide) fd_STxt_0_4 ?_
    refine g_aload_n O (pc := 38) dX5_begin_38 0 rfl ?_
    refine g_getI O (pc := 39) isC_X5 dX5_begin_39 fw_X5_28 (by decide) fd_STxt_0_5 ?_
    refine g_bipush O (pc := 42) dX5_begin_42 bp_m5 ?_
    obtain ⟨h6, hF⟩ := gd hF
    refine g_is O (pc := 44) dX5_begin_44 ar_STxt_4 h6 ?_
    refine g_aload_n O (pc := 45) dX5_begin_45 0 rfl ?_
    refine g_getI O (pc := 46) isC_X5 dX5_begin_46 fw_X5_37 (by decide) fd_STxt_0_8 ?_
    refine g_if_le O (pc := 49) 87 dX5_begin_49 (by decide) (fun h7 => ?_) (fun h7 => ?_)
    · rw [if_pos h7] at hF
      refine g_sub [0] (L' := [(0, .ref (0))]) rfl ?_
      exact c_X5_begin_b87 O _ _ hF
    · rw [if_neg h7] at hF
      refine g_aload_n O (pc := 52) dX5_begin_52 0 rfl ?_
      refine g_getR O (pc := 53) isC_X5 dX5_begin_53 fw_X5_25 (by decide) fd_STxt_0_4 ?_
      refine g_aload_n O (pc := 56) dX5_begin_56 0 rfl ?_
      refine g_getI O (pc := 57) isC_X5 dX5_begin_57 fw_X5_28 (by decide) fd_STxt_0_5 ?_
      refine g_aload_n O (pc := 60) dX5_begin_60 0 rfl ?_
      refine g_getR O (pc := 61) isC_X5 dX5_begin_61 fw_X5_31 (by decide) fd_STxt_0_6 ?_
      refine g_aload_n O (pc := 64) dX5_begin_64 0 rfl ?_
      refine g_getI O (pc := 65) isC_X5 dX5_begin_65 fw_X5_37 (by decide) fd_STxt_0_8 ?_
      refine g_iconst O (pc := 68) dX5_begin_68 (ic_1) ?_
      refine g_isub O (pc := 69) dX5_begin_69 ?_
      obtain ⟨h8, hF⟩ := gd hF
      refine g_il O (pc := 70) dX5_begin_70 ar_STxt_5 h8 ?_
      obtain ⟨h9, hF⟩ := gd hF
      refine g_is O (pc := 71) dX5_begin_71 ar_STxt_4 h9 ?_
      obtain ⟨I10, g11, hF⟩ := bnd hF
      refine g_nmI (Option.some.inj g11) ?_
      refine g_aload_n O (pc := 72) dX5_begin_72 0 rfl ?_
      refine g_getR O (pc := 73) isC_X5 dX5_begin_73 fw_X5_34 (by decide) fd_STxt_0_7 ?_
      refine g_aload_n O (pc := 76) dX5_begin_76 0 rfl ?_
      refine g_getI O (pc := 77) isC_X5 dX5_begin_77 fw_X5_37 (by decide) fd_STxt_0_8 ?_
      refine g_iconst O (pc := 80) dX5_begin_80 (ic_1) ?_
      refine g_isub O (pc := 81) dX5_begin_81 ?_
      refine g_dup2 O (pc := 82) dX5_begin_82 rfl rfl ?_
      obtain ⟨h12, hF⟩ := gd hF
      refine g_il O (pc := 83) dX5_begin_83 ar_STxt_6 h12 ?_
      refine g_iconst O (pc := 84) dX5_begin_84 (ic_1) ?_
      refine g_iadd O (pc := 85) dX5_begin_85 ?_
      obtain ⟨h13, hF⟩ := gd hF
      refine g_is O (pc := 86) dX5_begin_86 ar_STxt_6 h13 ?_
      obtain ⟨I14, g15, hF⟩ := bnd hF
      refine g_nmI (Option.some.inj g15) ?_
      refine g_sub [0] (L' := [(0, .ref (0))]) rfl ?_
      exact c_X5_begin_b87 O _ _ hF
  · rw [if_neg h1] at hF
    refine g_iconst O (pc := 12) dX5_begin_12 (ic_0) ?_
    obtain rfl := Option.some.inj hF
    exact g_zreturn O (pc := 13) dX5_begin_13 (by decide) rfl

theorem mc_X5_begin {x1 : Int32} {I : IS} (J : JS) {q : Int32 × IS} (hF : f_X5_begin x1 I = some q) : MC yX5_begin cX5_begin 2 (some .boolean) (rm_ 0 0) STxt 7 [.ref (0), .int (x1)] I J (some (.int q.1), q.2, J) :=
  mc_of pn_X5 (Nat.le_of_ble_eq_true rfl) (fun z O => c_X5_begin_e O _ _ _ hF)

def f_X5_closes (I : IS) : Option (Int32 × IS) :=
  if (I (0) 8) = 0 then
  (some ((0 : Int32), I))
  else
  (some ((1 : Int32), (u2 (u2 I (0) 8 (((I (0) 8) - (1 : Int32)))) (0) 9 ((3 : Int32)))))
set_option maxHeartbeats 4000000 in
set_option maxRecDepth 100000 in
theorem c_X5_closes_e {z : CTX} {J : JS} (O : OK z cX5_closes RX5 1 STxt 7 (rm_ 0 0) (some .boolean)) : ∀ (I : IS) (q : Int32 × IS), f_X5_closes I = some q → G z 0 [(0, .ref (0))] [] I J (some (.int q.1), q.2, J) := by
  intro I q hF
  rw [f_X5_closes] at hF
  refine g_aload_n O (pc := 0) dX5_closes_0 0 rfl ?_
  refine g_getI O (pc := 1) isC_X5 dX5_closes_1 fw_X5_37 (by decide) fd_STxt_0_8 ?_
  refine g_if_ne O (pc := 4) 9 dX5_closes_4 (by decide) (fun h1 => ?_) (fun h1 => ?_)
  · rw [if_neg h1] at hF
    refine g_aload_n O (pc := 9) dX5_closes_9 0 rfl ?_
    refine g_dup O (pc := 10) dX5_closes_10 rfl ?_
    refine g_getI O (pc := 11) isC_X5 dX5_closes_11 fw_X5_37 (by decide) fd_STxt_0_8 ?_
    refine g_iconst O (pc := 14) dX5_closes_14 (ic_1) ?_
    refine g_isub O (pc := 15) dX5_closes_15 ?_
    refine g_putI O (pc := 16) isC_X5 isT_X5 dX5_closes_16 fw_X5_37 (by decide) rfl rfl fd_STxt_0_8 ?_
    refine g_aload_n O (pc := 19) dX5_closes_19 0 rfl ?_
    refine g_iconst O (pc := 20) dX5_closes_20 (ic_3) ?_
    refine g_putI O (pc := 21) isC_X5 isT_X5 dX5_closes_21 fw_X5_40 (by decide) rfl rfl fd_STxt_0_9 ?_
    refine g_iconst O (pc := 24) dX5_closes_24 (ic_1) ?_
    obtain rfl := Option.some.inj hF
    exact g_zreturn O (pc := 25) dX5_closes_25 (by decide) rfl
  · rw [if_pos h1] at hF
    refine g_iconst O (pc := 7) dX5_closes_7 (ic_0) ?_
    obtain rfl := Option.some.inj hF
    exact g_zreturn O (pc := 8) dX5_closes_8 (by decide) rfl

theorem mc_X5_closes {I : IS} (J : JS) {q : Int32 × IS} (hF : f_X5_closes I = some q) : MC yX5_closes cX5_closes 1 (some .boolean) (rm_ 0 0) STxt 7 [.ref (0)] I J (some (.int q.1), q.2, J) :=
  mc_of pn_X5 (Nat.le_of_ble_eq_true rfl) (fun z O => c_X5_closes_e O _ _ hF)

def f_X5_marks_b15 (I : IS) : Option (Int32 × IS) :=
  some ((0 : Int32), I)
set_option maxHeartbeats 4000000 in
set_option maxRecDepth 100000 in
theorem c_X5_marks_b15 {z : CTX} {J : JS} (O : OK z cX5_marks RX5 2 STxt 7 (rm_ 0 0) (some .boolean)) : ∀ (I : IS) (q : Int32 × IS), f_X5_marks_b15 I = some q → G z 15 [] [] I J (some (.int q.1), q.2, J) := by
  intro I q hF
  rw [f_X5_marks_b15] at hF
  refine g_iconst O (pc := 15) dX5_marks_15 (ic_0) ?_
  obtain rfl := Option.some.inj hF
  exact g_zreturn O (pc := 16) dX5_marks_16 (by decide) rfl

def f_X5_marks (x1 : Int32) (I : IS) : Option (Int32 × IS) :=
  if (I (0) 9) = (1 : Int32) then
  (if (I (0) 5) = 0 then
  (f_X5_marks_b15 (I))
  else
  (if okI (((I (0) 5) - (1 : Int32))) 100 = true then
  (some ((1 : Int32), (u2 (u2 I (3) (((I (0) 5) - (1 : Int32))).toNatClampNeg (x1)) (0) 9 ((2 : Int32)))))
  else none))
  else
  (f_X5_marks_b15 (I))
set_option maxHeartbeats 4000000 in
set_option maxRecDepth 100000 in
theorem c_X5_marks_e {z : CTX} {J : JS} (O : OK z cX5_marks RX5 2 STxt 7 (rm_ 0 0) (some .boolean)) : ∀ (x1 : Int32) (I : IS) (q : Int32 × IS), f_X5_marks x1 I = some q → G z 0 [(0, .ref (0)), (1, .int (x1))] [] I J (some (.int q.1), q.2, J) := by
  intro x1 I q hF
  rw [f_X5_marks] at hF
  refine g_aload_n O (pc := 0) dX5_marks_0 0 rfl ?_
  refine g_getI O (pc := 1) isC_X5 dX5_marks_1 fw_X5_40 (by decide) fd_STxt_0_9 ?_
  refine g_iconst O (pc := 4) dX5_marks_4 (ic_1) ?_
  refine g_icmp_ne O (pc := 5) 15 dX5_marks_5 (by decide) (fun h1 => ?_) (fun h1 => ?_)
  · rw [if_neg h1] at hF
    refine g_sub [] (L' := []) rfl ?_
    exact c_X5_marks_b15 O _ _ hF
  · rw [if_pos h1] at hF
    refine g_aload_n O (pc := 8) dX5_marks_8 0 rfl ?_
    refine g_getI O (pc := 9) isC_X5 dX5_marks_9 fw_X5_28 (by decide) fd_STxt_0_5 ?_
    refine g_if_ne O (pc := 12) 17 dX5_marks_12 (by decide) (fun h2 => ?_) (fun h2 => ?_)
    · rw [if_neg h2] at hF
      refine g_aload_n O (pc := 17) dX5_marks_17 0 rfl ?_
      refine g_getR O (pc := 18) isC_X5 dX5_marks_18 fw_X5_22 (by decide) fd_STxt_0_3 ?_
      refine g_aload_n O (pc := 21) dX5_marks_21 0 rfl ?_
      refine g_getI O (pc := 22) isC_X5 dX5_marks_22 fw_X5_28 (by decide) fd_STxt_0_5 ?_
      refine g_iconst O (pc := 25) dX5_marks_25 (ic_1) ?_
      refine g_isub O (pc := 26) dX5_marks_26 ?_
      refine g_iload_n O (pc := 27) dX5_marks_27 1 rfl ?_
      obtain ⟨h3, hF⟩ := gd hF
      refine g_is O (pc := 28) dX5_marks_28 ar_STxt_3 h3 ?_
      refine g_aload_n O (pc := 29) dX5_marks_29 0 rfl ?_
      refine g_iconst O (pc := 30) dX5_marks_30 (ic_2) ?_
      refine g_putI O (pc := 31) isC_X5 isT_X5 dX5_marks_31 fw_X5_40 (by decide) rfl rfl fd_STxt_0_9 ?_
      refine g_iconst O (pc := 34) dX5_marks_34 (ic_1) ?_
      obtain rfl := Option.some.inj hF
      exact g_zreturn O (pc := 35) dX5_marks_35 (by decide) rfl
    · rw [if_pos h2] at hF
      refine g_sub [] (L' := []) rfl ?_
      exact c_X5_marks_b15 O _ _ hF

theorem mc_X5_marks {x1 : Int32} {I : IS} (J : JS) {q : Int32 × IS} (hF : f_X5_marks x1 I = some q) : MC yX5_marks cX5_marks 2 (some .boolean) (rm_ 0 0) STxt 7 [.ref (0), .int (x1)] I J (some (.int q.1), q.2, J) :=
  mc_of pn_X5 (Nat.le_of_ble_eq_true rfl) (fun z O => c_X5_marks_e O _ _ _ hF)

def f_X5_opens_b16 (I : IS) : Option (Int32 × IS) :=
  some ((0 : Int32), I)
set_option maxHeartbeats 4000000 in
set_option maxRecDepth 100000 in
theorem c_X5_opens_b16 {z : CTX} {J : JS} (O : OK z cX5_opens RX5 1 STxt 7 (rm_ 0 0) (some .boolean)) : ∀ (I : IS) (q : Int32 × IS), f_X5_opens_b16 I = some q → G z 16 [] [] I J (some (.int q.1), q.2, J) := by
  intro I q hF
  rw [f_X5_opens_b16] at hF
  refine g_iconst O (pc := 16) dX5_opens_16 (ic_0) ?_
  obtain rfl := Option.some.inj hF
  exact g_zreturn O (pc := 17) dX5_opens_17 (by decide) rfl

def f_X5_opens (I : IS) : Option (Int32 × IS) :=
  if (I (0) 9) = (3 : Int32) then
  (f_X5_opens_b16 (I))
  else
  (if (I (0) 8) < (4 : Int32) then
  (if okI ((I (0) 8)) 4 = true then
  (if okI (((u2 I (5) ((I (0) 8)).toNatClampNeg (((I (0) 5) - (1 : Int32)))) (0) 8)) 4 = true then
  ((some (u2 (u2 I (5) ((I (0) 8)).toNatClampNeg (((I (0) 5) - (1 : Int32)))) (6) (((u2 I (5) ((I (0) 8)).toNatClampNeg (((I (0) 5) - (1 : Int32)))) (0) 8)).toNatClampNeg ((0 : Int32)))).bind fun I5 =>
  (some ((1 : Int32), (u2 (u2 I5 (0) 8 (((I5 (0) 8) + (1 : Int32)))) (0) 9 ((0 : Int32))))))
  else none)
  else none)
  else
  (f_X5_opens_b16 (I)))
set_option maxHeartbeats 4000000 in
set_option maxRecDepth 100000 in
theorem c_X5_opens_e {z : CTX} {J : JS} (O : OK z cX5_opens RX5 1 STxt 7 (rm_ 0 0) (some .boolean)) : ∀ (I : IS) (q : Int32 × IS), f_X5_opens I = some q → G z 0 [(0, .ref (0))] [] I J (some (.int q.1), q.2, J) := by
  intro I q hF
  rw [f_X5_opens] at hF
  refine g_aload_n O (pc := 0) dX5_opens_0 0 rfl ?_
  refine g_getI O (pc := 1) isC_X5 dX5_opens_1 fw_X5_40 (by decide) fd_STxt_0_9 ?_
  refine g_iconst O (pc := 4) dX5_opens_4 (ic_3) ?_
  refine g_icmp_eq O (pc := 5) 16 dX5_opens_5 (by decide) (fun h1 => ?_) (fun h1 => ?_)
  · rw [if_pos h1] at hF
    refine g_sub [] (L' := []) rfl ?_
    exact c_X5_opens_b16 O _ _ hF
  · rw [if_neg h1] at hF
    refine g_aload_n O (pc := 8) dX5_opens_8 0 rfl ?_
    refine g_getI O (pc := 9) isC_X5 dX5_opens_9 fw_X5_37 (by decide) fd_STxt_0_8 ?_
    refine g_iconst O (pc := 12) dX5_opens_12 (ic_4) ?_
    refine g_icmp_lt O (pc := 13) 18 dX5_opens_13 (by decide) (fun h2 => ?_) (fun h2 => ?_)
    · rw [if_pos h2] at hF
      refine g_aload_n O (pc := 18) dX5_opens_18 0 rfl ?_
      refine g_getR O (pc := 19) isC_X5 dX5_opens_19 fw_X5_31 (by decide) fd_STxt_0_6 ?_
      refine g_aload_n O (pc := 22) dX5_opens_22 0 rfl ?_
      refine g_getI O (pc := 23) isC_X5 dX5_opens_23 fw_X5_37 (by decide) fd_STxt_0_8 ?_
      refine g_aload_n O (pc := 26) dX5_opens_26 0 rfl ?_
      refine g_getI O (pc := 27) isC_X5 dX5_opens_27 fw_X5_28 (by decide) fd_STxt_0_5 ?_
      refine g_iconst O (pc := 30) dX5_opens_30 (ic_1) ?_
      refine g_isub O (pc := 31) dX5_opens_31 ?_
      obtain ⟨h3, hF⟩ := gd hF
      refine g_is O (pc := 32) dX5_opens_32 ar_STxt_5 h3 ?_
      refine g_aload_n O (pc := 33) dX5_opens_33 0 rfl ?_
      refine g_getR O (pc := 34) isC_X5 dX5_opens_34 fw_X5_34 (by decide) fd_STxt_0_7 ?_
      refine g_aload_n O (pc := 37) dX5_opens_37 0 rfl ?_
      refine g_getI O (pc := 38) isC_X5 dX5_opens_38 fw_X5_37 (by decide) fd_STxt_0_8 ?_
      refine g_iconst O (pc := 41) dX5_opens_41 (ic_0) ?_
      obtain ⟨h4, hF⟩ := gd hF
      refine g_is O (pc := 42) dX5_opens_42 ar_STxt_6 h4 ?_
      obtain ⟨I5, g6, hF⟩ := bnd hF
      refine g_nmI (Option.some.inj g6) ?_
      refine g_aload_n O (pc := 43) dX5_opens_43 0 rfl ?_
      refine g_dup O (pc := 44) dX5_opens_44 rfl ?_
      refine g_getI O (pc := 45) isC_X5 dX5_opens_45 fw_X5_37 (by decide) fd_STxt_0_8 ?_
      refine g_iconst O (pc := 48) dX5_opens_48 (ic_1) ?_
      refine g_iadd O (pc := 49) dX5_opens_49 ?_
      refine g_putI O (pc := 50) isC_X5 isT_X5 dX5_opens_50 fw_X5_37 (by decide) rfl rfl fd_STxt_0_8 ?_
      refine g_aload_n O (pc := 53) dX5_opens_53 0 rfl ?_
      refine g_iconst O (pc := 54) dX5_opens_54 (ic_0) ?_
      refine g_putI O (pc := 55) isC_X5 isT_X5 dX5_opens_55 fw_X5_40 (by decide) rfl rfl fd_STxt_0_9 ?_
      refine g_iconst O (pc := 58) dX5_opens_58 (ic_1) ?_
      obtain rfl := Option.some.inj hF
      exact g_zreturn O (pc := 59) dX5_opens_59 (by decide) rfl
    · rw [if_neg h2] at hF
      refine g_sub [] (L' := []) rfl ?_
      exact c_X5_opens_b16 O _ _ hF

theorem mc_X5_opens {I : IS} (J : JS) {q : Int32 × IS} (hF : f_X5_opens I = some q) : MC yX5_opens cX5_opens 1 (some .boolean) (rm_ 0 0) STxt 7 [.ref (0)] I J (some (.int q.1), q.2, J) :=
  mc_of pn_X5 (Nat.le_of_ble_eq_true rfl) (fun z O => c_X5_opens_e O _ _ hF)

def f_X5_separates_b23 (I : IS) : Option (Int32 × IS) :=
  some ((0 : Int32), I)
set_option maxHeartbeats 4000000 in
set_option maxRecDepth 100000 in
theorem c_X5_separates_b23 {z : CTX} {J : JS} (O : OK z cX5_separates RX5 1 STxt 7 (rm_ 0 0) (some .boolean)) : ∀ (I : IS) (q : Int32 × IS), f_X5_separates_b23 I = some q → G z 23 [] [] I J (some (.int q.1), q.2, J) := by
  intro I q hF
  rw [f_X5_separates_b23] at hF
  refine g_iconst O (pc := 23) dX5_separates_23 (ic_0) ?_
  obtain rfl := Option.some.inj hF
  exact g_zreturn O (pc := 24) dX5_separates_24 (by decide) rfl

def f_X5_separates (I : IS) : Option (Int32 × IS) :=
  if (I (0) 8) = 0 then
  (f_X5_separates_b23 (I))
  else
  (if okI (((I (0) 8) - (1 : Int32))) 4 = true then
  (if (I (6) (((I (0) 8) - (1 : Int32))).toNatClampNeg) < (6 : Int32) then
  (some ((1 : Int32), (u2 I (0) 9 ((0 : Int32)))))
  else
  (f_X5_separates_b23 (I)))
  else none)
set_option maxHeartbeats 4000000 in
set_option maxRecDepth 100000 in
theorem c_X5_separates_e {z : CTX} {J : JS} (O : OK z cX5_separates RX5 1 STxt 7 (rm_ 0 0) (some .boolean)) : ∀ (I : IS) (q : Int32 × IS), f_X5_separates I = some q → G z 0 [(0, .ref (0))] [] I J (some (.int q.1), q.2, J) := by
  intro I q hF
  rw [f_X5_separates] at hF
  refine g_aload_n O (pc := 0) dX5_separates_0 0 rfl ?_
  refine g_getI O (pc := 1) isC_X5 dX5_separates_1 fw_X5_37 (by decide) fd_STxt_0_8 ?_
  refine g_if_eq O (pc := 4) 23 dX5_separates_4 (by decide) (fun h1 => ?_) (fun h1 => ?_)
  · rw [if_pos h1] at hF
    refine g_sub [] (L' := []) rfl ?_
    exact c_X5_separates_b23 O _ _ hF
  · rw [if_neg h1] at hF
    refine g_aload_n O (pc := 7) dX5_separates_7 0 rfl ?_
    refine g_getR O (pc := 8) isC_X5 dX5_separates_8 fw_X5_34 (by decide) fd_STxt_0_7 ?_
    refine g_aload_n O (pc := 11) dX5_separates_11 0 rfl ?_
    refine g_getI O (pc := 12) isC_X5 dX5_separates_12 fw_X5_37 (by decide) fd_STxt_0_8 ?_
    refine g_iconst O (pc := 15) dX5_separates_15 (ic_1) ?_
    refine g_isub O (pc := 16) dX5_separates_16 ?_
    obtain ⟨h2, hF⟩ := gd hF
    refine g_il O (pc := 17) dX5_separates_17 ar_STxt_6 h2 ?_
    refine g_bipush O (pc := 18) dX5_separates_18 bp_6 ?_
    refine g_icmp_lt O (pc := 20) 25 dX5_separates_20 (by decide) (fun h3 => ?_) (fun h3 => ?_)
    · rw [if_pos h3] at hF
      refine g_aload_n O (pc := 25) dX5_separates_25 0 rfl ?_
      refine g_iconst O (pc := 26) dX5_separates_26 (ic_0) ?_
      refine g_putI O (pc := 27) isC_X5 isT_X5 dX5_separates_27 fw_X5_40 (by decide) rfl rfl fd_STxt_0_9 ?_
      refine g_iconst O (pc := 30) dX5_separates_30 (ic_1) ?_
      obtain rfl := Option.some.inj hF
      exact g_zreturn O (pc := 31) dX5_separates_31 (by decide) rfl
    · rw [if_neg h3] at hF
      refine g_sub [] (L' := []) rfl ?_
      exact c_X5_separates_b23 O _ _ hF

theorem mc_X5_separates {I : IS} (J : JS) {q : Int32 × IS} (hF : f_X5_separates I = some q) : MC yX5_separates cX5_separates 1 (some .boolean) (rm_ 0 0) STxt 7 [.ref (0)] I J (some (.int q.1), q.2, J) :=
  mc_of pn_X5 (Nat.le_of_ble_eq_true rfl) (fun z O => c_X5_separates_e O _ _ hF)

def f_X5_goesOn_b35 (s0 : Int32) (I : IS) : Option (Int32 × IS) :=
  if okZ (s0) = true then some (s0, I) else none
set_option maxHeartbeats 4000000 in
set_option maxRecDepth 100000 in
theorem c_X5_goesOn_b35 {z : CTX} {J : JS} (O : OK z cX5_goesOn RX5 2 STxt 7 (rm_ 1 21) (some .boolean)) : ∀ (s0 : Int32) (I : IS) (q : Int32 × IS), f_X5_goesOn_b35 s0 I = some q → G z 35 [] [.int (s0)] I J (some (.int q.1), q.2, J) := by
  intro s0 I q hF
  rw [f_X5_goesOn_b35] at hF
  obtain ⟨h1, hF⟩ := gd hF
  obtain rfl := Option.some.inj hF
  exact g_zreturn O (pc := 35) dX5_goesOn_35 h1 rfl

def f_X5_goesOn_b34 (I : IS) : Option (Int32 × IS) :=
  f_X5_goesOn_b35 ((0 : Int32)) (I)
set_option maxHeartbeats 4000000 in
set_option maxRecDepth 100000 in
theorem c_X5_goesOn_b34 {z : CTX} {J : JS} (O : OK z cX5_goesOn RX5 2 STxt 7 (rm_ 1 21) (some .boolean)) : ∀ (I : IS) (q : Int32 × IS), f_X5_goesOn_b34 I = some q → G z 34 [] [] I J (some (.int q.1), q.2, J) := by
  intro I q hF
  rw [f_X5_goesOn_b34] at hF
  refine g_iconst O (pc := 34) dX5_goesOn_34 (ic_0) ?_
  refine g_sub [] (L' := []) rfl ?_
  exact c_X5_goesOn_b35 O _ _ _ hF

def f_X5_goesOn (x1 : Int32) (I : IS) : Option (Int32 × IS) :=
  if (I (0) 9) = 0 then
  (if x1 < (49 : Int32) then
  (f_X5_goesOn_b34 (I))
  else
  (if (57 : Int32) < x1 then
  (f_X5_goesOn_b34 (I))
  else
  ((f_X5_begin ((x1 - (48 : Int32))) I).bind fun q24 =>
  (if q24.1 = 0 then
  (f_X5_goesOn_b34 (q24.2))
  else
  (f_X5_goesOn_b35 ((1 : Int32)) (q24.2))))))
  else
  (if x1 = 33 then
  ((f_X5_marks ((1 : Int32)) I).bind fun q3 =>
  (if okZ (q3.1) = true then some (q3.1, q3.2) else none))
  else if x1 = 40 then
  ((f_X5_opens I).bind fun q7 =>
  (if okZ (q7.1) = true then some (q7.1, q7.2) else none))
  else if x1 = 41 then
  ((f_X5_closes I).bind fun q11 =>
  (if okZ (q11.1) = true then some (q11.1, q11.2) else none))
  else if x1 = 44 then
  ((f_X5_separates I).bind fun q15 =>
  (if okZ (q15.1) = true then some (q15.1, q15.2) else none))
  else if x1 = 63 then
  ((f_X5_marks ((2 : Int32)) I).bind fun q19 =>
  (if okZ (q19.1) = true then some (q19.1, q19.2) else none))
  else (some ((0 : Int32), I)))
set_option maxHeartbeats 4000000 in
set_option maxRecDepth 100000 in
theorem c_X5_goesOn_e {z : CTX} {J : JS} (O : OK z cX5_goesOn RX5 2 STxt 7 (rm_ 1 21) (some .boolean)) : ∀ (x1 : Int32) (I : IS) (q : Int32 × IS), f_X5_goesOn x1 I = some q → G z 0 [(0, .ref (0)), (1, .int (x1))] [] I J (some (.int q.1), q.2, J) := by
  intro x1 I q hF
  rw [f_X5_goesOn] at hF
  refine g_aload_n O (pc := 0) dX5_goesOn_0 0 rfl ?_
  refine g_getI O (pc := 1) isC_X5 dX5_goesOn_1 fw_X5_40 (by decide) fd_STxt_0_9 ?_
  refine g_if_ne O (pc := 4) 36 dX5_goesOn_4 (by decide) (fun h1 => ?_) (fun h1 => ?_)
  · rw [if_neg h1] at hF
    refine g_iload_n O (pc := 36) dX5_goesOn_36 1 rfl ?_
    by_cases h2 : x1 = 33
    · rw [if_pos h2] at hF
      refine g_look O (pc := 37) (51) 88 dX5_goesOn_37 (by decide) (by rw [h2]; decide) (by decide) ?_
      refine g_aload_n O (pc := 88) dX5_goesOn_88 0 rfl ?_
      refine g_iconst O (pc := 89) dX5_goesOn_89 (ic_1) ?_
      obtain ⟨q3, e4, hF⟩ := bnd hF
      refine g_Vi O (pc := 90) (st := []) dX5_goesOn_90 (mc_X5_marks J e4) cb_X5_marks ml_X5_50 isC_X5 ob_STxt (zm0 _ _ _ _ _ _ _) (rmok (Nat.le_of_ble_eq_true rfl) (Nat.le_of_ble_eq_true rfl)) (Nat.le_of_ble_eq_true rfl) rfl ?_
      obtain ⟨h5, hF⟩ := gd hF
      obtain rfl := Option.some.inj hF
      exact g_zreturn O (pc := 93) dX5_goesOn_93 h5 rfl
    rw [if_neg h2] at hF
    by_cases h6 : x1 = 40
    · rw [if_pos h6] at hF
      refine g_look O (pc := 37) (63) 100 dX5_goesOn_37 (by decide) (by rw [h6]; decide) (by decide) ?_
      refine g_aload_n O (pc := 100) dX5_goesOn_100 0 rfl ?_
      obtain ⟨q7, e8, hF⟩ := bnd hF
      refine g_Vi O (pc := 101) (st := []) dX5_goesOn_101 (mc_X5_opens J e8) cb_X5_opens ml_X5_53 isC_X5 ob_STxt (zm0 _ _ _ _ _ _ _) (rmok (Nat.le_of_ble_eq_true rfl) (Nat.le_of_ble_eq_true rfl)) (Nat.le_of_ble_eq_true rfl) rfl ?_
      obtain ⟨h9, hF⟩ := gd hF
      obtain rfl := Option.some.inj hF
      exact g_zreturn O (pc := 104) dX5_goesOn_104 h9 rfl
    rw [if_neg h6] at hF
    by_cases h10 : x1 = 41
    · rw [if_pos h10] at hF
      refine g_look O (pc := 37) (73) 110 dX5_goesOn_37 (by decide) (by rw [h10]; decide) (by decide) ?_
      refine g_aload_n O (pc := 110) dX5_goesOn_110 0 rfl ?_
      obtain ⟨q11, e12, hF⟩ := bnd hF
      refine g_Vi O (pc := 111) (st := []) dX5_goesOn_111 (mc_X5_closes J e12) cb_X5_closes ml_X5_60 isC_X5 ob_STxt (zm0 _ _ _ _ _ _ _) (rmok (Nat.le_of_ble_eq_true rfl) (Nat.le_of_ble_eq_true rfl)) (Nat.le_of_ble_eq_true rfl) rfl ?_
      obtain ⟨h13, hF⟩ := gd hF
      obtain rfl := Option.some.inj hF
      exact g_zreturn O (pc := 114) dX5_goesOn_114 h13 rfl
    rw [if_neg h10] at hF
    by_cases h14 : x1 = 44
    · rw [if_pos h14] at hF
      refine g_look O (pc := 37) (68) 105 dX5_goesOn_37 (by decide) (by rw [h14]; decide) (by decide) ?_
      refine g_aload_n O (pc := 105) dX5_goesOn_105 0 rfl ?_
      obtain ⟨q15, e16, hF⟩ := bnd hF
      refine g_Vi O (pc := 106) (st := []) dX5_goesOn_106 (mc_X5_separates J e16) cb_X5_separates ml_X5_57 isC_X5 ob_STxt (zm0 _ _ _ _ _ _ _) (rmok (Nat.le_of_ble_eq_true rfl) (Nat.le_of_ble_eq_true rfl)) (Nat.le_of_ble_eq_true rfl) rfl ?_
      obtain ⟨h17, hF⟩ := gd hF
      obtain rfl := Option.some.inj hF
      exact g_zreturn O (pc := 109) dX5_goesOn_109 h17 rfl
    rw [if_neg h14] at hF
    by_cases h18 : x1 = 63
    · rw [if_pos h18] at hF
      refine g_look O (pc := 37) (57) 94 dX5_goesOn_37 (by decide) (by rw [h18]; decide) (by decide) ?_
      refine g_aload_n O (pc := 94) dX5_goesOn_94 0 rfl ?_
      refine g_iconst O (pc := 95) dX5_goesOn_95 (ic_2) ?_
      obtain ⟨q19, e20, hF⟩ := bnd hF
      refine g_Vi O (pc := 96) (st := []) dX5_goesOn_96 (mc_X5_marks J e20) cb_X5_marks ml_X5_50 isC_X5 ob_STxt (zm0 _ _ _ _ _ _ _) (rmok (Nat.le_of_ble_eq_true rfl) (Nat.le_of_ble_eq_true rfl)) (Nat.le_of_ble_eq_true rfl) rfl ?_
      obtain ⟨h21, hF⟩ := gd hF
      obtain rfl := Option.some.inj hF
      exact g_zreturn O (pc := 99) dX5_goesOn_99 h21 rfl
    rw [if_neg h18] at hF
    have ih2 : ¬ (x1).toInt = 33 := fun q => h2 (Int32.toInt_inj.mp q)
    have ih6 : ¬ (x1).toInt = 40 := fun q => h6 (Int32.toInt_inj.mp q)
    have ih10 : ¬ (x1).toInt = 41 := fun q => h10 (Int32.toInt_inj.mp q)
    have ih14 : ¬ (x1).toInt = 44 := fun q => h14 (Int32.toInt_inj.mp q)
    have ih18 : ¬ (x1).toInt = 63 := fun q => h18 (Int32.toInt_inj.mp q)
    refine g_look O (pc := 37) (78) 115 dX5_goesOn_37 (by decide) (look_out ih2 ih6 ih10 ih14 ih18) (by decide) ?_
    refine g_iconst O (pc := 115) dX5_goesOn_115 (ic_0) ?_
    obtain rfl := Option.some.inj hF
    exact g_zreturn O (pc := 116) dX5_goesOn_116 (by decide) rfl
  · rw [if_pos h1] at hF
    refine g_iload_n O (pc := 7) dX5_goesOn_7 1 rfl ?_
    refine g_bipush O (pc := 8) dX5_goesOn_8 bp_49 ?_
    refine g_icmp_lt O (pc := 10) 34 dX5_goesOn_10 (by decide) (fun h22 => ?_) (fun h22 => ?_)
    · rw [if_pos h22] at hF
      refine g_sub [] (L' := []) rfl ?_
      exact c_X5_goesOn_b34 O _ _ hF
    · rw [if_neg h22] at hF
      refine g_iload_n O (pc := 13) dX5_goesOn_13 1 rfl ?_
      refine g_bipush O (pc := 14) dX5_goesOn_14 bp_57 ?_
      refine g_icmp_gt O (pc := 16) 34 dX5_goesOn_16 (by decide) (fun h23 => ?_) (fun h23 => ?_)
      · rw [if_pos h23] at hF
        refine g_sub [] (L' := []) rfl ?_
        exact c_X5_goesOn_b34 O _ _ hF
      · rw [if_neg h23] at hF
        refine g_aload_n O (pc := 19) dX5_goesOn_19 0 rfl ?_
        refine g_iload_n O (pc := 20) dX5_goesOn_20 1 rfl ?_
        refine g_bipush O (pc := 21) dX5_goesOn_21 bp_48 ?_
        refine g_isub O (pc := 23) dX5_goesOn_23 ?_
        obtain ⟨q24, e25, hF⟩ := bnd hF
        refine g_Vi O (pc := 24) (st := []) dX5_goesOn_24 (mc_X5_begin J e25) cb_X5_begin ml_X5_47 isC_X5 ob_STxt (zm0 _ _ _ _ _ _ _) (rmok (Nat.le_of_ble_eq_true rfl) (Nat.le_of_ble_eq_true rfl)) (Nat.le_of_ble_eq_true rfl) rfl ?_
        refine g_if_eq O (pc := 27) 34 dX5_goesOn_27 (by decide) (fun h26 => ?_) (fun h26 => ?_)
        · rw [if_pos h26] at hF
          refine g_sub [] (L' := []) rfl ?_
          exact c_X5_goesOn_b34 O _ _ hF
        · rw [if_neg h26] at hF
          refine g_iconst O (pc := 30) dX5_goesOn_30 (ic_1) ?_
          refine g_goto O (pc := 31) 35 dX5_goesOn_31 (by decide) ?_
          refine g_sub [] (L' := []) rfl ?_
          exact c_X5_goesOn_b35 O _ _ _ hF

theorem mc_X5_goesOn {x1 : Int32} {I : IS} (J : JS) {q : Int32 × IS} (hF : f_X5_goesOn x1 I = some q) : MC yX5_goesOn cX5_goesOn 2 (some .boolean) (rm_ 1 21) STxt 7 [.ref (0), .int (x1)] I J (some (.int q.1), q.2, J) :=
  mc_of pn_X5 (Nat.le_of_ble_eq_true rfl) (fun z O => c_X5_goesOn_e O _ _ _ hF)

def f_X5_parse_b69 (s0 : Int32) (I : IS) : Option (Int32 × IS) :=
  some (s0, I)
set_option maxHeartbeats 4000000 in
set_option maxRecDepth 100000 in
theorem c_X5_parse_b69 {z : CTX} {J : JS} (O : OK z cX5_parse RX5 2 STxt 7 (rm_ 2 42) (some .int)) : ∀ (s0 : Int32) (I : IS) (q : Int32 × IS), f_X5_parse_b69 s0 I = some q → G z 69 [] [.int (s0)] I J (some (.int q.1), q.2, J) := by
  intro s0 I q hF
  rw [f_X5_parse_b69] at hF
  obtain rfl := Option.some.inj hF
  exact g_ireturn O (pc := 69) dX5_parse_69 rfl

def f_X5_parse_b60 (I : IS) : Option (Int32 × IS) :=
  f_X5_parse_b69 ((I (0) 1)) (I)
set_option maxHeartbeats 4000000 in
set_option maxRecDepth 100000 in
theorem c_X5_parse_b60 {z : CTX} {J : JS} (O : OK z cX5_parse RX5 2 STxt 7 (rm_ 2 42) (some .int)) : ∀ (I : IS) (q : Int32 × IS), f_X5_parse_b60 I = some q → G z 60 [(0, .ref (0))] [] I J (some (.int q.1), q.2, J) := by
  intro I q hF
  rw [f_X5_parse_b60] at hF
  refine g_aload_n O (pc := 60) dX5_parse_60 0 rfl ?_
  refine g_getI O (pc := 61) isC_X5 dX5_parse_61 fw_X5_15 (by decide) fd_STxt_0_1 ?_
  refine g_goto O (pc := 64) 69 dX5_parse_64 (by decide) ?_
  refine g_sub [] (L' := []) rfl ?_
  exact c_X5_parse_b69 O _ _ _ hF

def f_X5_parse_b17 : Nat → Int32 → IS → Option (Int32 × IS)
  | 0, _, _ => none
  | fu + 1, x1, I =>
    if (I (0) 1) ≤ x1 then
    (if (I (0) 9) = 0 then
    (f_X5_parse_b60 (I))
    else
    (if (I (0) 8) ≤ 0 then
    (f_X5_parse_b69 ((-5 : Int32)) (I))
    else
    (f_X5_parse_b60 (I))))
    else
    (if okI (x1) 100 = true then
    ((f_X5_goesOn ((I (1) (x1).toNatClampNeg)) I).bind fun q5 =>
    (if q5.1 = 0 then
    (some (x1, q5.2))
    else
    (f_X5_parse_b17 fu (x1 + (1 : Int32)) (q5.2))))
    else none)
set_option maxHeartbeats 4000000 in
set_option maxRecDepth 100000 in
theorem c_X5_parse_b17 {z : CTX} {J : JS} (O : OK z cX5_parse RX5 2 STxt 7 (rm_ 2 42) (some .int)) : ∀ (fu : Nat) (x1 : Int32) (I : IS) (q : Int32 × IS), f_X5_parse_b17 fu x1 I = some q → G z 17 [(0, .ref (0)), (1, .int (x1))] [] I J (some (.int q.1), q.2, J) := by
  intro fu
  induction fu with
  | zero =>
    intro x1 I q hF
    cases hF
  | succ fu ih =>
    intro x1 I q hF
    rw [f_X5_parse_b17] at hF
    refine g_iload_n O (pc := 17) dX5_parse_17 1 rfl ?_
    refine g_aload_n O (pc := 18) dX5_parse_18 0 rfl ?_
    refine g_getI O (pc := 19) isC_X5 dX5_parse_19 fw_X5_15 (by decide) fd_STxt_0_1 ?_
    refine g_icmp_ge O (pc := 22) 46 dX5_parse_22 (by decide) (fun h1 => ?_) (fun h1 => ?_)
    · rw [if_pos h1] at hF
      refine g_aload_n O (pc := 46) dX5_parse_46 0 rfl ?_
      refine g_getI O (pc := 47) isC_X5 dX5_parse_47 fw_X5_40 (by decide) fd_STxt_0_9 ?_
      refine g_if_eq O (pc := 50) 60 dX5_parse_50 (by decide) (fun h2 => ?_) (fun h2 => ?_)
      · rw [if_pos h2] at hF
        refine g_sub [0] (L' := [(0, .ref (0))]) rfl ?_
        exact c_X5_parse_b60 O _ _ hF
      · rw [if_neg h2] at hF
        refine g_aload_n O (pc := 53) dX5_parse_53 0 rfl ?_
        refine g_getI O (pc := 54) isC_X5 dX5_parse_54 fw_X5_37 (by decide) fd_STxt_0_8 ?_
        refine g_if_le O (pc := 57) 67 dX5_parse_57 (by decide) (fun h3 => ?_) (fun h3 => ?_)
        · rw [if_pos h3] at hF
          refine g_bipush O (pc := 67) dX5_parse_67 bp_m5 ?_
          refine g_sub [] (L' := []) rfl ?_
          exact c_X5_parse_b69 O _ _ _ hF
        · rw [if_neg h3] at hF
          refine g_sub [0] (L' := [(0, .ref (0))]) rfl ?_
          exact c_X5_parse_b60 O _ _ hF
    · rw [if_neg h1] at hF
      refine g_aload_n O (pc := 25) dX5_parse_25 0 rfl ?_
      refine g_aload_n O (pc := 26) dX5_parse_26 0 rfl ?_
      refine g_getR O (pc := 27) isC_X5 dX5_parse_27 fw_X5_9 (by decide) fd_STxt_0_0 ?_
      refine g_iload_n O (pc := 30) dX5_parse_30 1 rfl ?_
      obtain ⟨h4, hF⟩ := gd hF
      refine g_il O (pc := 31) dX5_parse_31 ar_STxt_1 h4 ?_
      obtain ⟨q5, e6, hF⟩ := bnd hF
      refine g_Vi O (pc := 32) (st := []) dX5_parse_32 (mc_X5_goesOn J e6) cb_X5_goesOn ml_X5_43 isC_X5 ob_STxt (zm0 _ _ _ _ _ _ _) (rmok (Nat.le_of_ble_eq_true rfl) (Nat.le_of_ble_eq_true rfl)) (Nat.le_of_ble_eq_true rfl) rfl ?_
      refine g_if_ne O (pc := 35) 40 dX5_parse_35 (by decide) (fun h7 => ?_) (fun h7 => ?_)
      · rw [if_neg h7] at hF
        refine g_iinc O (pc := 40) (v := x1 + (1 : Int32)) (L' := [(1, .int (x1 + (1 : Int32))), (0, .ref (0))]) dX5_parse_40 1 rfl rfl (by decide) rfl ?_
        refine g_goto O (pc := 43) 17 dX5_parse_43 (by decide) ?_
        refine g_sub [1, 0] (L' := [(0, .ref (0)), (1, .int (x1 + (1 : Int32)))]) rfl ?_
        exact ih _ _ _ hF
      · rw [if_pos h7] at hF
        refine g_iload_n O (pc := 38) dX5_parse_38 1 rfl ?_
        obtain rfl := Option.some.inj hF
        exact g_ireturn O (pc := 39) dX5_parse_39 rfl

def f_X5_parse (I : IS) : Option (Int32 × IS) :=
  f_X5_parse_b17 LF ((0 : Int32)) ((u2 (u2 (u2 I (0) 5 ((0 : Int32))) (0) 8 ((0 : Int32))) (0) 9 ((0 : Int32))))
set_option maxHeartbeats 4000000 in
set_option maxRecDepth 100000 in
theorem c_X5_parse_e {z : CTX} {J : JS} (O : OK z cX5_parse RX5 2 STxt 7 (rm_ 2 42) (some .int)) : ∀ (I : IS) (q : Int32 × IS), f_X5_parse I = some q → G z 0 [(0, .ref (0))] [] I J (some (.int q.1), q.2, J) := by
  intro I q hF
  rw [f_X5_parse] at hF
  refine g_aload_n O (pc := 0) dX5_parse_0 0 rfl ?_
  refine g_iconst O (pc := 1) dX5_parse_1 (ic_0) ?_
  refine g_putI O (pc := 2) isC_X5 isT_X5 dX5_parse_2 fw_X5_28 (by decide) rfl rfl fd_STxt_0_5 ?_
  refine g_aload_n O (pc := 5) dX5_parse_5 0 rfl ?_
  refine g_iconst O (pc := 6) dX5_parse_6 (ic_0) ?_
  refine g_putI O (pc := 7) isC_X5 isT_X5 dX5_parse_7 fw_X5_37 (by decide) rfl rfl fd_STxt_0_8 ?_
  refine g_aload_n O (pc := 10) dX5_parse_10 0 rfl ?_
  refine g_iconst O (pc := 11) dX5_parse_11 (ic_0) ?_
  refine g_putI O (pc := 12) isC_X5 isT_X5 dX5_parse_12 fw_X5_40 (by decide) rfl rfl fd_STxt_0_9 ?_
  refine g_iconst O (pc := 15) dX5_parse_15 (ic_0) ?_
  refine g_istore_n O (pc := 16) (L' := [(1, .int ((0 : Int32))), (0, .ref (0))]) dX5_parse_16 (by decide) rfl ?_
  refine g_sub [1, 0] (L' := [(0, .ref (0)), (1, .int ((0 : Int32)))]) rfl ?_
  exact c_X5_parse_b17 O _ _ _ _ hF

theorem mc_X5_parse {I : IS} (J : JS) {q : Int32 × IS} (hF : f_X5_parse I = some q) : MC yX5_parse cX5_parse 2 (some .int) (rm_ 2 42) STxt 7 [.ref (0)] I J (some (.int q.1), q.2, J) :=
  mc_of pn_X5 (Nat.le_of_ble_eq_true rfl) (fun z O => c_X5_parse_e O _ _ hF)

