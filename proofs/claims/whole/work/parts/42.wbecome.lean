/-! ===== the World: one becomes another ===== -/
theorem arm_become_o {I q : IS} (h : f_X0_become I = some q) : ∀ j, 2 ≤ j → q j = I j := by
  unfold f_X0_become at h
  rw [if_pos (by decide), some_bind, some_bind] at h
  cases h
  intro j hj
  have h0 : j ≠ 0 := by omega
  have h1 : j ≠ 1 := by omega
  simp only [u2_oth _ _ _ h0, u1_o _ _ h1]
theorem ent_become_o {I q : IS} (h : f_X1_become I = some q) : ∀ j, 6 ≤ j → q j = I j := by
  have c : okC (0 : Int32) 0 40 40 40 = true := by decide
  unfold f_X1_become at h
  rw [if_pos c, some_bind, if_pos c, some_bind, if_pos c, some_bind, if_pos c, some_bind] at h
  cases h
  intro j hj
  have h0 : j ≠ 0 := by omega
  have h1 : j ≠ 1 := by omega
  have h2 : j ≠ 2 := by omega
  have h3 : j ≠ 3 := by omega
  have h4 : j ≠ 4 := by omega
  simp only [u2_oth _ _ _ h0, u1_o _ _ h1, u1_o _ _ h2, u1_o _ _ h3, u1_o _ _ h4]
theorem prs_become_o {n : Nat} {I q : IS} (h : f_X2_become n I = some q) : ∀ j, 3 ≤ j → q j = I j := by
  unfold f_X2_become at h
  intro j hj
  have h0 : j ≠ 0 := by omega
  have h1 : j ≠ 1 := by omega
  have h2 : j ≠ 2 := by omega
  generalize (if (Int32.ofNat n) < (I 3 2) then (Int32.ofNat n) else (I 3 2)) = m at h
  split at h
  · rw [some_bind] at h
    split at h
    · cases h
      simp only [u2_oth _ _ _ h0, u1_o _ _ h1, u1_o _ _ h2]
    · cases h
  · cases h
theorem tas_become {I : IS} {T : Nat} {tf : Nat → Nat → Int32} (h : RTa (zI 9 I) T tf) : ∃ q, f_X4_become I = some q ∧ RTa q T tf ∧ ∀ j, 9 ≤ j → q j = I j := by
  obtain ⟨h1, h2, h3⟩ := h
  have h1 : I 9 8 = nI T := h1
  have e0 : (0 : Int32).toNatClampNeg = 0 := rfl
  have ec : (nI T).toNatClampNeg = T := nI_clamp (by omega)
  have c : okC (0 : Int32) 0 (nI T) 32 32 = true := by
    unfold okC
    refine decide_eq_true ⟨by decide, by decide, nI_pos (by omega), ?_, ?_⟩ <;> rw [e0, ec] <;> omega
  have o8 : ∀ (X : IS) (i : Nat) (f : Nat → Int32), u1 X (i + 1) f 0 8 = X 0 8 := fun X i f => by rw [u1_o _ _ (by omega)]
  unfold f_X4_become
  simp only [h1, u2_eq, c, if_true, some_bind, o8]
  refine ⟨_, rfl, ⟨by simp only [o8, u2_eq], h2, fun f hf t ht => ?_⟩, fun j hj => ?_⟩
  · have h3' : I (9 + (f + 1)) t = tf f t := h3 f hf t ht
    rw [← h3']
    match f, hf with
    | 0, _ => simp [u2_ap, u1_ap, va_cpy, e0, ec, ht]
    | 1, _ => simp [u2_ap, u1_ap, va_cpy, e0, ec, ht]
    | 2, _ => simp [u2_ap, u1_ap, va_cpy, e0, ec, ht]
    | 3, _ => simp [u2_ap, u1_ap, va_cpy, e0, ec, ht]
    | 4, _ => simp [u2_ap, u1_ap, va_cpy, e0, ec, ht]
    | 5, _ => simp [u2_ap, u1_ap, va_cpy, e0, ec, ht]
    | 6, _ => simp [u2_ap, u1_ap, va_cpy, e0, ec, ht]
    | f + 7, hf => exact absurd hf (by omega)
  · have g : ∀ (X : IS) (i : Nat) (f : Nat → Int32), i ≤ 7 → u1 X i f j = X j := fun X i f hi => u1_o _ _ (by omega)
    rw [g _ _ _ (by omega), g _ _ _ (by omega), g _ _ _ (by omega), g _ _ _ (by omega), g _ _ _ (by omega), g _ _ _ (by omega), g _ _ _ (by omega), u2_oth _ _ _ (by omega)]
/-- what the other part has is left: two parts put back are one -/
theorem gI2_one {a n b n' : Nat} {q I : IS} (hd : a + n ≤ b) (hq : ∀ j, n ≤ j → q j = zI2 a n b I j) : gI2 a n b n' q I = gI a n q I := by
  funext j
  unfold gI2 gI
  by_cases h : a ≤ j ∧ j < a + n
  · rw [if_pos h, if_pos h]
  · rw [if_neg h, if_neg h]
    by_cases h2 : b ≤ j ∧ j < b + n'
    · rw [if_pos h2, hq _ (by omega)]
      unfold zI2 o2
      rw [if_neg (by omega)]
      congr 1
      omega
    · rw [if_neg h2]
theorem zI2_lo {a n b k : Nat} {I : IS} (h : k < n) : zI2 a n b I k = I (a + k) := by
  unfold zI2 o2
  rw [if_pos h]
theorem zI2_hi {a n b : Nat} {I : IS} (k : Nat) : zI n (zI2 a n b I) k = I (b + k) := by
  unfold zI zI2 o2
  rw [if_neg (by omega)]
  congr 1
  omega
theorem rwo_parts {X : IS} {s : SP} (q2 q4 q6 q8 q10 : IS) {y : List Int32} (hA : ∀ a, a < 4 → RAr (zI (gArm a) X) (rw_ s a) (af s 0 a) (af s 1 a) (af s 2 a)) (h2 : RTa q2 (nT s) (tf s)) (h4 : RTr q4 (tr_ s)) (h4' : RWa q4 y) (h6 : RPr 5 q6 (tol s).1) (h8 : RPr 10 q8 (tol s).2.1) (h10 : RPr 8 q10 (tol s).2.2) (e2 : ∀ k, k < 9 → X (10 + k) = q2 k) (e4 : ∀ k, k < 6 → X (19 + k) = q4 k) (e6 : ∀ k, k < 3 → X (25 + k) = q6 k) (e8 : ∀ k, k < 3 → X (28 + k) = q8 k) (e10 : ∀ k, k < 3 → X (31 + k) = q10 k) (f6 : X 0 6 = nI (na s)) (f7 : X 0 7 = sd s) (f8 : X 0 8 = rd s) : RWo X (wLg s y) :=
  ⟨hA, rta_congr h2 (fun k hk => e2 k hk), rtr_congr h4 (fun k hk => e4 k hk), rwa_congr h4' (fun k hk => e4 k hk), f6, f7, f8, rpr_congr h6 (fun k hk => e6 k hk), rpr_congr h8 (fun k hk => e8 k hk), rpr_congr h10 (fun k hk => e10 k hk)⟩
theorem wor_become {I : IS} {s s0 : SP} (h : RWo (zI 34 I) s) (h0 : RWo I s0) : ∃ q, f_X6_become I = some q ∧ RWo q (wLg s (lg s0)) ∧ ∀ j, 34 ≤ j → q j = I j := by
  have key := loop_inv (fun fu j (X : IS) => f_X6_become_b2 fu (nI j) X) 4 (fun j X => (∀ a, a < j → RAr (zI (gArm a) X) (rw_ s a) (af s 0 a) (af s 1 a) (af s 2 a)) ∧ (∀ a, j ≤ a → a < 4 → RAr (zI (gArm a) X) (rw_ s0 a) (af s0 0 a) (af s0 1 a) (af s0 2 a)) ∧ ∀ k, k < 2 ∨ 10 ≤ k → X k = I k) (fun q => RWo q (wLg s (lg s0)) ∧ ∀ j, 34 ≤ j → q j = I j) (fun fu X hX => by
    obtain ⟨hX1, -, hX2⟩ := hX
    have hT : RTa (zI 9 (zI2 10 9 44 X)) (nT s) (tf s) := rta_congr h.2.1 (fun k hk => by rw [zI2_hi, hX2 _ (Or.inr (by omega))]; show _ = I (34 + (10 + k)); congr 1; omega)
    obtain ⟨q2, a1, a2, a3⟩ := tas_become hT
    have g2 := gI2_one (b := 44) (n' := 9) (a := 10) (n := 9) (q := q2) (I := X) (by omega) a3
    have z1 : ∀ k, k < 10 ∨ 19 ≤ k → gI2 10 9 44 9 q2 X k = X k := fun k hk => by rw [g2, gI_out (by omega)]
    generalize hX3 : gI2 10 9 44 9 q2 X = X2 at z1 g2
    have hE : RTr (zI 6 (zI2 19 6 53 X2)) (tr_ s) := rtr_congr h.2.2.1 (fun k hk => by rw [zI2_hi, z1 _ (by omega), hX2 _ (Or.inr (by omega))]; show _ = I (34 + (19 + k)); congr 1; omega)
    have hW : RWa (zI2 19 6 53 X2) (lg s0) := rwa_congr h0.2.2.2.1 (fun k hk => by rw [zI2_lo hk, z1 _ (by omega), hX2 _ (Or.inr (by omega))]; rfl)
    obtain ⟨q4, b1, b2, b3⟩ := ent_become hE hW
    have g4 := gI2_one (b := 53) (n' := 6) (a := 19) (n := 6) (q := q4) (I := X2) (by omega) (ent_become_o b1)
    have z2 : ∀ k, k < 19 ∨ 25 ≤ k → gI2 19 6 53 6 q4 X2 k = X2 k := fun k hk => by rw [g4, gI_out (by omega)]
    generalize hX4 : gI2 19 6 53 6 q4 X2 = X4 at z2 g4
    have hP6 : RPr 5 (zI 3 (zI2 25 3 59 X4)) (tol s).1 := rpr_congr h.2.2.2.2.2.2.2.1 (fun k hk => by rw [zI2_hi, z2 _ (by omega), z1 _ (by omega), hX2 _ (Or.inr (by omega))]; show _ = I (34 + (25 + k)); congr 1; omega)
    obtain ⟨q6, c1, c2⟩ := prs_become (n := 5) (by omega) hP6
    have g6 := gI2_one (b := 59) (n' := 3) (a := 25) (n := 3) (q := q6) (I := X4) (by omega) (prs_become_o c1)
    have z3 : ∀ k, k < 25 ∨ 28 ≤ k → gI2 25 3 59 3 q6 X4 k = X4 k := fun k hk => by rw [g6, gI_out (by omega)]
    generalize hX6 : gI2 25 3 59 3 q6 X4 = X6 at z3 g6
    have hP8 : RPr 10 (zI 3 (zI2 28 3 62 X6)) (tol s).2.1 := rpr_congr h.2.2.2.2.2.2.2.2.1 (fun k hk => by rw [zI2_hi, z3 _ (by omega), z2 _ (by omega), z1 _ (by omega), hX2 _ (Or.inr (by omega))]; show _ = I (34 + (28 + k)); congr 1; omega)
    obtain ⟨q8, d1, d2⟩ := prs_become (n := 10) (by omega) hP8
    have g8 := gI2_one (b := 62) (n' := 3) (a := 28) (n := 3) (q := q8) (I := X6) (by omega) (prs_become_o d1)
    have z4 : ∀ k, k < 28 ∨ 31 ≤ k → gI2 28 3 62 3 q8 X6 k = X6 k := fun k hk => by rw [g8, gI_out (by omega)]
    generalize hX8 : gI2 28 3 62 3 q8 X6 = X8 at z4 g8
    have hP10 : RPr 8 (zI 3 (zI2 31 3 65 X8)) (tol s).2.2 := rpr_congr h.2.2.2.2.2.2.2.2.2 (fun k hk => by rw [zI2_hi, z4 _ (by omega), z3 _ (by omega), z2 _ (by omega), z1 _ (by omega), hX2 _ (Or.inr (by omega))]; show _ = I (34 + (31 + k)); congr 1; omega)
    obtain ⟨q10, p1, p2⟩ := prs_become (n := 8) (by omega) hP10
    have g10 := gI2_one (b := 65) (n' := 3) (a := 31) (n := 3) (q := q10) (I := X8) (by omega) (prs_become_o p1)
    have z5 : ∀ k, k < 31 ∨ 34 ≤ k → gI2 31 3 65 3 q10 X8 k = X8 k := fun k hk => by rw [g10, gI_out (by omega)]
    generalize hX10 : gI2 31 3 65 3 q10 X8 = X10 at z5 g10
    have zA : ∀ k, k < 10 ∨ 34 ≤ k → X10 k = X k := fun k hk => by rw [z5 k (by omega), z4 k (by omega), z3 k (by omega), z2 k (by omega), z1 k (by omega)]
    have z34 : X10 34 = I 34 := by rw [zA 34 (by omega), hX2 34 (Or.inr (by omega))]
    have c4 : (4 : Int32) ≤ nI 4 := by decide
    refine ⟨u2 (u2 (u2 X10 0 6 (X10 34 6)) 0 7 (X10 34 7)) 0 8 (X10 34 8), ?_, ?_, ?_⟩
    · show f_X6_become_b2 (fu + 1) (nI 4) X = _
      have y1 : ∀ v : Int32, u2 X10 0 6 v 34 7 = X10 34 7 := fun v => u2_ne _ _ (Or.inl (by omega))
      have y2 : ∀ v w : Int32, u2 (u2 X10 0 6 v) 0 7 w 34 8 = X10 34 8 := fun v w => by rw [u2_ne _ _ (Or.inl (by omega)), u2_ne _ _ (Or.inl (by omega))]
      rw [f_X6_become_b2, if_pos c4, a1, some_bind, hX3, b1, some_bind, hX4, c1, some_bind, hX6, d1, some_bind, hX8, p1, some_bind, hX10, some_bind, y1, y2, some_bind]
    · have i6 : X10 34 6 = nI (na s) := by rw [z34]; exact h.2.2.2.2.1
      have i7 : X10 34 7 = sd s := by rw [z34]; exact h.2.2.2.2.2.1
      have i8 : X10 34 8 = rd s := by rw [z34]; exact h.2.2.2.2.2.2.1
      have y0 : ∀ k, 1 ≤ k → u2 (u2 (u2 X10 0 6 (X10 34 6)) 0 7 (X10 34 7)) 0 8 (X10 34 8) k = X10 k := fun k hk => by rw [u2_oth _ _ _ (by omega), u2_oth _ _ _ (by omega), u2_oth _ _ _ (by omega)]
      refine rwo_parts q2 q4 q6 q8 q10 (fun a ha => rar_congr (hX1 a ha) (fun k hk => ?_)) a2 b2 b3 c2 d2 p2 (fun k hk => ?_) (fun k hk => ?_) (fun k hk => ?_) (fun k hk => ?_) (fun k hk => ?_) ?_ ?_ ?_
      · have := gArm_rng a
        show u2 (u2 (u2 X10 0 6 (X10 34 6)) 0 7 (X10 34 7)) 0 8 (X10 34 8) (gArm a + k) = X (gArm a + k)
        rw [y0 _ (by omega), zA _ (by omega)]
      · rw [y0 _ (by omega), z5 _ (by omega), z4 _ (by omega), z3 _ (by omega), z2 _ (by omega), g2, gI_in hk]
      · rw [y0 _ (by omega), z5 _ (by omega), z4 _ (by omega), z3 _ (by omega), g4, gI_in hk]
      · rw [y0 _ (by omega), z5 _ (by omega), z4 _ (by omega), g6, gI_in hk]
      · rw [y0 _ (by omega), z5 _ (by omega), g8, gI_in hk]
      · rw [y0 _ (by omega), g10, gI_in hk]
      · rw [u2_ne _ _ (Or.inr (by omega)), u2_ne _ _ (Or.inr (by omega)), u2_eq, i6]
      · rw [u2_ne _ _ (Or.inr (by omega)), u2_eq, i7]
      · rw [u2_eq, i8]
    · intro j hj
      rw [u2_oth _ _ _ (by omega), u2_oth _ _ _ (by omega), u2_oth _ _ _ (by omega), zA j (by omega), hX2 j (Or.inr (by omega))]) (fun fu j X hj hX => by
    obtain ⟨hX0, hX1, hX2⟩ := hX
    have c4 : ¬ (4 : Int32) ≤ nI j := nI_ge (b := 4) hj (by omega)
    have co : okI (nI j) 4 = true := okI_nI hj (by omega)
    have gj := gArm_eq hj
    have hr : RAr (zI 2 (zI2 (gArm j) 2 (34 + gArm j) X)) (rw_ s j) (af s 0 j) (af s 1 j) (af s 2 j) := rar_congr (h.1 j hj) (fun k hk => by rw [zI2_hi, hX2 _ (Or.inr (by omega))]; show _ = I (34 + (gArm j + k)); congr 1; omega)
    have hr0 : RAr (zI2 (gArm j) 2 (34 + gArm j) X) (rw_ s0 j) (af s0 0 j) (af s0 1 j) (af s0 2 j) := rar_congr (hX1 j (Nat.le_refl _) hj) (fun k hk => by rw [zI2_lo hk]; rfl)
    obtain ⟨q, e1, e2⟩ := arm_become hr hr0
    have g := gI2_one (b := 34 + gArm j) (n' := 2) (a := gArm j) (n := 2) (q := q) (I := X) (by omega) (arm_become_o e1)
    refine ⟨gI2 (gArm j) 2 (34 + gArm j) 2 q X, ⟨fun a ha => ?_, fun a h1 h2 => ?_, fun k hk => ?_⟩, ?_⟩
    · rw [g]
      by_cases haj : a = j
      · subst haj
        exact rar_congr e2 (fun k hk => gI_in hk)
      · refine rar_congr (hX0 a (by omega)) (fun k hk => ?_)
        have ga := gArm_eq (a := a) (by omega)
        exact gI_out (by omega)
    · rw [g]
      refine rar_congr (hX1 a (by omega) h2) (fun k hk => ?_)
      have ga := gArm_eq (a := a) (by omega)
      exact gI_out (by omega)
    · rw [g, gI_out (by omega)]
      exact hX2 k hk
    · show f_X6_become_b2 (fu + 1) (nI j) X = _
      rw [f_X6_become_b2, if_neg c4, if_pos co, if_pos co, nI_clamp (by omega), e1, some_bind, nI_1]) 4 0 LF I (by omega) (by unfold LF; omega) ⟨fun a ha => absurd ha (Nat.not_lt_zero a), fun a _ ha => h0.1 a ha, fun k _ => rfl⟩
  exact key
