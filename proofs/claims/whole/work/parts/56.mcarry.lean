/-! ===== the Model: all is taken, or given back ===== -/
theorem car_129 {tk : Bool} {A : Nat} {c : Int32} (hA : (A = 20 ∧ c = 1) ∨ (A = 21 ∧ c = 2)) {I J : IS} (h : CAR tk A c I 566 J) : ∃ q, f_X8_carryTold_b129 LF 0 J = some q ∧ CAR tk A c I 582 q := by
  have key := loop_inv (fun fu j (J : IS) => f_X8_carryTold_b129 fu (nI j) J) 8 (fun j J => CAR tk A c I (566 + 2 * j) J) (fun q => CAR tk A c I 582 q) (fun fu J hJ => by
    have hJ : CAR tk A c I 582 J := hJ
    refine ⟨J, ?_, hJ⟩
    show f_X8_carryTold_b129 (fu + 1) (nI 8) J = _
    rw [f_X8_carryTold_b129, if_pos (by decide)]) (fun fu j J hj hJ => by
    have c1 : ¬ (8 : Int32) ≤ nI j := nI_ge (b := 8) hj (by omega)
    have co : okI (nI j) 8 = true := okI_nI hj (by omega)
    obtain ⟨q0, e0, g0⟩ := car_step hA (p := 566 + 2 * j + 0) (i := 18) (b := j) (by omega) (slot_8 (f := 0) (by omega) hj) hJ
    obtain ⟨q1, e1, g1⟩ := car_step hA (p := 566 + 2 * j + 1) (i := 19) (b := j) (by omega) (slot_8 (f := 1) (by omega) hj) g0
    refine ⟨u2 q1.2 19 j q1.1, g1, ?_⟩
    show f_X8_carryTold_b129 (fu + 1) (nI j) J = _
    rw [f_X8_carryTold_b129, if_neg c1, if_pos co, nI_clamp (by omega), e0, some_bind, if_pos co, if_pos co, e1, some_bind, if_pos co, nI_1]) 8 0 LF J (by omega) (by unfold LF; omega) h
  exact key
theorem car_83 {tk : Bool} {A : Nat} {c : Int32} (hA : (A = 20 ∧ c = 1) ∨ (A = 21 ∧ c = 2)) {I J : IS} (h : CAR tk A c I 546 J) : ∃ q, f_X8_carryTold_b83 LF 0 J = some q ∧ CAR tk A c I 582 q := by
  have key := loop_inv (fun fu j (J : IS) => f_X8_carryTold_b83 fu (nI j) J) 10 (fun j J => CAR tk A c I (546 + 2 * j) J) (fun q => CAR tk A c I 582 q) (fun fu J hJ => by
    have hJ : CAR tk A c I 566 J := hJ
    obtain ⟨q, q1, q2⟩ := car_129 hA hJ
    refine ⟨q, ?_, q2⟩
    show f_X8_carryTold_b83 (fu + 1) (nI 10) J = _
    rw [f_X8_carryTold_b83, if_pos (by decide), q1]) (fun fu j J hj hJ => by
    have c1 : ¬ (10 : Int32) ≤ nI j := nI_ge (b := 10) hj (by omega)
    have co : okI (nI j) 10 = true := okI_nI hj (by omega)
    obtain ⟨q0, e0, g0⟩ := car_step hA (p := 546 + 2 * j + 0) (i := 16) (b := j) (by omega) (slot_10 (f := 0) (by omega) hj) hJ
    obtain ⟨q1, e1, g1⟩ := car_step hA (p := 546 + 2 * j + 1) (i := 17) (b := j) (by omega) (slot_10 (f := 1) (by omega) hj) g0
    refine ⟨u2 q1.2 17 j q1.1, g1, ?_⟩
    show f_X8_carryTold_b83 (fu + 1) (nI j) J = _
    rw [f_X8_carryTold_b83, if_neg c1, if_pos co, nI_clamp (by omega), e0, some_bind, if_pos co, if_pos co, e1, some_bind, if_pos co, nI_1]) 10 0 LF J (by omega) (by unfold LF; omega) h
  exact key
theorem car_38 {tk : Bool} {A : Nat} {c : Int32} (hA : (A = 20 ∧ c = 1) ∨ (A = 21 ∧ c = 2)) {I J : IS} (h : CAR tk A c I 536 J) : ∃ q, f_X8_carryTold_b38 LF 0 J = some q ∧ CAR tk A c I 582 q := by
  have key := loop_inv (fun fu j (J : IS) => f_X8_carryTold_b38 fu (nI j) J) 5 (fun j J => CAR tk A c I (536 + 2 * j) J) (fun q => CAR tk A c I 582 q) (fun fu J hJ => by
    have hJ : CAR tk A c I 546 J := hJ
    obtain ⟨q, q1, q2⟩ := car_83 hA hJ
    refine ⟨q, ?_, q2⟩
    show f_X8_carryTold_b38 (fu + 1) (nI 5) J = _
    rw [f_X8_carryTold_b38, if_pos (by decide), q1]) (fun fu j J hj hJ => by
    have c1 : ¬ (5 : Int32) ≤ nI j := nI_ge (b := 5) hj (by omega)
    have co : okI (nI j) 5 = true := okI_nI hj (by omega)
    obtain ⟨q0, e0, g0⟩ := car_step hA (p := 536 + 2 * j + 0) (i := 14) (b := j) (by omega) (slot_5 (f := 0) (by omega) hj) hJ
    obtain ⟨q1, e1, g1⟩ := car_step hA (p := 536 + 2 * j + 1) (i := 15) (b := j) (by omega) (slot_5 (f := 1) (by omega) hj) g0
    refine ⟨u2 q1.2 15 j q1.1, g1, ?_⟩
    show f_X8_carryTold_b38 (fu + 1) (nI j) J = _
    rw [f_X8_carryTold_b38, if_neg c1, if_pos co, nI_clamp (by omega), e0, some_bind, if_pos co, if_pos co, e1, some_bind, if_pos co, nI_1]) 5 0 LF J (by omega) (by unfold LF; omega) h
  exact key
theorem car_told {tk : Bool} {A : Nat} {c : Int32} (hA : (A = 20 ∧ c = 1) ∨ (A = 21 ∧ c = 2)) {I J : IS} (h : CAR tk A c I 533 J) : ∃ q, f_X8_carryTold J = some q ∧ CAR tk A c I 582 q := by
  obtain ⟨q0, e0, g0⟩ := car_step hA (p := 533) (i := 0) (b := 18) (by omega) rfl h
  obtain ⟨q1, e1, g1⟩ := car_step hA (p := 534) (i := 0) (b := 21) (by omega) rfl g0
  obtain ⟨q2, e2, g2⟩ := car_step hA (p := 535) (i := 0) (b := 24) (by omega) rfl g1
  obtain ⟨q, f1, f2⟩ := car_38 hA g2
  refine ⟨q, ?_, f2⟩
  rw [f_X8_carryTold, e0, some_bind, e1, some_bind, e2, some_bind, f1]
theorem car_311 {tk : Bool} {A : Nat} {c : Int32} (hA : (A = 20 ∧ c = 1) ∨ (A = 21 ∧ c = 2)) {I J : IS} (h : CAR tk A c I 373 J) : ∃ q, f_X8_carryAll_b311 LF 0 J = some q ∧ CAR tk A c I 582 q := by
  have key := loop_inv (fun fu j (J : IS) => f_X8_carryAll_b311 fu (nI j) J) 160 (fun j J => CAR tk A c I (373 + 1 * j) J) (fun q => CAR tk A c I 582 q) (fun fu J hJ => by
    have hJ : CAR tk A c I 533 J := hJ
    obtain ⟨q, q1, q2⟩ := car_told hA hJ
    refine ⟨q, ?_, q2⟩
    show f_X8_carryAll_b311 (fu + 1) (nI 160) J = _
    rw [f_X8_carryAll_b311, if_pos (by decide), q1, some_bind]) (fun fu j J hj hJ => by
    have c1 : ¬ (160 : Int32) ≤ nI j := nI_ge (b := 160) hj (by omega)
    have co : okI (nI j) 160 = true := okI_nI hj (by omega)
    obtain ⟨q0, e0, g0⟩ := car_step hA (p := 373 + 1 * j + 0) (i := 13) (b := j) (by omega) (by rw [Nat.one_mul]; exact slot_t hj) hJ
    refine ⟨u2 q0.2 13 j q0.1, g0, ?_⟩
    show f_X8_carryAll_b311 (fu + 1) (nI j) J = _
    rw [f_X8_carryAll_b311, if_neg c1, if_pos co, nI_clamp (by omega), e0, some_bind, if_pos co, nI_1]) 160 0 LF J (by omega) (by unfold LF; omega) h
  exact key
theorem car_185 {tk : Bool} {A : Nat} {c : Int32} (hA : (A = 20 ∧ c = 1) ∨ (A = 21 ∧ c = 2)) {I J : IS} (h : CAR tk A c I 149 J) : ∃ q, f_X8_carryAll_b185 LF 0 J = some q ∧ CAR tk A c I 582 q := by
  have key := loop_inv (fun fu j (J : IS) => f_X8_carryAll_b185 fu (nI j) J) 32 (fun j J => CAR tk A c I (149 + 7 * j) J) (fun q => CAR tk A c I 582 q) (fun fu J hJ => by
    have hJ : CAR tk A c I 373 J := hJ
    obtain ⟨q, q1, q2⟩ := car_311 hA hJ
    refine ⟨q, ?_, q2⟩
    show f_X8_carryAll_b185 (fu + 1) (nI 32) J = _
    rw [f_X8_carryAll_b185, if_pos (by decide), q1]) (fun fu j J hj hJ => by
    have c1 : ¬ (32 : Int32) ≤ nI j := nI_ge (b := 32) hj (by omega)
    have co : okI (nI j) 32 = true := okI_nI hj (by omega)
    obtain ⟨q0, e0, g0⟩ := car_step hA (p := 149 + 7 * j + 0) (i := 6) (b := j) (by omega) (slot_f (f := 0) (by omega) hj) hJ
    obtain ⟨q1, e1, g1⟩ := car_step hA (p := 149 + 7 * j + 1) (i := 7) (b := j) (by omega) (slot_f (f := 1) (by omega) hj) g0
    obtain ⟨q2, e2, g2⟩ := car_step hA (p := 149 + 7 * j + 2) (i := 8) (b := j) (by omega) (slot_f (f := 2) (by omega) hj) g1
    obtain ⟨q3, e3, g3⟩ := car_step hA (p := 149 + 7 * j + 3) (i := 9) (b := j) (by omega) (slot_f (f := 3) (by omega) hj) g2
    obtain ⟨q4, e4, g4⟩ := car_step hA (p := 149 + 7 * j + 4) (i := 10) (b := j) (by omega) (slot_f (f := 4) (by omega) hj) g3
    obtain ⟨q5, e5, g5⟩ := car_step hA (p := 149 + 7 * j + 5) (i := 11) (b := j) (by omega) (slot_f (f := 5) (by omega) hj) g4
    obtain ⟨q6, e6, g6⟩ := car_step hA (p := 149 + 7 * j + 6) (i := 12) (b := j) (by omega) (slot_f (f := 6) (by omega) hj) g5
    refine ⟨u2 q6.2 12 j q6.1, g6, ?_⟩
    show f_X8_carryAll_b185 (fu + 1) (nI j) J = _
    rw [f_X8_carryAll_b185, if_neg c1, if_pos co, nI_clamp (by omega), e0, some_bind, if_pos co, if_pos co, e1, some_bind, if_pos co, if_pos co, e2, some_bind, if_pos co, if_pos co, e3, some_bind, if_pos co, if_pos co, e4, some_bind, if_pos co, if_pos co, e5, some_bind, if_pos co, if_pos co, e6, some_bind, if_pos co, nI_1]) 32 0 LF J (by omega) (by unfold LF; omega) h
  exact key
theorem car_154 {tk : Bool} {A : Nat} {c : Int32} (hA : (A = 20 ∧ c = 1) ∨ (A = 21 ∧ c = 2)) {I J : IS} (h : CAR tk A c I 21 J) : ∃ q, f_X8_carryAll_b154 LF 0 J = some q ∧ CAR tk A c I 582 q := by
  have key := loop_inv (fun fu j (J : IS) => f_X8_carryAll_b154 fu (nI j) J) 128 (fun j J => CAR tk A c I (21 + 1 * j) J) (fun q => CAR tk A c I 582 q) (fun fu J hJ => by
    have hJ : CAR tk A c I 149 J := hJ
    obtain ⟨q, q1, q2⟩ := car_185 hA hJ
    refine ⟨q, ?_, q2⟩
    show f_X8_carryAll_b154 (fu + 1) (nI 128) J = _
    rw [f_X8_carryAll_b154, if_pos (by decide), q1]) (fun fu j J hj hJ => by
    have c1 : ¬ (128 : Int32) ≤ nI j := nI_ge (b := 128) hj (by omega)
    have co : okI (nI j) 128 = true := okI_nI hj (by omega)
    obtain ⟨q0, e0, g0⟩ := car_step hA (p := 21 + 1 * j + 0) (i := 2) (b := j) (by omega) (by rw [Nat.one_mul]; exact slot_r hj) hJ
    refine ⟨u2 q0.2 2 j q0.1, g0, ?_⟩
    show f_X8_carryAll_b154 (fu + 1) (nI j) J = _
    rw [f_X8_carryAll_b154, if_neg c1, if_pos co, nI_clamp (by omega), e0, some_bind, if_pos co, nI_1]) 128 0 LF J (by omega) (by unfold LF; omega) h
  exact key
theorem car_77 {tk : Bool} {A : Nat} {c : Int32} (hA : (A = 20 ∧ c = 1) ∨ (A = 21 ∧ c = 2)) {I J : IS} (h : CAR tk A c I 5 J) : ∃ q, f_X8_carryAll_b77 LF 0 J = some q ∧ CAR tk A c I 582 q := by
  have key := loop_inv (fun fu j (J : IS) => f_X8_carryAll_b77 fu (nI j) J) 4 (fun j J => CAR tk A c I (5 + 4 * j) J) (fun q => CAR tk A c I 582 q) (fun fu J hJ => by
    have hJ : CAR tk A c I 21 J := hJ
    obtain ⟨q, q1, q2⟩ := car_154 hA hJ
    refine ⟨q, ?_, q2⟩
    show f_X8_carryAll_b77 (fu + 1) (nI 4) J = _
    rw [f_X8_carryAll_b77, if_pos (by decide), q1]) (fun fu j J hj hJ => by
    have c1 : ¬ (4 : Int32) ≤ nI j := nI_ge (b := 4) hj (by omega)
    have co : okI (nI j) 4 = true := okI_nI hj (by omega)
    obtain ⟨q0, e0, g0⟩ := car_step hA (p := 5 + 4 * j + 0) (i := 1) (b := j) (by omega) (slot_a (f := 0) (by omega) hj) hJ
    obtain ⟨q1, e1, g1⟩ := car_step hA (p := 5 + 4 * j + 1) (i := 3) (b := j) (by omega) (slot_a (f := 1) (by omega) hj) g0
    obtain ⟨q2, e2, g2⟩ := car_step hA (p := 5 + 4 * j + 2) (i := 4) (b := j) (by omega) (slot_a (f := 2) (by omega) hj) g1
    obtain ⟨q3, e3, g3⟩ := car_step hA (p := 5 + 4 * j + 3) (i := 5) (b := j) (by omega) (slot_a (f := 3) (by omega) hj) g2
    refine ⟨u2 q3.2 5 j q3.1, g3, ?_⟩
    show f_X8_carryAll_b77 (fu + 1) (nI j) J = _
    rw [f_X8_carryAll_b77, if_neg c1, if_pos co, nI_clamp (by omega), e0, some_bind, if_pos co, if_pos co, e1, some_bind, if_pos co, if_pos co, e2, some_bind, if_pos co, if_pos co, e3, some_bind, if_pos co, nI_1]) 4 0 LF J (by omega) (by unfold LF; omega) h
  exact key
theorem car_all {tk : Bool} {A : Nat} {c : Int32} (hA : (A = 20 ∧ c = 1) ∨ (A = 21 ∧ c = 2)) (I : IS) : ∃ q, f_X8_carryAll A (if tk = true then 1 else 0) I = some q ∧ CAR tk A c I 582 q := by
  have hc : cdR A 20 21 = some c := by
    rcases hA with ⟨rfl, rfl⟩ | ⟨rfl, rfl⟩ <;> rfl
  have hA1 : A = 20 ∨ A = 21 := hA.elim (fun q => Or.inl q.1) (fun q => Or.inr q.1)
  have cz : okZ (if tk = true then (1 : Int32) else 0) = true := by cases tk <;> rfl
  have h0 : CAR tk A c I 0 (u2 (u2 (u2 I 0 35 c) 0 34 (if tk = true then 1 else 0)) 0 33 0) := by
    have o : ∀ i, i ≠ 0 → u2 (u2 (u2 I 0 35 c) 0 34 (if tk = true then 1 else 0)) 0 33 0 i = I i := fun i hi => by rw [u2_oth _ _ _ hi, u2_oth _ _ _ hi, u2_oth _ _ _ hi]
    have o0 : ∀ b, b ≠ 33 → b ≠ 34 → b ≠ 35 → u2 (u2 (u2 I 0 35 c) 0 34 (if tk = true then 1 else 0)) 0 33 0 0 b = I 0 b := fun b h1 h2 h3 => by rw [u2_ne _ _ (Or.inr h1), u2_ne _ _ (Or.inr h2), u2_ne _ _ (Or.inr h3)]
    have oc : ∀ i b, i ≤ 19 → (i = 0 → b ≤ 24) → u2 (u2 (u2 I 0 35 c) 0 34 (if tk = true then 1 else 0)) 0 33 0 i b = I i b := fun i b hi hb => by
      by_cases h : i = 0
      · have := hb h
        rw [h, o0 b (by omega) (by omega) (by omega)]
      · rw [o i h]
    refine ⟨u2_eq _ _ _ _, by rw [u2_ne _ _ (Or.inr (by omega)), u2_eq], by rw [u2_ne _ _ (Or.inr (by omega)), u2_ne _ _ (Or.inr (by omega)), u2_eq], fun i hi _ _ => o i hi, fun b _ h1 h2 h3 => o0 b h1 h2 h3, fun _ => ⟨fun q hq => absurd hq (Nat.not_lt_zero q), oc⟩, fun _ => ⟨o A (by omega), fun q hq => absurd hq (Nat.not_lt_zero q), fun i b hi hb _ => oc i b hi hb⟩⟩
  obtain ⟨q0, e0, g0⟩ := car_step hA (p := 0) (i := 0) (b := 0) (by omega) rfl h0
  obtain ⟨q1, e1, g1⟩ := car_step hA (p := 1) (i := 0) (b := 6) (by omega) rfl g0
  obtain ⟨q2, e2, g2⟩ := car_step hA (p := 2) (i := 0) (b := 14) (by omega) rfl g1
  obtain ⟨q3, e3, g3⟩ := car_step hA (p := 3) (i := 0) (b := 15) (by omega) rfl g2
  obtain ⟨q4, e4, g4⟩ := car_step hA (p := 4) (i := 0) (b := 16) (by omega) rfl g3
  obtain ⟨q, f1, f2⟩ := car_77 hA g4
  refine ⟨q, ?_, f2⟩
  rw [f_X8_carryAll, hc, some_bind, if_pos cz, e0, some_bind, e1, some_bind, e2, some_bind, e3, some_bind, e4, some_bind, f1]
