/-! ===== Arm: length, task, idle, stole at 0 1, 0 2, 0 3, 0 4; the row at 1 ===== -/
def RAr (I : IS) (l : List Int32) (w i s : Int32) : Prop := isRow (I 1) (I 0 1) l ∧ I 0 2 = w ∧ I 0 3 = i ∧ I 0 4 = s
theorem arm_clear {I : IS} {l : List Int32} {w i s : Int32} (_ : RAr I l w i s) : ∃ q, f_X0_clear I = some q ∧ RAr q [] (-5) 0 0 := by
  refine ⟨_, rfl, ⟨by simp [u2_ap]; rfl, by simp, fun k hk => absurd hk (Nat.not_lt_zero k)⟩, ?_, ?_, ?_⟩ <;> simp [u2_ap]
theorem arm_put {I : IS} {l : List Int32} {w i s : Int32} (h : RAr I l w i s) (hl : l.length < 32) (x : Int32) : ∃ q, f_X0_put x I = some q ∧ RAr q (l ++ [x]) w i s := by
  obtain ⟨⟨h1, h2, h3⟩, hw, hi, hs⟩ := h
  unfold f_X0_put
  rw [h1, if_neg (by rw [show (32 : Int32) = nI 32 from rfl, nI_leI (by omega) (by omega)]; omega), if_pos (okI_nI hl (by omega)), some_bind, nI_clamp (by omega)]
  refine ⟨_, rfl, ⟨?_, by simp; omega, fun k hk => ?_⟩, ?_, ?_, ?_⟩
  · simp only [u2_ap, List.length_append, List.length_singleton]
    simp [h1, nI_1]
  · simp only [List.length_append, List.length_singleton] at hk
    by_cases hk2 : k < l.length
    · rw [List.getElem?_append_left hk2, h3 k hk2]
      have : ¬ k = l.length := by omega
      simp [u2_ap, this]
    · have : k = l.length := by omega
      subst this
      simp [u2_ap]
  · simp [u2_ap, hw]
  · simp [u2_ap, hi]
  · simp [u2_ap, hs]
theorem arm_taskAt {I : IS} {l : List Int32} {w i s : Int32} (h : RAr I l w i s) (x : Int32) : f_X0_taskAt x I = some (if x < 0 then -5 else (l[x.toNatClampNeg]?).getD (-5)) := by
  obtain ⟨⟨h1, h2, h3⟩, hw, hi, hs⟩ := h
  unfold f_X0_taskAt f_X0_taskAt_b21 f_X0_taskAt_b23
  by_cases hx : x < 0
  · rw [if_pos hx, if_pos hx]
  · rw [if_neg hx, if_neg hx]
    obtain ⟨j, hj, rfl⟩ := nI_of hx
    rw [h1, nI_clamp hj]
    by_cases hjl : l.length ≤ j
    · rw [if_pos ((nI_leI (by omega) hj).mpr hjl), List.getElem?_eq_none hjl]
      rfl
    · rw [if_neg (fun q => hjl ((nI_leI (by omega) hj).mp q)), if_pos (okI_nI (by omega) (by omega)), h3 j (by omega)]
      rfl
theorem arm_holds {I : IS} {l : List Int32} {w i s : Int32} (h : RAr I l w i s) (x : Int32) : f_X0_holds x I = some (if x ∈ l then 1 else 0) := by
  obtain ⟨⟨h1, h2, h3⟩, hw, hi, hs⟩ := h
  unfold f_X0_holds
  have key := loop_ret (fun fu j (_ : Unit) => f_X0_holds_b2 fu x (nI j) I) l.length (fun j _ => ∀ k, k < j → l[k]? ≠ some x) (fun r => r = if x ∈ l then (1 : Int32) else 0) (fun fu _ hP => by
    refine ⟨_, by show f_X0_holds_b2 (fu + 1) x (nI l.length) I = _; rw [f_X0_holds_b2, h1, if_pos ((nI_leI (by omega) (by omega)).mpr (Nat.le_refl _))], ?_⟩
    rw [if_neg]
    intro hm
    obtain ⟨k, hk⟩ := List.getElem?_of_mem hm
    exact hP k (List.getElem?_eq_some_iff.mp hk).1 hk) (fun fu j _ hj hP => by
    have e0 : f_X0_holds_b2 (fu + 1) x (nI j) I = if I 1 j = x then some 1 else f_X0_holds_b2 fu x (nI (j + 1)) I := by
      rw [f_X0_holds_b2, h1, if_neg (fun q => absurd ((nI_leI (by omega) (by omega)).mp q) (by omega)), if_pos (okI_nI (by omega) (by omega)), nI_clamp (by omega), nI_1]
    by_cases hjx : I 1 j = x
    · left
      refine ⟨1, by show f_X0_holds_b2 (fu + 1) x (nI j) I = _; rw [e0, if_pos hjx], ?_⟩
      rw [if_pos]
      rw [← hjx]
      exact List.mem_of_getElem? (h3 j hj)
    · right
      refine ⟨(), fun k hk => ?_, by show f_X0_holds_b2 (fu + 1) x (nI j) I = _; rw [e0, if_neg hjx]⟩
      by_cases hkj : k < j
      · exact hP k hkj
      · have : k = j := by omega
        subst this
        rw [h3 k hj]
        exact fun q => hjx (Option.some.inj q)) l.length 0 LF () (by omega) (by unfold LF; omega) (fun k hk => absurd hk (Nat.not_lt_zero k))
  obtain ⟨r, h4, h5⟩ := key
  have h4 : f_X0_holds_b2 LF x (nI 0) I = some r := h4
  have h4 : f_X0_holds_b2 LF x 0 I = some r := h4
  rw [h4, h5]
theorem arm_drop {I : IS} {l : List Int32} {w i s : Int32} (h : RAr I l w i s) (x : Int32) : ∃ q, f_X0_drop x I = some q ∧ RAr q (l.filter (fun y => y != x)) (if w = x then -5 else w) i s := by
  have key : ∀ (I : IS) (w : Int32), RAr I l w i s → ∃ q, f_X0_drop_b14 x I = some q ∧ RAr q (l.filter (fun y => y != x)) w i s := by
    intro I w h
    unfold f_X0_drop_b14
    have hl0 := h.1.2.1
    have e1 := h.1.1
    have kk := loop_inv (fun fu j (q : Int32 × IS) => f_X0_drop_b18 fu x q.1 (nI j) q.2) l.length (fun j q => q.1 = nI ((l.take j).filter (fun y => y != x)).length ∧ q.2 0 1 = nI l.length ∧ (∀ k, k < ((l.take j).filter (fun y => y != x)).length → ((l.take j).filter (fun y => y != x))[k]? = some (q.2 1 k)) ∧ (∀ k, j ≤ k → k < l.length → l[k]? = some (q.2 1 k)) ∧ q.2 0 2 = w ∧ q.2 0 3 = i ∧ q.2 0 4 = s)
      (fun r => RAr r (l.filter (fun y => y != x)) w i s) ?_ ?_ l.length 0 LF (0, I) (by omega) (by unfold LF; omega) ⟨rfl, e1, fun k hk => absurd hk (Nat.not_lt_zero k), fun k _ hk => h.1.2.2 k hk, h.2.1, h.2.2.1, h.2.2.2⟩
    · obtain ⟨r, h4, h5⟩ := kk
      exact ⟨r, h4, h5⟩
    · rintro fu ⟨to, J⟩ ⟨g1, g2, g3, g4, g5, g6, g7⟩
      refine ⟨u2 J 0 1 to, ?_, ?_⟩
      · show f_X0_drop_b18 (fu + 1) x to (nI l.length) J = _
        have g2 : J 0 1 = nI l.length := g2
        rw [f_X0_drop_b18, g2, if_pos ((nI_leI (by omega) (by omega)).mpr (Nat.le_refl _))]
      · rw [List.take_length] at g1 g3
        have hle := List.length_filter_le (fun y => y != x) l
        refine ⟨⟨?_, by omega, fun k hk => ?_⟩, ?_, ?_, ?_⟩
        · simp only [u2_ap]
          simpa using g1
        · rw [g3 k hk]
          simp [u2_ap]
        · simpa [u2_ap] using g5
        · simpa [u2_ap] using g6
        · simpa [u2_ap] using g7
    · rintro fu j ⟨to, J⟩ hj ⟨g1, g2, g3, g4, g5, g6, g7⟩
      have g1 : to = nI ((l.take j).filter (fun y => y != x)).length := g1
      have g2 : J 0 1 = nI l.length := g2
      have hlen : ((l.take j).filter (fun y => y != x)).length ≤ j := Nat.le_trans (List.length_filter_le _ _) (by rw [List.length_take]; omega)
      have hjx : l[j]? = some (J 1 j) := g4 j (Nat.le_refl _) hj
      have htk : l.take (j + 1) = l.take j ++ [J 1 j] := by
        rw [List.take_succ, hjx]
        rfl
      have e0 : f_X0_drop_b18 (fu + 1) x to (nI j) J = if J 1 j = x then f_X0_drop_b18 fu x to (nI (j + 1)) J else f_X0_drop_b18 fu x (to + 1) (nI (j + 1)) (u2 J 1 to.toNatClampNeg (J 1 j)) := by
        have c1 : ¬ nI l.length ≤ nI j := fun q => absurd ((nI_leI (by omega) (by omega)).mp q) (by omega)
        have c2 : okI (nI j) 32 = true := okI_nI (by omega) (by omega)
        have c3 : okI to 32 = true := by rw [g1]; exact okI_nI (by omega) (by omega)
        by_cases hx : J 1 j = x
        · rw [f_X0_drop_b18, g2, if_neg c1, if_pos c2, nI_clamp (by omega), if_pos hx, if_pos hx, f_X0_drop_b51, nI_1]
        · rw [f_X0_drop_b18, g2, if_neg c1, if_pos c2, nI_clamp (by omega), if_neg hx, if_pos c2, if_pos c3, if_neg hx, f_X0_drop_b51, nI_1]
      by_cases hx : J 1 j = x
      · refine ⟨(to, J), ⟨?_, g2, ?_, fun k hk => g4 k (by omega), g5, g6, g7⟩, ?_⟩
        · show to = _
          rw [g1, htk, List.filter_append]
          simp [hx]
        · rw [htk, List.filter_append]
          simpa [hx] using g3
        · show f_X0_drop_b18 (fu + 1) x to (nI j) J = f_X0_drop_b18 fu x to (nI (j + 1)) J
          rw [e0, if_pos hx]
      · have hf : (l.take (j + 1)).filter (fun y => y != x) = (l.take j).filter (fun y => y != x) ++ [J 1 j] := by
          rw [htk, List.filter_append]
          simp [hx]
        refine ⟨(to + 1, u2 J 1 to.toNatClampNeg (J 1 j)), ⟨?_, ?_, ?_, ?_, ?_, ?_, ?_⟩, ?_⟩
        · show to + 1 = _
          rw [g1, hf, List.length_append, nI_1]
          rfl
        · show u2 J 1 to.toNatClampNeg (J 1 j) 0 1 = _
          simpa [u2_ap] using g2
        · intro k hk
          rw [hf] at hk ⊢
          rw [List.length_append, List.length_singleton] at hk
          show _ = some (u2 J 1 to.toNatClampNeg (J 1 j) 1 k)
          have hto : to.toNatClampNeg = ((l.take j).filter (fun y => y != x)).length := by rw [g1, nI_clamp (by omega)]
          by_cases hk2 : k < ((l.take j).filter (fun y => y != x)).length
          · rw [List.getElem?_append_left hk2, g3 k hk2, u2_ne _ _ (Or.inr (by omega))]
          · have : k = ((l.take j).filter (fun y => y != x)).length := by omega
            subst this
            rw [hto, u2_eq]
            simp
        · intro k h1 h2
          show _ = some (u2 J 1 to.toNatClampNeg (J 1 j) 1 k)
          have hto : to.toNatClampNeg = ((l.take j).filter (fun y => y != x)).length := by rw [g1, nI_clamp (by omega)]
          rw [u2_ne _ _ (Or.inr (by omega))]
          exact g4 k (by omega) h2
        · show u2 J 1 to.toNatClampNeg (J 1 j) 0 2 = _
          simpa [u2_ap] using g5
        · show u2 J 1 to.toNatClampNeg (J 1 j) 0 3 = _
          simpa [u2_ap] using g6
        · show u2 J 1 to.toNatClampNeg (J 1 j) 0 4 = _
          simpa [u2_ap] using g7
        · show f_X0_drop_b18 (fu + 1) x to (nI j) J = f_X0_drop_b18 fu x (to + 1) (nI (j + 1)) (u2 J 1 to.toNatClampNeg (J 1 j))
          rw [e0, if_neg hx]
  unfold f_X0_drop
  by_cases hw : I 0 2 = x
  · rw [if_pos hw]
    have hw2 : w = x := h.2.1.symm.trans hw
    rw [if_pos hw2]
    refine key _ _ ⟨?_, by simp [u2_ap], by simpa [u2_ap] using h.2.2.1, by simpa [u2_ap] using h.2.2.2⟩
    refine ⟨by simpa [u2_ap] using h.1.1, h.1.2.1, fun k hk => ?_⟩
    rw [h.1.2.2 k hk]
    simp [u2_ap]
  · rw [if_neg hw]
    have hw2 : ¬ w = x := fun q => hw (h.2.1.trans q)
    rw [if_neg hw2]
    exact key _ _ h
theorem arm_takeNear {I : IS} {l : List Int32} {w i s : Int32} (h : RAr I l w i s) (hne : ∀ y ∈ l, y ≠ -5) : ∃ q, f_X0_takeNear I = some (l.getLast?.getD (-5), q) ∧ RAr q l.dropLast w i s := by
  have hl := h.1.2.1
  unfold f_X0_takeNear
  rw [arm_taskAt h, some_bind]
  rcases List.eq_nil_or_concat l with rfl | ⟨l', y, rfl⟩
  · have e0 : (I 0 1 - 1 : Int32) < 0 := by
      rw [h.1.1]
      decide
    rw [if_pos e0, if_pos rfl, f_X0_takeNear_b27]
    exact ⟨_, rfl, h⟩
  · rw [List.concat_eq_append] at *
    have e1 : I 0 1 - 1 = nI l'.length := by
      rw [h.1.1, List.length_append]
      exact nI_pred _
    have hy : y ≠ -5 := hne y (by simp)
    have hl' : l'.length < 32 := by simp at hl; omega
    rw [e1, if_neg (nI_pos (by omega)), nI_clamp (by omega)]
    have e2 : ((l' ++ [y])[l'.length]?).getD (-5) = y := by simp
    rw [e2, if_neg hy, f_X0_takeNear_b27]
    refine ⟨_, by simp; rfl, ⟨by simp [u2_ap], by simp; omega, fun k hk => ?_⟩, ?_, ?_, ?_⟩
    · rw [List.dropLast_concat] at hk ⊢
      have h3 := h.1.2.2 k (by simp; omega)
      rw [List.getElem?_append_left hk] at h3
      rw [h3]
      simp [u2_ap]
    · simpa [u2_ap] using h.2.1
    · simpa [u2_ap] using h.2.2.1
    · simpa [u2_ap] using h.2.2.2
theorem arm_takeFar {I : IS} {l : List Int32} {w i s : Int32} {x : Int32} (h : RAr I (x :: l) w i s) (hne : x ≠ -5) : ∃ q, f_X0_takeFar I = some (x, q) ∧ RAr q ((x :: l).filter (fun y => y != x)) (if w = x then -5 else w) i s := by
  unfold f_X0_takeFar
  obtain ⟨q, h1, h2⟩ := arm_drop h x
  have e0 : ¬ (0 : Int32) < 0 := by decide
  have e1 : f_X0_taskAt 0 I = some x := by
    rw [arm_taskAt h, if_neg e0]
    rfl
  rw [e1, some_bind, if_neg hne, h1, some_bind, f_X0_takeFar_b17]
  exact ⟨q, rfl, h2⟩
/-- the second of two arms' numbers come to the first -/
theorem arm_become {I : IS} {l l0 : List Int32} {w i s w0 i0 s0 : Int32} (h : RAr (zI 2 I) l w i s) (_ : RAr I l0 w0 i0 s0) : ∃ q, f_X0_become I = some q ∧ RAr q l w i s := by
  unfold f_X0_become
  rw [if_pos (by decide), some_bind, some_bind]
  refine ⟨_, rfl, ⟨?_, h.1.2.1, fun k hk => ?_⟩, ?_, ?_, ?_⟩
  · have := h.1.1
    simpa [u2_ap, u1_ap, zI_ap] using this
  · have h3 := h.1.2.2 k hk
    have hl := h.1.2.1
    rw [h3]
    have hk32 : k < 32 := by omega
    have e32 : (32 : Int32).toNatClampNeg = 32 := rfl
    have e0 : (0 : Int32).toNatClampNeg = 0 := rfl
    simp [u2_ap, u1_ap, zI_ap, va_cpy, e32, e0, hk32]
  · have := h.2.1
    simpa [u2_ap, u1_ap, zI_ap] using this
  · have := h.2.2.1
    simpa [u2_ap, u1_ap, zI_ap] using this
  · have := h.2.2.2
    simpa [u2_ap, u1_ap, zI_ap] using this
