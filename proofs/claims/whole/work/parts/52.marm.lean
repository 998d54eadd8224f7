/-! ===== the Model: an arm goes; a round ===== -/
theorem mo_take {W : Prop} {B : BS} {I : IS} {s : SP} (h : RMo W B I s) (hw : WF s) {a : Nat} (ha : a < na s) (h5 : af s 0 a = -5) : ∃ J, f_X8_armGoes (nI a) I = some J ∧ RMo W B J (eTake s a) := by
  have hn : na s ≤ 4 := hw.1.2.1
  have hT : nT s ≤ 32 := hw.1.2.2
  have ca : okI (nI a) 4 = true := okI_nI (by omega) (by omega)
  have e3 : I 3 a = -5 := by rw [h.2.1.1 a (by omega), h5]
  obtain ⟨r1, r2, r3⟩ := h.1 a (by omega)
  have c5 : (-5 : Int32) < 0 := by decide
  cases hl : (rw_ s a).getLast? with
  | some x =>
    obtain ⟨t, ht, e, -⟩ := hw.2.1.2.2 a x (List.mem_of_getLast? hl)
    have hne : (rw_ s a).length ≠ 0 := fun q => by
      rw [List.length_eq_zero_iff.mp q] at hl
      cases hl
    rw [eTake_near hl, e, nI_clamp (by omega)]
    have g := mo_pop h hn (show a < 4 by omega)
    obtain ⟨J, j1, j2⟩ := mo_works g (show na (ePop s a) ≤ 4 from hn) (show a < 4 by omega) 0 (t := t) ht
    have em : nI (rw_ s a).length - 1 = nI ((rw_ s a).length - 1) := by
      have := nI_s1 ((rw_ s a).length - 1)
      rw [show (rw_ s a).length - 1 + 1 = (rw_ s a).length by omega] at this
      exact this
    have ei : (32 : Int32) * nI a + nI ((rw_ s a).length - 1) = nI (32 * a + ((rw_ s a).length - 1)) := by rw [nI_32m, nI_add]
    have ev : u2 I 1 a (nI ((rw_ s a).length - 1)) 2 (32 * a + ((rw_ s a).length - 1)) = nI t := by
      rw [u2_ne _ _ (Or.inl (by omega))]
      have q := r3 ((rw_ s a).length - 1) (by omega)
      rw [← List.getLast?_eq_getElem?, hl, e] at q
      exact (Option.some.inj q).symm
    refine ⟨J, ?_, j2⟩
    rw [f_X8_armGoes, if_pos ca, nI_clamp (by omega), e3, if_pos c5, if_pos ca, r1, if_neg (fun q => hne ((dr_le0 r2).mp q)), if_pos ca, if_pos ca, if_pos ca, em, u2_eq, ei, if_pos (okI_nI (by omega) (by omega)), nI_clamp (by omega), ev, j1, some_bind]
  | none =>
    have hnil : rw_ s a = [] := List.getLast?_eq_none_iff.mp hl
    have r0 : nI (rw_ s a).length ≤ (0 : Int32) := (dr_le0 r2).mpr (by rw [hnil]; rfl)
    have hf := mo_full h hn ha
    have hN : (fl s a (na s)).length ≤ 4 := Nat.le_trans (fl_len s a _) hn
    by_cases h0 : (fl s a (na s)).length = 0
    · have hd : eDr s a = (none, s) := by
        unfold eDr
        rw [if_pos h0]
      rw [eTake_idle hl hd]
      have e4 : I 4 a = af s 1 a := (h.2.1.2 a ha).1
      refine ⟨u2 I 4 a (af s 1 a + 1), ?_, mo_u4 h hn (af s 1 a + 1)⟩
      rw [f_X8_armGoes, if_pos ca, nI_clamp (by omega), e3, if_pos c5, if_pos ca, r1, if_pos r0, hf, some_bind, if_pos ((dr_le0 (by omega)).mpr h0), if_pos ca, if_pos ca, e4]
    · obtain ⟨J, j1, j2⟩ := mo_steals h hw ha hl h0
      refine ⟨J, ?_, j2⟩
      rw [f_X8_armGoes, if_pos ca, nI_clamp (by omega), e3, if_pos c5, if_pos ca, r1, if_pos r0, hf, some_bind, if_neg (fun q => h0 ((dr_le0 (by omega)).mp q)), some_bind, j1, some_bind]
theorem mo_step {W : Prop} {B : BS} {I : IS} {s : SP} (h : RMo W B I s) (b1 : B 22 = none) (b2 : B 29 = none) (b3 : B 30 = none) (hw : WF s) {a t : Nat} (ha : a < na s) (ht : t < nT s) (h0 : af s 0 a = nI t) : ∃ J, f_X8_armGoes (nI a) I = some J ∧ RMo W B J (eStep s a t) := by
  have hn : na s ≤ 4 := hw.1.2.1
  have hT : nT s ≤ 32 := hw.1.2.2
  have ca : okI (nI a) 4 = true := okI_nI (by omega) (by omega)
  have ct : okI (nI t) 32 = true := okI_nI (by omega) (by omega)
  have e3 : I 3 a = nI t := by rw [h.2.1.1 a (by omega), h0]
  have e8 : I 8 t = tf s 1 t := h.2.2.1.2.2 1 (by omega) t ht
  have h3 : tf s 3 t = 1 := (wf_air hw ha ht h0).2.2
  have hc6 : tf s 6 t = -5 := by
    rcases hw.2.2.2.2.1 t ht with q | ⟨q, -⟩
    · exact q
    · rw [h3] at q
      exact absurd q (by decide)
  have g := mo_set h (f := 1) (by omega) t (tf s 1 t - 1)
  have g : RMo W B (u2 I 8 t (tf s 1 t - 1)) (eSet s 1 t (tf s 1 t - 1)) := g
  unfold eStep
  by_cases hz : tf s 1 t - 1 = 0
  · rw [if_pos hz]
    have g2 := mo_u3 g (show na (eSet s 1 t (tf s 1 t - 1)) ≤ 4 from hn) (a := a) (-5)
    have kr : rw_ (eSet s 1 t (tf s 1 t - 1)) = rw_ s := rfl
    have kf : af (eSet s 1 t (tf s 1 t - 1)) = af s := rfl
    rw [kr, kf] at g2
    have we := wf_ends (wf_set1 hw t (tf s 1 t - 1)) (a := a) (t := t) ha ht h0
    rw [kr, kf] at we
    obtain ⟨k1, k2, k3⟩ := eSet_k s 1 t (tf s 1 t - 1) (by omega)
    have k6 : tf (eSet s 1 t (tf s 1 t - 1)) 6 = tf s 6 := eSet_fo s t _ (by omega)
    have m1 : nT (uA (eSet s 1 t (tf s 1 t - 1)) a (rw_ s a) (-5) (af s 1 a) (af s 2 a)) = nT s := rfl
    have m2 : na (uA (eSet s 1 t (tf s 1 t - 1)) a (rw_ s a) (-5) (af s 1 a) (af s 2 a)) = na s := rfl
    have m3 : tf (uA (eSet s 1 t (tf s 1 t - 1)) a (rw_ s a) (-5) (af s 1 a) (af s 2 a)) 4 = tf s 4 := k3
    have m6 : tf (uA (eSet s 1 t (tf s 1 t - 1)) a (rw_ s a) (-5) (af s 1 a) (af s 2 a)) 6 = tf s 6 := k6
    have m4 : rw_ (uA (eSet s 1 t (tf s 1 t - 1)) a (rw_ s a) (-5) (af s 1 a) (af s 2 a)) a = rw_ s a := uA_rs _ _ _ _ _ _
    generalize uA (eSet s 1 t (tf s 1 t - 1)) a (rw_ s a) (-5) (af s 1 a) (af s 2 a) = s2 at g2 we m1 m2 m3 m4 m6 ⊢
    have w2 : WFp (nT s2) (tf s2) := wfp_congr' hw m1 m3
    obtain ⟨J, f1, f2⟩ := mo_through g2 b1 b2 b3 (by omega) w2 (t := t) (a := a) (by omega) (by omega) (by rw [m6]; exact hc6) we (by rw [m4]; exact hw.2.1.1 a) (fun x hx => by
      rw [m4] at hx
      obtain ⟨t', ht', e', -⟩ := hw.2.1.2.2 a x hx
      exact ⟨t', by omega, e'⟩) (fun k hk hk4 hm => by
      rw [m4] at hm
      rw [m3] at hk4
      obtain ⟨t', ht', e', -, e3⟩ := hw.2.1.2.2 a _ hm
      have := (nI_eq (by omega) (by omega)).mp e'
      subst this
      rcases e3 with e3 | e3
      · exact e3
      · have := e3 t (prn_of (by omega) hk4)
        rw [h3] at this
        exact absurd this (by decide))
    refine ⟨J, ?_, f2⟩
    rw [f_X8_armGoes, if_pos ca, nI_clamp (by omega), e3, if_neg (nI_lt0 (by omega)), if_pos ct, if_pos ct, some_bind, if_pos ct, nI_clamp (by omega), u2_eq, e8, if_pos hz, if_pos ca, f1, some_bind]
  · rw [if_neg hz]
    refine ⟨_, ?_, g⟩
    rw [f_X8_armGoes, if_pos ca, nI_clamp (by omega), e3, if_neg (nI_lt0 (by omega)), if_pos ct, if_pos ct, some_bind, if_pos ct, nI_clamp (by omega), u2_eq, e8, if_neg hz]
theorem mo_arm {W : Prop} {B : BS} {I : IS} {s : SP} (h : RMo W B I s) (b1 : B 22 = none) (b2 : B 29 = none) (b3 : B 30 = none) (hw : WF s) {a : Nat} (ha : a < na s) : ∃ J, f_X8_armGoes (nI a) I = some J ∧ RMo W B J (eArm s a) := by
  have hT : nT s ≤ 32 := hw.1.2.2
  unfold eArm
  rcases hw.2.2.1.1 a with h0 | ⟨t, ht, h0, -⟩
  · rw [if_pos h0]
    exact mo_take h hw ha h0
  · rw [if_neg (by rw [h0]; exact m5_ne (by omega)), show (af s 0 a).toNatClampNeg = t by rw [h0]; exact nI_clamp (by omega)]
    exact mo_step h b1 b2 b3 hw ha ht h0
theorem mo_round {W : Prop} {B : BS} {I : IS} {s : SP} (h : RMo W B I s) (b1 : B 22 = none) (b2 : B 29 = none) (b3 : B 30 = none) (hw : WF s) : ∃ J, f_X8_roundOn I = some J ∧ RMo W B J (eRound s) := by
  have hn : na s ≤ 4 := hw.1.2.1
  have key := loop_inv (fun fu j (I : IS) => f_X8_roundOn_b2 fu (nI j) I) (na s) (fun j I => RMo W B I (eArms s j)) (fun J => RMo W B J (eRound s)) (fun fu I hI => by
    have e0 : I 0 0 = nI (na s) := by
      have e := hI.2.2.2.2.2.1.1
      rw [(wf_arms hw (na s) (Nat.le_refl _)).2.1] at e
      exact e
    have e15 : I 0 15 = rd (eArms s (na s)) := hI.2.2.2.2.2.1.2.2
    refine ⟨u2 I 0 15 (rd (eArms s (na s)) + 1), ?_, mo_rd hI _⟩
    show f_X8_roundOn_b2 (fu + 1) (nI (na s)) I = _
    rw [f_X8_roundOn_b2, e0, if_pos ((nI_leI (by omega) (by omega)).mpr (Nat.le_refl _)), e15]) (fun fu j I hj hI => by
    obtain ⟨w1, w2, -⟩ := wf_arms hw j (by omega)
    have e0 : I 0 0 = nI (na s) := by
      have e := hI.2.2.2.2.2.1.1
      rw [w2] at e
      exact e
    obtain ⟨J, j1, j2⟩ := mo_arm hI b1 b2 b3 w1 (a := j) (by omega)
    refine ⟨J, j2, ?_⟩
    show f_X8_roundOn_b2 (fu + 1) (nI j) I = _
    rw [f_X8_roundOn_b2, e0, if_neg (nI_ge hj (by omega)), j1, some_bind, nI_1]) (na s) 0 LF I (by omega) (by unfold LF; omega) h
  exact key
theorem mo_rounds {W : Prop} {B : BS} {I : IS} {s : SP} (h : RMo W B I s) (b1 : B 22 = none) (b2 : B 29 = none) (b3 : B 30 = none) (hw : WF s) {n : Nat} (hn : n ≤ 400) : ∃ J, f_X8_goRounds (nI n) I = some J ∧ RMo W B J (eRounds s n) := by
  have key := loop_inv (fun fu j (I : IS) => f_X8_goRounds_b2 fu (nI n) (nI j) I) n (fun j I => RMo W B I (eRounds s j)) (fun J => RMo W B J (eRounds s n)) (fun fu I hI => by
    refine ⟨I, ?_, hI⟩
    show f_X8_goRounds_b2 (fu + 1) (nI n) (nI n) I = _
    rw [f_X8_goRounds_b2, if_pos ((nI_leI (by omega) (by omega)).mpr (Nat.le_refl _))]) (fun fu j I hj hI => by
    obtain ⟨J, j1, j2⟩ := mo_round hI b1 b2 b3 (wf_rounds hw j).1
    refine ⟨J, j2, ?_⟩
    show f_X8_goRounds_b2 (fu + 1) (nI n) (nI j) I = _
    rw [f_X8_goRounds_b2, if_neg (nI_ge hj (by omega)), j1, some_bind, nI_1]) n 0 LF I (by omega) (by unfold LF; omega) h
  exact key
/-- over: for the Model, no task at work or joining, no row that holds one -/
theorem busy_iff {s : SP} (hw : WF s) : busy s ↔ (∃ t, t < nT s ∧ (tf s 3 t = 1 ∨ tf s 3 t = 2)) ∨ ∃ a, a < na s ∧ rw_ s a ≠ [] := by
  constructor
  · rintro (⟨a, ha, q | q⟩ | ⟨t, ht, q⟩)
    · exact Or.inr ⟨a, ha, q⟩
    · rcases hw.2.2.1.1 a with h0 | ⟨t, ht, -, h1⟩
      · exact absurd h0 q
      · exact Or.inl ⟨t, ht, Or.inl h1⟩
    · exact Or.inl ⟨t, ht, Or.inr q⟩
  · rintro (⟨t, ht, q | q⟩ | ⟨a, ha, q⟩)
    · obtain ⟨a, ha, e⟩ := hw.2.2.1.2.2.1 t ht q
      have hT : nT s ≤ 32 := hw.1.2.2
      exact Or.inl ⟨a, ha, Or.inr (by rw [e]; exact m5_ne (by omega))⟩
    · exact Or.inr ⟨t, ht, q⟩
    · exact Or.inl ⟨a, ha, Or.inl q⟩
theorem mo_isOver {W : Prop} {B : BS} {I : IS} {s : SP} (h : RMo W B I s) (hw : WF s) : ∃ r, f_X8_isOver I = some r ∧ (r = 1 ∧ ¬ busy s ∨ r = 0 ∧ busy s) := by
  have hn : na s ≤ 4 := hw.1.2.1
  have hT : nT s ≤ 32 := hw.1.2.2
  have e0 : I 0 0 = nI (na s) := h.2.2.2.2.2.1.1
  have e6 : I 0 6 = nI (nT s) := h.2.2.1.1
  rw [busy_iff hw]
  have second : ∀ v : Int32, (v = 1 ∧ (∀ t, t < nT s → ¬ (tf s 3 t = 1 ∨ tf s 3 t = 2)) ∨ v = 0 ∧ ∃ t, t < nT s ∧ (tf s 3 t = 1 ∨ tf s 3 t = 2)) → ∃ r, f_X8_isOver_b50 LF v 0 I = some r ∧ (r = 1 ∧ ¬ ((∃ t, t < nT s ∧ (tf s 3 t = 1 ∨ tf s 3 t = 2)) ∨ ∃ a, a < na s ∧ rw_ s a ≠ []) ∨ r = 0 ∧ ((∃ t, t < nT s ∧ (tf s 3 t = 1 ∨ tf s 3 t = 2)) ∨ ∃ a, a < na s ∧ rw_ s a ≠ [])) := fun v hv => by
    have key := loop_inv (fun fu j (v : Int32) => f_X8_isOver_b50 fu v (nI j) I) (na s) (fun j v => (v = 1 ∧ (∀ t, t < nT s → ¬ (tf s 3 t = 1 ∨ tf s 3 t = 2)) ∧ ∀ a, a < j → rw_ s a = []) ∨ v = 0 ∧ ((∃ t, t < nT s ∧ (tf s 3 t = 1 ∨ tf s 3 t = 2)) ∨ ∃ a, a < na s ∧ rw_ s a ≠ [])) (fun r => r = 1 ∧ ¬ ((∃ t, t < nT s ∧ (tf s 3 t = 1 ∨ tf s 3 t = 2)) ∨ ∃ a, a < na s ∧ rw_ s a ≠ []) ∨ r = 0 ∧ ((∃ t, t < nT s ∧ (tf s 3 t = 1 ∨ tf s 3 t = 2)) ∨ ∃ a, a < na s ∧ rw_ s a ≠ [])) (fun fu v hv => by
      have cz : okZ v = true := by
        rcases hv with ⟨rfl, -⟩ | ⟨rfl, -⟩ <;> rfl
      refine ⟨v, ?_, ?_⟩
      · show f_X8_isOver_b50 (fu + 1) v (nI (na s)) I = _
        rw [f_X8_isOver_b50, e0, if_pos ((nI_leI (by omega) (by omega)).mpr (Nat.le_refl _)), if_pos cz]
      · rcases hv with ⟨q1, q2, q3⟩ | q
        · refine Or.inl ⟨q1, fun q => ?_⟩
          rcases q with ⟨t, ht, q⟩ | ⟨a, ha, q⟩
          · exact q2 t ht q
          · exact q (q3 a ha)
        · exact Or.inr q) (fun fu j v hj hv => by
      have c1 : ¬ nI (na s) ≤ nI j := nI_ge hj (by omega)
      have c2 : okI (nI j) 4 = true := okI_nI (by omega) (by omega)
      obtain ⟨g1, g2, -⟩ := h.1 j (by omega)
      show ∃ v', _ ∧ f_X8_isOver_b50 (fu + 1) v (nI j) I = f_X8_isOver_b50 fu v' (nI (j + 1)) I
      rcases hv with ⟨rfl, q2, q3⟩ | ⟨rfl, q⟩
      · by_cases c : (rw_ s j).length = 0
        · refine ⟨1, Or.inl ⟨rfl, q2, fun a ha => ?_⟩, ?_⟩
          · by_cases haj : a = j
            · rw [haj]
              exact List.length_eq_zero_iff.mp c
            · exact q3 a (by omega)
          · rw [f_X8_isOver_b50, e0, if_neg c1, if_neg z10, if_pos c2, nI_clamp (by omega), g1, if_pos ((dr_e0 g2).mpr c), f_X8_isOver_b76, nI_1]
        · refine ⟨0, Or.inr ⟨rfl, Or.inr ⟨j, hj, fun q => c (by rw [q]; rfl)⟩⟩, ?_⟩
          rw [f_X8_isOver_b50, e0, if_neg c1, if_neg z10, if_pos c2, nI_clamp (by omega), g1, if_neg (fun q => c ((dr_e0 g2).mp q)), f_X8_isOver_b75, f_X8_isOver_b76, nI_1]
      · refine ⟨0, Or.inr ⟨rfl, q⟩, ?_⟩
        rw [f_X8_isOver_b50, e0, if_neg c1, if_pos rfl, f_X8_isOver_b75, f_X8_isOver_b76, nI_1]) (na s) 0 LF v (by omega) (by unfold LF; omega) (by
      rcases hv with ⟨q1, q2⟩ | ⟨q1, q2⟩
      · exact Or.inl ⟨q1, q2, fun a ha => absurd ha (Nat.not_lt_zero a)⟩
      · exact Or.inr ⟨q1, Or.inl q2⟩)
    exact key
  have key := loop_inv (fun fu j (v : Int32) => f_X8_isOver_b4 fu v (nI j) I) (nT s) (fun j v => (v = 1 ∧ ∀ t, t < j → ¬ (tf s 3 t = 1 ∨ tf s 3 t = 2)) ∨ v = 0 ∧ ∃ t, t < nT s ∧ (tf s 3 t = 1 ∨ tf s 3 t = 2)) (fun r => r = 1 ∧ ¬ ((∃ t, t < nT s ∧ (tf s 3 t = 1 ∨ tf s 3 t = 2)) ∨ ∃ a, a < na s ∧ rw_ s a ≠ []) ∨ r = 0 ∧ ((∃ t, t < nT s ∧ (tf s 3 t = 1 ∨ tf s 3 t = 2)) ∨ ∃ a, a < na s ∧ rw_ s a ≠ [])) (fun fu v hv => by
    obtain ⟨r, r1, r2⟩ := second v hv
    refine ⟨r, ?_, r2⟩
    show f_X8_isOver_b4 (fu + 1) v (nI (nT s)) I = _
    rw [f_X8_isOver_b4, e6, if_pos ((nI_leI (by omega) (by omega)).mpr (Nat.le_refl _))]
    exact r1) (fun fu j v hj hv => by
    have c1 : ¬ nI (nT s) ≤ nI j := nI_ge hj (by omega)
    have c2 : okI (nI j) 32 = true := okI_nI (by omega) (by omega)
    have es : I 6 j = tf s 3 j := h.2.2.1.2.2 3 (by omega) j hj
    show ∃ v', _ ∧ f_X8_isOver_b4 (fu + 1) v (nI j) I = f_X8_isOver_b4 fu v' (nI (j + 1)) I
    rcases hv with ⟨rfl, q2⟩ | ⟨rfl, q⟩
    · by_cases d1 : tf s 3 j = 1
      · refine ⟨0, Or.inr ⟨rfl, j, hj, Or.inl d1⟩, ?_⟩
        rw [f_X8_isOver_b4, e6, if_neg c1, if_neg z10, if_pos c2, nI_clamp (by omega), es, if_pos d1, f_X8_isOver_b40, f_X8_isOver_b41, nI_1]
      · by_cases d2 : tf s 3 j = 2
        · refine ⟨0, Or.inr ⟨rfl, j, hj, Or.inr d2⟩, ?_⟩
          rw [f_X8_isOver_b4, e6, if_neg c1, if_neg z10, if_pos c2, nI_clamp (by omega), es, if_neg d1, if_pos c2, if_pos d2, f_X8_isOver_b40, f_X8_isOver_b41, nI_1]
        · refine ⟨1, Or.inl ⟨rfl, fun t ht => ?_⟩, ?_⟩
          · by_cases htj : t = j
            · rw [htj]
              exact fun q => q.elim d1 d2
            · exact q2 t (by omega)
          · rw [f_X8_isOver_b4, e6, if_neg c1, if_neg z10, if_pos c2, nI_clamp (by omega), es, if_neg d1, if_pos c2, if_neg d2, f_X8_isOver_b41, nI_1]
    · refine ⟨0, Or.inr ⟨rfl, q⟩, ?_⟩
      rw [f_X8_isOver_b4, e6, if_neg c1, if_pos rfl, f_X8_isOver_b40, f_X8_isOver_b41, nI_1]) (nT s) 0 LF 1 (by omega) (by unfold LF; omega) (Or.inl ⟨rfl, fun t ht => absurd ht (Nat.not_lt_zero t)⟩)
  exact key
