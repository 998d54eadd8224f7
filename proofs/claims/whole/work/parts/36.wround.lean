/-! ===== the World: a round ===== -/
noncomputable def eEnds (s : SP) (t a : Nat) : Bool × SP := if tf s 5 t = 1 then (true, eEnt (eSet s 3 t 4) (nI a) 4 (nI t)) else if pB (allE (nT s) (tf s) t) = true then (true, eEnt (eFin s t) (nI a) 3 (nI t)) else (false, eFk (eSet s 3 t 2) t a (nT s))
theorem eSet_k (s : SP) (f t : Nat) (v : Int32) (hf : f ≠ 4) : nT (eSet s f t v) = nT s ∧ na (eSet s f t v) = na s ∧ tf (eSet s f t v) 4 = tf s 4 := by
  refine ⟨rfl, rfl, ?_⟩
  funext k
  show u2 (tf s) f t v 4 k = tf s 4 k
  exact u2_ne _ _ (Or.inl (by omega))
theorem wor_ends {I : IS} {s : SP} (h : RWo I s) (hn : na s ≤ 4) (hw : WFp (nT s) (tf s)) {t a : Nat} (ht : t < nT s) (ha : a < 4) (r1 : (rw_ s a).Nodup) (r2 : ∀ x ∈ rw_ s a, ∃ t, t < nT s ∧ x = nI t) (r3 : ∀ k, k < nT s → tf s 4 k = nI t → nI k ∉ rw_ s a) : ∃ J, f_X6_endsByItself (nI t) (nI a) I = some (if (eEnds s t a).1 = true then 1 else 0, J) ∧ RWo J (eEnds s t a).2 := by
  have hT : nT s ≤ 32 := h.2.1.2.1
  have ct : okI (nI t) 32 = true := okI_nI (by omega) (by omega)
  have e16 : I 16 t = tf s 5 t := rta_get h.2.1 ht 5 (by omega)
  by_cases h5 : tf s 5 t = 1
  · have ee : eEnds s t a = (true, eEnt (eSet s 3 t 4) (nI a) 4 (nI t)) := by
      unfold eEnds
      rw [if_pos h5]
    have g := rwo_eSet h (f := 3) (by omega) t 4
    obtain ⟨q, e1, e2⟩ := rwo_eEnt g (nI a) 4 (nI t)
    rw [ee]
    refine ⟨_, ?_, e2⟩
    rw [f_X6_endsByItself, if_pos ct, nI_clamp (by omega), e16, if_pos h5, if_pos ct, e1, some_bind, if_pos rfl]
  · obtain ⟨r, a1, a2⟩ := tas_allIn h.2.1 hw ht
    by_cases hall : allE (nT s) (tf s) t
    · have hr : r = 1 := by
        rcases a2 with a2 | a2
        · exact a2.1
        · exact absurd hall a2.2
      have ee : eEnds s t a = (true, eEnt (eFin s t) (nI a) 3 (nI t)) := by
        unfold eEnds
        rw [if_neg h5, if_pos (pB_iff.mpr hall)]
      obtain ⟨q, f1, f2, -⟩ := rwo_fin h hw ht
      obtain ⟨q', e1, e2⟩ := rwo_eEnt f2 (nI a) 3 (nI t)
      have c0 : ¬ (1 : Int32) = 0 := by decide
      rw [ee]
      refine ⟨_, ?_, e2⟩
      rw [f_X6_endsByItself, if_pos ct, nI_clamp (by omega), e16, if_neg h5, a1, some_bind, hr, if_neg c0, f1, some_bind, e1, some_bind, if_pos rfl]
    · have hr : r = 0 := by
        rcases a2 with a2 | a2
        · exact absurd a2.2 hall
        · exact a2.1
      have ee : eEnds s t a = (false, eFk (eSet s 3 t 2) t a (nT s)) := by
        unfold eEnds
        rw [if_neg h5, if_neg (fun q => hall (pB_iff.mp q))]
      have g := rwo_eSet h (f := 3) (by omega) t 2
      obtain ⟨k1, k2, k3⟩ := eSet_k s 3 t 2 (by omega)
      have kr : rw_ (eSet s 3 t 2) = rw_ s := rfl
      have hw' : WFp (nT (eSet s 3 t 2)) (tf (eSet s 3 t 2)) := fun x hx => by
        rw [k3]
        exact hw x hx
      obtain ⟨J, f1, f2⟩ := wor_fork g hw' (t := t) ht ha r1 r2 (fun k hk hk4 => r3 k hk (by rw [← k3]; exact hk4))
      rw [ee]
      refine ⟨J, ?_, f2⟩
      rw [f_X6_endsByItself, if_pos ct, nI_clamp (by omega), e16, if_neg h5, a1, some_bind, hr, if_pos rfl, if_pos ct, f1]
      show _ = some (if false = true then 1 else 0, J)
      rw [if_neg Bool.false_ne_true]
theorem eEnds_k (s : SP) (t a : Nat) : nT (eEnds s t a).2 = nT s ∧ na (eEnds s t a).2 = na s ∧ tf (eEnds s t a).2 4 = tf s 4 := by
  unfold eEnds
  by_cases h5 : tf s 5 t = 1
  · rw [if_pos h5]
    exact eSet_k s 3 t 4 (by omega)
  · rw [if_neg h5]
    by_cases hall : pB (allE (nT s) (tf s) t) = true
    · rw [if_pos hall]
      exact eFin_k s t
    · rw [if_neg hall]
      exact eSet_k s 3 t 2 (by omega)
theorem nI_nonneg' {t : Nat} (ht : t < 2 ^ 31) : ¬ nI t < 0 := by
  intro h
  have : ¬ nI 0 ≤ nI t → False := fun q => q ((nI_leI (by omega) ht).mpr (Nat.zero_le t))
  refine this (fun q => ?_)
  have h1 := Int32.lt_iff_toInt_lt.mp h
  have h2 := Int32.le_iff_toInt_le.mp q
  have h3 : (nI 0).toInt = (0 : Int32).toInt := rfl
  omega
theorem wfp_congr' {s s' : SP} (hw : WF s) (h1 : nT s' = nT s) (h2 : tf s' 4 = tf s 4) : WFp (nT s') (tf s') := fun x hx => by
  rw [h2]
  exact wf_p hw x (by omega)
theorem wfd_congr' {s s' : SP} (hw : WF s) (h1 : nT s' = nT s) (h2 : tf s' 4 = tf s 4) : WFd (nT s') (tf s') := fun x hx => by
  have e : ∀ k t, anc (tf s') k t = anc (tf s) k t := by
    intro k
    induction k with
    | zero => intro t; rfl
    | succ k ih =>
      intro t
      show (prn (tf s') t).bind (anc (tf s') k) = (prn (tf s) t).bind (anc (tf s) k)
      have e1 : prn (tf s') t = prn (tf s) t := by
        unfold prn
        rw [h2]
      rw [e1, show anc (tf s') k = anc (tf s) k from funext ih]
  rw [e]
  exact wf_d hw x (by omega)
noncomputable def eStep (s : SP) (a t : Nat) : SP := if tf s 1 t - 1 = 0 then (if (eEnds (uA (eSet s 1 t (tf s 1 t - 1)) a (rw_ s a) (-5) (af s 1 a) (af s 2 a)) t a).1 = true then eUp 4 (eEnds (uA (eSet s 1 t (tf s 1 t - 1)) a (rw_ s a) (-5) (af s 1 a) (af s 2 a)) t a).2 t else (eEnds (uA (eSet s 1 t (tf s 1 t - 1)) a (rw_ s a) (-5) (af s 1 a) (af s 2 a)) t a).2) else eSet s 1 t (tf s 1 t - 1)
noncomputable def eArm (s : SP) (a : Nat) : SP := if af s 0 a = -5 then eTake s a else eStep s a (af s 0 a).toNatClampNeg
noncomputable def eArms (s : SP) : Nat → SP
  | 0 => s
  | n + 1 => eArm (eArms s n) n
noncomputable def eRound (s : SP) : SP := wRd (eArms s (na s)) (rd (eArms s (na s)) + 1)
theorem prn_of {tf : Nat → Nat → Int32} {k t : Nat} (ht : t < 2 ^ 31) (h : tf 4 k = nI t) : prn tf k = some t := by
  unfold prn
  rw [h, if_neg (nI_nonneg' ht), nI_clamp ht]
theorem wor_arm {I : IS} {s : SP} (h : RWo I s) (hw : WF s) {a : Nat} (ha : a < na s) (fu : Nat) : ∃ J, f_X6_goRound_b2 (fu + 1) (nI a) I = f_X6_goRound_b2 fu (nI (a + 1)) J ∧ RWo J (eArm s a) := by
  have hn : na s ≤ 4 := hw.1.2.1
  have hT : nT s ≤ 32 := hw.1.2.2
  have e6 : I 0 6 = nI (na s) := h.2.2.2.2.1
  have c1 : ¬ nI (na s) ≤ nI a := nI_ge ha (by omega)
  have ca : okI (nI a) 4 = true := okI_nI (by omega) (by omega)
  have e2 : I (gArm a) 2 = af s 0 a := (h.1 a (by omega)).2.1
  rcases hw.2.2.1.1 a with h0 | ⟨t, ht, h0, h3⟩
  · obtain ⟨J, j1, j2⟩ := wor_take h hw ha
    refine ⟨J, ?_, ?_⟩
    · rw [f_X6_goRound_b2, e6, if_neg c1, if_pos ca, nI_clamp (by omega), e2, h0, tas_has_neg (by decide), some_bind, if_pos rfl, j1, some_bind, f_X6_goRound_b75, nI_1]
    · unfold eArm
      rw [if_pos h0]
      exact j2
  · have c5 : ¬ nI t = -5 := m5_ne (by omega)
    have c10 : ¬ (1 : Int32) = 0 := by decide
    have ea : eArm s a = eStep s a t := by
      unfold eArm
      rw [h0, if_neg c5, nI_clamp (by omega)]
    rw [ea]
    obtain ⟨q, l1, l2⟩ := tas_lessLeft h.2.1 ht
    have g := rwo_gtas h l2
    have es : wTf s (u2 (tf s) 1 t (tf s 1 t - 1)) = eSet s 1 t (tf s 1 t - 1) := rfl
    rw [es] at g
    by_cases hz : tf s 1 t - 1 = 0
    · have g2 := rwo_u2w g (show a < 4 by omega) (-5)
      have kr : rw_ (eSet s 1 t (tf s 1 t - 1)) = rw_ s := rfl
      have kf : af (eSet s 1 t (tf s 1 t - 1)) = af s := rfl
      rw [kr, kf] at g2
      obtain ⟨k1, k2, k3⟩ := eSet_k s 1 t (tf s 1 t - 1) (by omega)
      unfold eStep
      rw [if_pos hz]
      have m1 : nT (uA (eSet s 1 t (tf s 1 t - 1)) a (rw_ s a) (-5) (af s 1 a) (af s 2 a)) = nT s := rfl
      have m2 : na (uA (eSet s 1 t (tf s 1 t - 1)) a (rw_ s a) (-5) (af s 1 a) (af s 2 a)) = na s := rfl
      have m3 : tf (uA (eSet s 1 t (tf s 1 t - 1)) a (rw_ s a) (-5) (af s 1 a) (af s 2 a)) 4 = tf s 4 := k3
      have m4 : rw_ (uA (eSet s 1 t (tf s 1 t - 1)) a (rw_ s a) (-5) (af s 1 a) (af s 2 a)) a = rw_ s a := uA_rs _ _ _ _ _ _
      generalize uA (eSet s 1 t (tf s 1 t - 1)) a (rw_ s a) (-5) (af s 1 a) (af s 2 a) = s2 at g2 m1 m2 m3 m4 ⊢
      have w2 : WFp (nT s2) (tf s2) := wfp_congr' hw m1 m3
      obtain ⟨J, f1, f2⟩ := wor_ends g2 (by omega) w2 (t := t) (a := a) (by omega) (by omega) (by rw [m4]; exact hw.2.1.1 a) (fun x hx => by
        rw [m4] at hx
        obtain ⟨t', ht', e', -⟩ := hw.2.1.2.2 a x hx
        exact ⟨t', by omega, e'⟩) (fun k hk hk4 hm => by
        rw [m4] at hm
        rw [m3] at hk4
        obtain ⟨t', ht', e', -, e3⟩ := hw.2.1.2.2 a _ hm
        have := (nI_eq (by omega) (by omega)).mp e'
        subst this
        rcases e3 with e3 | e3
        · exact e3
        · have := e3 t (prn_of (by omega) hk4)
          rw [h3] at this
          exact absurd this (by decide))
      have hd : f_X6_goRound_b2 (fu + 1) (nI a) I = (f_X6_endsByItself (nI t) (nI a) (u2 (gI 10 9 q I) (gArm a) 2 (-5))).bind fun q10 => (if q10.1 = 0 then (f_X6_goRound_b75 (f_X6_goRound_b2 fu) (nI a) q10.2) else ((f_X6_tellUpward (nI t) q10.2).bind fun q13 => (f_X6_goRound_b75 (f_X6_goRound_b2 fu) (nI a) q13))) := by
        rw [f_X6_goRound_b2, e6, if_neg c1, if_pos ca, nI_clamp (by omega), e2, h0, tas_has_in h.2.1 ht, some_bind, if_neg c10, l1, some_bind, if_pos hz, if_pos ca]
      rw [hd, f1, some_bind]
      obtain ⟨n1, n2, n3⟩ := eEnds_k s2 t a
      cases hb : (eEnds s2 t a).1 with
      | false =>
        refine ⟨J, ?_, ?_⟩
        · rw [if_neg Bool.false_ne_true, if_pos rfl, f_X6_goRound_b75, nI_1]
        · rw [if_neg Bool.false_ne_true]
          exact f2
      | true =>
        have w3 : WFp (nT (eEnds s2 t a).2) (tf (eEnds s2 t a).2) := wfp_congr' hw (n1.trans m1) (n3.trans m3)
        have w4 : WFd (nT (eEnds s2 t a).2) (tf (eEnds s2 t a).2) := wfd_congr' hw (n1.trans m1) (n3.trans m3)
        obtain ⟨J', u1, u2'⟩ := wor_tell f2 (by omega) w3 w4 (t := t) (by omega)
        refine ⟨J', ?_, ?_⟩
        · rw [if_pos rfl, if_neg c10]
          show (f_X6_tellUpward (nI t) J).bind _ = _
          rw [u1, some_bind, f_X6_goRound_b75, nI_1]
        · rw [if_pos rfl]
          exact u2'
    · refine ⟨gI 10 9 q I, ?_, ?_⟩
      · rw [f_X6_goRound_b2, e6, if_neg c1, if_pos ca, nI_clamp (by omega), e2, h0, tas_has_in h.2.1 ht, some_bind, if_neg c10, l1, some_bind, if_neg hz, f_X6_goRound_b75, nI_1]
      · unfold eStep
        rw [if_neg hz]
        exact g
theorem wor_round {I : IS} {s : SP} (h : RWo I s) (hk : ∀ n, n ≤ na s → WF (eArms s n) ∧ na (eArms s n) = na s) : ∃ J, f_X6_goRound I = some J ∧ RWo J (eRound s) := by
  have hn : na s ≤ 4 := (hk 0 (Nat.zero_le _)).1.1.2.1
  have key := loop_inv (fun fu j (I : IS) => f_X6_goRound_b2 fu (nI j) I) (na s) (fun j I => RWo I (eArms s j)) (fun J => RWo J (eRound s)) (fun fu I hI => by
    have c : nI (na s) ≤ nI (na s) := (nI_leI (by omega) (by omega)).mpr (Nat.le_refl _)
    have e6 : I 0 6 = nI (na s) := by
      have e := hI.2.2.2.2.1
      rw [(hk (na s) (Nat.le_refl _)).2] at e
      exact e
    have e8 : I 0 8 = rd (eArms s (na s)) := hI.2.2.2.2.2.2.1
    refine ⟨u2 I 0 8 (rd (eArms s (na s)) + 1), ?_, rwo_rd hI _⟩
    show f_X6_goRound_b2 (fu + 1) (nI (na s)) I = _
    rw [f_X6_goRound_b2, e6, if_pos c, e8]) (fun fu j I hj hI => by
    obtain ⟨w1, w2⟩ := hk j (by omega)
    obtain ⟨J, j1, j2⟩ := wor_arm hI w1 (a := j) (by omega) fu
    exact ⟨J, j2, j1⟩) (na s) 0 LF I (by omega) (by unfold LF; omega) h
  exact key
