/-! ===== the Model: sums ===== -/
theorem mt_ended {I : IS} {s : SP} (h : RMt I s) : f_X8_endedMany I = some (sm (fun t => if tf s 3 t < 3 then 0 else 1) (nT s)) := by
  have hT := h.2.1
  exact loop_up (fun fu j (x : Int32) => f_X8_endedMany_b4 fu x (nI j) I) (nT s) (fun j => sm (fun t => if tf s 3 t < 3 then 0 else 1) j) (fun fu => by
    show f_X8_endedMany_b4 (fu + 1) _ (nI (nT s)) I = _
    rw [f_X8_endedMany_b4, h.1, if_pos ((nI_leI (by omega) (by omega)).mpr (Nat.le_refl _))]) (fun fu j hj => by
    show f_X8_endedMany_b4 (fu + 1) _ (nI j) I = f_X8_endedMany_b4 fu (sm (fun t => if tf s 3 t < 3 then 0 else 1) j + (if tf s 3 j < 3 then 0 else 1)) (nI (j + 1)) I
    rw [f_X8_endedMany_b4, h.1, if_neg (nI_ge hj (by omega)), mt_isEnded h hj]
    by_cases c : tf s 3 j < 3
    · rw [if_pos c, some_bind, if_pos rfl, f_X8_endedMany_b26, nI_1]
    · rw [if_neg c, some_bind, if_neg z10, f_X8_endedMany_b26, nI_1]) (nT s) 0 LF (by omega) (by unfold LF; omega)
theorem mt_done {I : IS} {s : SP} (h : RMt I s) : f_X8_doneMany I = some (sm (fun t => if tf s 3 t = 3 then 1 else 0) (nT s)) := by
  have hT := h.2.1
  exact loop_up (fun fu j (x : Int32) => f_X8_doneMany_b4 fu x (nI j) I) (nT s) (fun j => sm (fun t => if tf s 3 t = 3 then 1 else 0) j) (fun fu => by
    show f_X8_doneMany_b4 (fu + 1) _ (nI (nT s)) I = _
    rw [f_X8_doneMany_b4, h.1, if_pos ((nI_leI (by omega) (by omega)).mpr (Nat.le_refl _))]) (fun fu j hj => by
    have e6 : I 6 j = tf s 3 j := h.2.2 3 (by omega) j hj
    show f_X8_doneMany_b4 (fu + 1) _ (nI j) I = f_X8_doneMany_b4 fu (sm (fun t => if tf s 3 t = 3 then 1 else 0) j + (if tf s 3 j = 3 then 1 else 0)) (nI (j + 1)) I
    rw [f_X8_doneMany_b4, h.1, if_neg (nI_ge hj (by omega)), if_pos (okI_nI (by omega) (by omega)), nI_clamp (by omega), e6]
    by_cases c : tf s 3 j = 3
    · rw [if_pos c, if_pos c, f_X8_doneMany_b28, nI_1]
    · rw [if_neg c, if_neg c, f_X8_doneMany_b28, nI_1]) (nT s) 0 LF (by omega) (by unfold LF; omega)
theorem mt_worths {I : IS} {s : SP} (h : RMt I s) : f_X8_worthAll I = some (sm (fun t => if tf s 3 t = 3 then tf s 2 t else 0) (nT s)) := by
  have hT := h.2.1
  exact loop_up (fun fu j (x : Int32) => f_X8_worthAll_b4 fu x (nI j) I) (nT s) (fun j => sm (fun t => if tf s 3 t = 3 then tf s 2 t else 0) j) (fun fu => by
    show f_X8_worthAll_b4 (fu + 1) _ (nI (nT s)) I = _
    rw [f_X8_worthAll_b4, h.1, if_pos ((nI_leI (by omega) (by omega)).mpr (Nat.le_refl _))]) (fun fu j hj => by
    have e6 : I 6 j = tf s 3 j := h.2.2 3 (by omega) j hj
    have e9 : I 9 j = tf s 2 j := h.2.2 2 (by omega) j hj
    show f_X8_worthAll_b4 (fu + 1) _ (nI j) I = f_X8_worthAll_b4 fu (sm (fun t => if tf s 3 t = 3 then tf s 2 t else 0) j + (if tf s 3 j = 3 then tf s 2 j else 0)) (nI (j + 1)) I
    rw [f_X8_worthAll_b4, h.1, if_neg (nI_ge hj (by omega)), if_pos (okI_nI (by omega) (by omega)), nI_clamp (by omega), e6]
    by_cases c : tf s 3 j = 3
    · rw [if_pos c, if_pos c, if_pos (okI_nI (by omega) (by omega)), e9, f_X8_worthAll_b33, nI_1]
    · rw [if_neg c, if_neg c, f_X8_worthAll_b33, nI_1]) (nT s) 0 LF (by omega) (by unfold LF; omega)
theorem mo_ofArms {W : Prop} {B : BS} {I : IS} {s : SP} (h : RMo W B I s) (hn : na s ≤ 4) (x : Int32) : f_X8_ofArms x I = some (if x = 2 then sm (af s 1) (na s) else sm (af s 2) (na s)) := by
  have e0 : I 0 0 = nI (na s) := h.2.2.2.2.2.1.1
  by_cases c : x = 2
  · rw [if_pos c]
    exact loop_up (fun fu j (v : Int32) => f_X8_ofArms_b4 fu x v (nI j) I) (na s) (fun j => sm (af s 1) j) (fun fu => by
      show f_X8_ofArms_b4 (fu + 1) x _ (nI (na s)) I = _
      rw [f_X8_ofArms_b4, e0, if_pos ((nI_leI (by omega) (by omega)).mpr (Nat.le_refl _))]) (fun fu j hj => by
      have e4 : I 4 j = af s 1 j := (h.2.1.2 j hj).1
      show f_X8_ofArms_b4 (fu + 1) x _ (nI j) I = f_X8_ofArms_b4 fu x (sm (af s 1) j + af s 1 j) (nI (j + 1)) I
      rw [f_X8_ofArms_b4, e0, if_neg (nI_ge hj (by omega)), if_pos c, if_pos (okI_nI (by omega) (by omega)), nI_clamp (by omega), e4, f_X8_ofArms_b33, nI_1]) (na s) 0 LF (by omega) (by unfold LF; omega)
  · rw [if_neg c]
    exact loop_up (fun fu j (v : Int32) => f_X8_ofArms_b4 fu x v (nI j) I) (na s) (fun j => sm (af s 2) j) (fun fu => by
      show f_X8_ofArms_b4 (fu + 1) x _ (nI (na s)) I = _
      rw [f_X8_ofArms_b4, e0, if_pos ((nI_leI (by omega) (by omega)).mpr (Nat.le_refl _))]) (fun fu j hj => by
      have e5 : I 5 j = af s 2 j := (h.2.1.2 j hj).2
      show f_X8_ofArms_b4 (fu + 1) x _ (nI j) I = f_X8_ofArms_b4 fu x (sm (af s 2) j + af s 2 j) (nI (j + 1)) I
      rw [f_X8_ofArms_b4, e0, if_neg (nI_ge hj (by omega)), if_neg c, if_pos (okI_nI (by omega) (by omega)), nI_clamp (by omega), e5, f_X8_ofArms_b33, nI_1]) (na s) 0 LF (by omega) (by unfold LF; omega)
/-! ===== the calls: image, undo, count, looked ===== -/
theorem gI2_one' {a n b n' : Nat} {q I : IS} (hq : ∀ j, n ≤ j → q j = zI2 a n b I j) : gI2 a n b n' q I = gI a n q I := by
  funext j
  unfold gI2 gI
  by_cases h : a ≤ j ∧ j < a + n
  · rw [if_pos h, if_pos h]
  · rw [if_neg h, if_neg h]
    by_cases h2 : b ≤ j ∧ j < b + n'
    · rw [if_pos h2, hq _ (by omega)]
      unfold zI2 o2
      rw [if_neg (by omega)]
      congr 1
      omega
    · rw [if_neg h2]
theorem become_at {I : IS} {s s0 : SP} (a b : Nat) (h : RWo (zI b I) s) (h0 : RWo (zI a I) s0) : ∃ q, f_X6_become (zI2 a 34 b I) = some q ∧ gI2 a 34 b 34 q I = gI a 34 q I ∧ RWo q (wLg s (lg s0)) := by
  obtain ⟨q, e1, e2, e3⟩ := wor_become (I := zI2 a 34 b I) (s := s) (s0 := s0) (rwo_congr h (fun k hk => by rw [zI2_hi]; rfl)) (rwo_congr h0 (fun k hk => by rw [zI2_lo hk]; rfl))
  exact ⟨q, e1, gI2_one' e3, e2⟩
theorem wf_lg {s : SP} (h : WF s) (l : List Int32) : WF (wLg s l) := h
theorem inv_of2 {Ic Ic' : IS} {Jc : JS} {Im Im' : IS} {Jm : JS} {s' si : SP} (hs : RWo (zI 1 Ic') s') (hw : WF s') (hm : RMo False BN Im' s') (hi : IRi Ic' Im' si) (ha : ∃ sa, RWo (zI 69 Ic') sa) (hx : ITx Ic Im) (hp : ITp Ic Jc Im Jm) (ec : ∀ j, 103 ≤ j → Ic' j = Ic j) (em : ∀ i, 22 < i → i ≠ 29 → i ≠ 30 → Im' i = Im i) (e38 : Im' 0 38 = Im 0 38) : INV Ic' Jc Im' Jm := by
  refine ⟨s', si, hs, hw, hm, hi, ha, ?_, fun t ht => ?_⟩
  · obtain ⟨l, l1, l2, l3, l4⟩ := hx
    refine ⟨l, l1, by rw [ec 103 (by omega)]; exact l2, by rw [e38]; exact l3, fun j hj => ?_⟩
    rw [ec 104 (by omega), em 23 (by omega) (by omega) (by omega)]
    exact l4 j hj
  · have := gTap_rng t
    have h := hp t ht
    unfold ITp1 at h ⊢
    rw [ec (gTap t) (by omega), em 35 (by omega) (by omega) (by omega), em 31 (by omega) (by omega) (by omega), em 32 (by omega) (by omega) (by omega)]
    exact h
theorem mo_32 {W : Prop} {I : IS} {s : SP} (h : RMo W BN I s) (v : Int32) : RMo W BN (u2 I 0 32 v) s := by
  obtain ⟨h1, h2, h3, h4, h5, h6, h7, h8⟩ := h
  have o : ∀ i, i ≠ 0 → u2 I 0 32 v i = I i := fun i hi => u2_oth _ _ _ hi
  have o0 : ∀ b, b ≠ 32 → u2 I 0 32 v 0 b = I 0 b := fun b hb => u2_ne _ _ (Or.inr hb)
  exact ⟨rmr_c h1 (o _ (by omega)) (o _ (by omega)) rfl, rma_c h2 (o _ (by omega)) (o _ (by omega)) (o _ (by omega)) rfl rfl, rmt_c h3 (o0 _ (by omega)) (fun i _ _ => o i (by omega)) rfl rfl, rme_c h4 (o0 _ (by omega)) (o _ (by omega)) rfl, rmp_c h5 ⟨o0 _ (by omega), o0 _ (by omega), o0 _ (by omega)⟩ (fun i _ _ => o i (by omega)) rfl, rmn_c h6 ⟨o0 _ (by omega), o0 _ (by omega), o0 _ (by omega)⟩ rfl rfl rfl, rml_c h7 ⟨o0 _ (by omega), o0 _ (by omega)⟩ rfl rfl, fun i f _ hf => (by cases hf), fun f hf => (by cases hf)⟩
theorem sc_image : SC_image INV := by
  intro Ic Jc Im Jm h _
  obtain ⟨s, si, h1, h2, h3, h4, h5, h6, h7⟩ := h
  obtain ⟨sa, ha⟩ := h5
  obtain ⟨q, q1, q2, q3⟩ := become_at 35 1 h1 h4.1
  obtain ⟨J, j1, j2, j3, j4, j5⟩ := mo_pack (mo_32 (mo_29 h3 0) 1) (A := 21) (c := 2) (Or.inr ⟨rfl, rfl⟩) rfl
  have eT : u2 (gI 35 34 q Ic) 0 5 1 45 8 = nI (nT s) := by
    rw [u2_oth _ _ _ (by omega), show gI 35 34 q Ic 45 = q 10 from gI_in (i := 10) (by omega)]
    exact q3.2.1.1
  have mT : J 0 6 = nI (nT s) := j2.2.2.1.1
  refine ⟨(nI (nT s), u2 (gI 35 34 q Ic) 0 5 1), (nI (nT s), J), ?_, ?_, rfl, ?_⟩
  · rw [f_X7_image, q1, some_bind, q2, eT]
  · rw [f_X8_image, j1, some_bind, mT]
  · have o1 : ∀ k, 1 ≤ k → k < 35 ∨ 69 ≤ k → u2 (gI 35 34 q Ic) 0 5 1 k = Ic k := fun k h1 h2 => by rw [u2_oth _ _ _ (by omega), gI_out (by omega)]
    refine inv_of2 (s' := s) (si := wLg s (lg si)) (rwo_congr h1 (fun k hk => o1 _ (by omega) (by omega))) h2 (mo_bn j2) ⟨?_, wf_lg h2 _, ?_, Or.inr ⟨?_, j3⟩⟩ ⟨sa, rwo_congr ha (fun k hk => o1 _ (by omega) (by omega))⟩ h6 h7 (fun j hj => o1 _ (by omega) (by omega)) (fun i h1 h2 h3 => ?_) ?_
    · refine rwo_congr q3 (fun k hk => ?_)
      show u2 (gI 35 34 q Ic) 0 5 1 (35 + k) = q k
      rw [u2_oth _ _ _ (by omega), gI_in hk]
    · show u2 (gI 35 34 q Ic) 0 5 1 0 5 = J 0 32
      rw [u2_eq, j5 32 (by omega) (by omega) (by omega) (by omega), u2_eq]
    · show J 0 32 = 1
      rw [j5 32 (by omega) (by omega) (by omega) (by omega), u2_eq]
    · show J i = _
      rw [j4 i (by omega) (by omega), u2_oth _ _ _ (by omega), u2_oth _ _ _ (by omega)]
    · show J 0 38 = _
      rw [j5 38 (by omega) (by omega) (by omega) (by omega), u2_ne _ _ (Or.inr (by omega)), u2_ne _ _ (Or.inr (by omega))]
theorem sc_undo : SC_undo INV := by
  intro Ic Jc Im Jm h _
  have hq := inv_q h
  obtain ⟨s, si, h1, h2, h3, h4, h5, h6, h7⟩ := h
  obtain ⟨sa, ha⟩ := h5
  have e32 : u2 Im 0 29 0 0 32 = Im 0 32 := u2_ne _ _ (Or.inr (by omega))
  rcases h4.2.2.2 with c | ⟨c, hk⟩
  · refine ⟨(-3, Ic), (-3, u2 Im 0 29 0), ?_, ?_, rfl, hq⟩
    · rw [f_X7_undo, h4.2.2.1, if_pos c]
    · rw [f_X8_undo, e32, if_pos c]
  · obtain ⟨q, q1, q2, q3⟩ := become_at 1 35 h4.1 h1
    have hk' : PKs (u2 Im 0 29 0 21) si := by
      rw [u2_oth _ _ _ (by omega)]
      exact hk
    obtain ⟨J, j1, j2, j3, j4⟩ := mo_unpack (mo_29 h3 0) (A := 21) (c := 2) (Or.inr ⟨rfl, rfl⟩) hk' h4.2.1.1.2.1
    have eT : gI 1 34 q Ic 11 8 = nI (nT si) := by
      rw [show gI 1 34 q Ic 11 = q 10 from gI_in (i := 10) (by omega)]
      exact q3.2.1.1
    have mT : J 0 6 = nI (nT si) := j2.2.2.1.1
    have n0 : ¬ Im 0 32 = 0 := by rw [c]; exact z10
    have j32 : J 0 32 = Im 0 32 := by rw [j4 32 (by omega) (by omega) (by omega) (by omega)]; exact e32
    have j21 : J 21 = Im 21 := by rw [j3 21 (by omega), u2_oth _ _ _ (by omega)]
    refine ⟨(nI (nT si), gI 1 34 q Ic), (nI (nT si), J), ?_, ?_, rfl, ?_⟩
    · rw [f_X7_undo, h4.2.2.1, if_neg n0, q1, some_bind, q2, eT]
    · rw [f_X8_undo, e32, if_neg n0, j1, some_bind, mT]
    · refine inv_of2 (s' := wLg si (lg s)) (si := si) (rwo_congr q3 (fun k hk => gI_in hk)) (wf_lg h4.2.1 _) (mo_bn (mo_untrack j2 (lg s))) ⟨rwo_congr h4.1 (fun k hk => gI_out (by omega)), h4.2.1, ?_, ?_⟩ ⟨sa, rwo_congr ha (fun k hk => gI_out (by omega))⟩ h6 h7 (fun j hj => gI_out (by omega)) (fun i h1 h2 h3 => ?_) ?_
      · show gI 1 34 q Ic 0 5 = J 0 32
        rw [gI_out (by omega), j32]
        exact h4.2.2.1
      · show J 0 32 = 0 ∨ J 0 32 = 1 ∧ PKs (J 21) si
        rw [j32, j21]
        exact h4.2.2.2
      · show J i = _
        rw [j3 i (by omega), u2_oth _ _ _ (by omega)]
      · show J 0 38 = _
        rw [j4 38 (by omega) (by omega) (by omega) (by omega), u2_ne _ _ (Or.inr (by omega))]
theorem sc_count : SC_count INV := by
  intro Ic Jc Im Jm h x
  have hq := inv_q h
  obtain ⟨s, si, h1, h2, h3, h4, h5, h6, h7⟩ := h
  have g3 := mo_29 h3 0
  have eT : Ic 11 8 = nI (nT s) := (c_tas h1).1
  have eE := tas_ended (c_tas h1)
  have p1 : Ic 26 2 = nI (tol s).1.length := h1.2.2.2.2.2.2.2.1.1
  have p2 : Ic 29 2 = nI (tol s).2.1.length := h1.2.2.2.2.2.2.2.2.1.1
  have p3 : Ic 32 2 = nI (tol s).2.2.length := h1.2.2.2.2.2.2.2.2.2.1
  have mE := mt_ended g3.2.2.1
  have m6 := g3.2.2.1.1
  have m18 := g3.2.2.2.2.1.1.1
  have m21 := g3.2.2.2.2.1.2.1.1
  have m24 := g3.2.2.2.2.1.2.2.1
  obtain ⟨l, l1, l2, l3, -⟩ := h6
  have m38 : u2 Im 0 29 0 0 38 = nI l.length := by rw [u2_ne _ _ (Or.inr (by omega))]; exact l3
  unfold f_X7_count f_X8_count
  rw [eE, eT, p1, p2, p3, l2, mE, m6, m18, m21, m24, m38]
  by_cases c0 : x = 0
  · rw [if_pos c0, if_pos c0]
    exact ⟨_, _, rfl, rfl, rfl, hq⟩
  · rw [if_neg c0, if_neg c0]
    by_cases c1 : x = 1
    · rw [if_pos c1, if_pos c1]
      exact ⟨_, _, rfl, rfl, rfl, hq⟩
    · rw [if_neg c1, if_neg c1]
      by_cases c2 : x = 2
      · rw [if_pos c2, if_pos c2]
        exact ⟨_, _, rfl, rfl, rfl, hq⟩
      · rw [if_neg c2, if_neg c2]
        by_cases c3 : x = 3
        · rw [if_pos c3, if_pos c3]
          exact ⟨_, _, rfl, rfl, rfl, hq⟩
        · rw [if_neg c3, if_neg c3]
          by_cases c4 : x = 4
          · rw [if_pos c4, if_pos c4]
            exact ⟨_, _, rfl, rfl, rfl, hq⟩
          · rw [if_neg c4, if_neg c4]
            by_cases c5 : x = 5
            · rw [if_pos c5, if_pos c5]
              exact ⟨_, _, rfl, rfl, rfl, hq⟩
            · rw [if_neg c5, if_neg c5]
              exact ⟨_, _, rfl, rfl, rfl, hq⟩
