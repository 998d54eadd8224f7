/-! ===== the call: of ===== -/
theorem tas_span {I : IS} {s : SP} (h : RTa I (nT s) (tf s)) (hw : WFp (nT s) (tf s)) {x : Nat} (hx : x < nT s) : ∃ q, f_X4_span (nI x) I = some (tf s 0 x + ls s (nT s) x, q) ∧ RTa q (nT s) (tf s) := by
  have hT := h.2.1
  have fin : ∀ J : IS, (∀ i, i ≠ 8 → J i = I i) → RTa J (nT s) (tf s) := fun J e => ⟨by rw [e 0 (by omega)]; exact h.1, hT, fun f hf t ht => by rw [e (f + 1) (by omega)]; exact h.2.2 f hf t ht⟩
  have cx : okI (nI x) 32 = true := okI_nI (by omega) (by omega)
  have second : ∀ I1 : IS, (∀ i, i ≠ 8 → I1 i = I i) → (∀ y, x ≤ y → y < nT s → I1 8 y = 0) → ∃ q, f_X4_span_b30 LF (nI x) (nI (nT s) - 1) I1 = some q ∧ q.1 = tf s 0 x + ls s (nT s) x ∧ ∀ i, i ≠ 8 → q.2 i = I i := fun I1 g1 g2 => by
    have key := loop_inv (fun fu d (J : IS) => f_X4_span_b30 fu (nI x) (nI (nT s - 1 - d)) J) (nT s - 1 - x) (fun d J => (∀ i, i ≠ 8 → J i = I i) ∧ ∀ y, x ≤ y → y < nT s → J 8 y = ls s d y) (fun q => q.1 = tf s 0 x + ls s (nT s) x ∧ ∀ i, i ≠ 8 → q.2 i = I i) (fun fu J hJ => by
      obtain ⟨j1, j2⟩ := hJ
      have e1 : J 1 x = tf s 0 x := by rw [j1 1 (by omega)]; exact h.2.2 0 (by omega) x hx
      have st := ls_stay hw hT hx (nT s - (nT s - 1 - x)) (by omega)
      rw [show nT s - 1 - x + (nT s - (nT s - 1 - x)) = nT s by omega] at st
      refine ⟨(tf s 0 x + ls s (nT s - 1 - x) x, J), ?_, by rw [st], j1⟩
      show f_X4_span_b30 (fu + 1) (nI x) (nI (nT s - 1 - (nT s - 1 - x))) J = _
      rw [show nT s - 1 - (nT s - 1 - x) = x by omega, f_X4_span_b30, if_pos ((nI_leI (by omega) (by omega)).mpr (Nat.le_refl _)), if_pos cx, if_pos cx, nI_clamp (by omega), e1, j2 x (Nat.le_refl _) hx]) (fun fu d J hd hJ => by
      obtain ⟨j1, j2⟩ := hJ
      have lsN := fun (q : prn (tf s) (nT s - 1 - d) = none) => ls_none q
      have lsS := fun (p : Nat) (q : prn (tf s) (nT s - 1 - d) = some p) => ls_some q
      have et' : nI (nT s - 1 - d) + (-1) = nI (nT s - 1 - (d + 1)) := by
        have := nI_s1 (nT s - 1 - (d + 1))
        rw [show nT s - 1 - (d + 1) + 1 = nT s - 1 - d by omega, Int32.sub_eq_add_neg] at this
        exact this
      generalize ht : nT s - 1 - d = t at et' lsN lsS
      have htT : t < nT s := by omega
      have hxt : x < t := by omega
      have co : okI (nI t) 32 = true := okI_nI (by omega) (by omega)
      have c1 : ¬ nI t ≤ nI x := nI_ge hxt (by omega)
      have e5 : J 5 t = tf s 4 t := by rw [j1 5 (by omega)]; exact h.2.2 4 (by omega) t htT
      have e1 : J 1 t = tf s 0 t := by rw [j1 1 (by omega)]; exact h.2.2 0 (by omega) t htT
      have pe := prn_enc hw hT htT
      show ∃ J', _ ∧ f_X4_span_b30 (fu + 1) (nI x) (nI t) J = f_X4_span_b30 fu (nI x) (nI (nT s - 1 - (d + 1))) J'
      have skip : (tf s 4 t < nI x) → f_X4_span_b30 (fu + 1) (nI x) (nI t) J = f_X4_span_b30 fu (nI x) (nI (nT s - 1 - (d + 1))) J := fun q => by
        rw [f_X4_span_b30, if_neg c1, if_pos co, nI_clamp (by omega), e5, if_pos q, f_X4_span_b75, et']
      cases hpr : prn (tf s) t with
      | none =>
        have e5' : tf s 4 t = -5 := by rw [pe.1, hpr]; rfl
        refine ⟨J, ⟨j1, fun y h1 h2 => by rw [lsN hpr]; exact j2 y h1 h2⟩, skip ?_⟩
        rw [e5', lt_iff32, tnI (by omega)]
        have : (-5 : Int32).toInt = -5 := rfl
        omega
      | some p =>
        have ep : tf s 4 t = nI p := by rw [pe.1, hpr]; rfl
        have hpt := pe.2 p hpr
        by_cases hpx : p < x
        · refine ⟨J, ⟨j1, fun y h1 h2 => by rw [lsS p hpr, if_neg (by omega)]; exact j2 y h1 h2⟩, skip ?_⟩
          rw [ep]
          exact (nI_ltI (by omega) (by omega)).mpr hpx
        · have cp : okI (nI p) 32 = true := okI_nI (by omega) (by omega)
          have c2 : ¬ nI p < nI x := fun q => hpx ((nI_ltI (by omega) (by omega)).mp q)
          refine ⟨u2 J 8 p (if ls s d p < tf s 0 t + ls s d t then tf s 0 t + ls s d t else ls s d p), ⟨fun i hi => by rw [u2_oth _ _ _ hi]; exact j1 i hi, fun y h1 h2 => ?_⟩, ?_⟩
          · rw [lsS p hpr]
            by_cases hyp : y = p
            · rw [hyp, u2_eq, if_pos rfl]
            · rw [u2_ne _ _ (Or.inr hyp), if_neg hyp]
              exact j2 y h1 h2
          · rw [f_X4_span_b30, if_neg c1, if_pos co, nI_clamp (by omega), e5, ep, if_neg c2, if_pos cp, if_pos co, if_pos co, if_pos cp, nI_clamp (by omega), e1, j2 p (by omega) (by omega), j2 t (by omega) htT, some_bind, f_X4_span_b75, et']) (nT s - 1 - x) 0 LF I1 (by omega) (by unfold LF; omega) ⟨g1, fun y h1 h2 => g2 y h1 h2⟩
    have ee : nI (nT s) - 1 = nI (nT s - 1) := by
      have := nI_s1 (nT s - 1)
      rw [show nT s - 1 + 1 = nT s by omega] at this
      exact this
    rw [ee]
    exact key
  have key := loop_inv (fun fu j (J : IS) => f_X4_span_b2 fu (nI x) (nI j) J) (nT s) (fun j J => (∀ i, i ≠ 8 → J i = I i) ∧ ∀ y, x ≤ y → y < j → J 8 y = 0) (fun q => q.1 = tf s 0 x + ls s (nT s) x ∧ ∀ i, i ≠ 8 → q.2 i = I i) (fun fu J hJ => by
    have e8 : J 0 8 = nI (nT s) := by rw [hJ.1 0 (by omega)]; exact h.1
    obtain ⟨q, q1, q2⟩ := second J hJ.1 hJ.2
    refine ⟨q, ?_, q2⟩
    show f_X4_span_b2 (fu + 1) (nI x) (nI (nT s)) J = _
    rw [f_X4_span_b2, e8, if_pos ((nI_leI (by omega) (by omega)).mpr (Nat.le_refl _)), q1]) (fun fu j J hj hJ => by
    have e8 : J 0 8 = nI (nT s) := by rw [hJ.1 0 (by omega)]; exact h.1
    refine ⟨u2 J 8 j 0, ⟨fun i hi => by rw [u2_oth _ _ _ hi]; exact hJ.1 i hi, fun y h1 h2 => ?_⟩, ?_⟩
    · by_cases hyj : y = j
      · rw [hyj, u2_eq]
      · rw [u2_ne _ _ (Or.inr hyj)]
        exact hJ.2 y h1 (by omega)
    · show f_X4_span_b2 (fu + 1) (nI x) (nI j) J = _
      rw [f_X4_span_b2, e8, if_neg (nI_ge hj (by omega)), if_pos (okI_nI (by omega) (by omega)), nI_clamp (by omega), nI_1]) (nT s - x) x LF I (by omega) (by unfold LF; omega) ⟨fun _ _ => rfl, fun y h1 h2 => by omega⟩
  obtain ⟨⟨v, q⟩, k1, k2, k3⟩ := key
  have k2 : v = _ := k2
  subst k2
  exact ⟨q, k1, fin q k3⟩
theorem tas_all {I : IS} {s : SP} (h : RTa I (nT s) (tf s)) (hw : WFp (nT s) (tf s)) (hd : WFd (nT s) (tf s)) {x : Nat} (hx : x < nT s) : f_X4_workOfAll (nI x) I = some (tf s 0 x + al s 0 x) := by
  have hT := h.2.1
  have key := loop_up (fun fu j (v : Int32) => f_X4_workOfAll_b11 fu (nI x) v (nI j) I) (nT s) (fun j => tf s 0 x + sm (fun u => if bel s x u = true then tf s 0 u else 0) j) (r := some (tf s 0 x + al s 0 x)) (fun fu => by
    show f_X4_workOfAll_b11 (fu + 1) (nI x) _ (nI (nT s)) I = _
    rw [f_X4_workOfAll_b11, h.1, if_pos ((nI_leI (by omega) (by omega)).mpr (Nat.le_refl _)), al_zero hw hT]) (fun fu j hj => by
    show f_X4_workOfAll_b11 (fu + 1) (nI x) _ (nI j) I = f_X4_workOfAll_b11 fu (nI x) (tf s 0 x + (sm (fun u => if bel s x u = true then tf s 0 u else 0) j + (if bel s x j = true then tf s 0 j else 0))) (nI (j + 1)) I
    obtain ⟨r, r1, r2⟩ := tas_isBelow h hw hd hj hx
    rcases r2 with ⟨rfl, r2⟩ | ⟨rfl, r2⟩
    · rw [f_X4_workOfAll_b11, h.1, if_neg (nI_ge hj (by omega)), r1, some_bind, if_neg z10, if_pos (okI_nI (by omega) (by omega)), nI_clamp (by omega), rta_get h hj 0 (by omega), f_X4_workOfAll_b37, nI_1, if_pos (bel_iff.mpr r2), Int32.add_assoc]
    · rw [f_X4_workOfAll_b11, h.1, if_neg (nI_ge hj (by omega)), r1, some_bind, if_pos rfl, f_X4_workOfAll_b37, nI_1, if_neg (fun q => r2 (bel_iff.mp q)), Int32.add_zero]) (nT s - (x + 1)) (x + 1) LF (by omega) (by unfold LF; omega)
  have low : sm (fun u => if bel s x u = true then tf s 0 u else 0) (x + 1) = 0 := sm_low _ (fun k hk => if_neg (fun q => by
    have := bel_gt hw hT (t := k) (by omega) q
    omega))
  rw [low, Int32.add_zero] at key
  rw [f_X4_workOfAll, if_pos (okI_nI (by omega) (by omega)), nI_clamp (by omega), rta_get h hx 0 (by omega), nI_1]
  exact key
theorem mt_many {I : IS} {s : SP} (h : RMt I s) (p : Nat) : f_X8_manyIn (nI p) I = some (sm (fun t => if tf s 4 t = nI p then 1 else 0) (nT s)) := by
  have hT := h.2.1
  exact loop_up (fun fu j (x : Int32) => f_X8_manyIn_b4 fu (nI p) x (nI j) I) (nT s) (fun j => sm (fun t => if tf s 4 t = nI p then 1 else 0) j) (fun fu => by
    show f_X8_manyIn_b4 (fu + 1) (nI p) _ (nI (nT s)) I = _
    rw [f_X8_manyIn_b4, h.1, if_pos ((nI_leI (by omega) (by omega)).mpr (Nat.le_refl _))]) (fun fu j hj => by
    have e10 : I 10 j = tf s 4 j := h.2.2 4 (by omega) j hj
    show f_X8_manyIn_b4 (fu + 1) (nI p) _ (nI j) I = f_X8_manyIn_b4 fu (nI p) (sm (fun t => if tf s 4 t = nI p then 1 else 0) j + (if tf s 4 j = nI p then 1 else 0)) (nI (j + 1)) I
    rw [f_X8_manyIn_b4, h.1, if_neg (nI_ge hj (by omega)), if_pos (okI_nI (by omega) (by omega)), nI_clamp (by omega), e10]
    by_cases c : tf s 4 j = nI p
    · rw [if_pos c, if_pos c, f_X8_manyIn_b28, nI_1]
    · rw [if_neg c, if_neg c, f_X8_manyIn_b28, nI_1]) (nT s) 0 LF (by omega) (by unfold LF; omega)
theorem both_depth {I M : IS} {s : SP} (h : RTa I (nT s) (tf s)) (hm : RMt M s) (hw : WFp (nT s) (tf s)) (hd : WFd (nT s) (tf s)) {x : Nat} (hx : x < nT s) : ∃ r, f_X4_depth (nI x) I = some r ∧ f_X8_depthOf (nI x) M = some r := by
  have hT := h.2.1
  have cx : okI (nI x) 32 = true := okI_nI (by omega) (by omega)
  have e5 : ∀ t, t < nT s → I 5 t = encO (prn (tf s) t) := fun t ht => (rta_get h ht 4 (by omega)).trans (prn_enc hw hT ht).1
  have e10 : ∀ t, t < nT s → M 10 t = encO (prn (tf s) t) := fun t ht => (hm.2.2 4 (by omega) t ht).trans (prn_enc hw hT ht).1
  have c5 : (-5 : Int32) < 0 := by decide
  have key := loop2r (fun fu j (_ : Unit) => f_X4_depth_b9 fu (nI j) (encO (anc (tf s) (j + 1) x)) I) (fun fu j (_ : Unit) => f_X8_depthOf_b9 fu (nI j) (encO (anc (tf s) (j + 1) x)) M) 4 (fun _ _ _ => True) (fun r q => r = q) (fun fu fv _ _ _ => by
    refine ⟨nI 4, nI 4, ?_, ?_, rfl⟩
    · show f_X4_depth_b9 (fu + 1) (nI 4) _ I = _
      rw [f_X4_depth_b9, if_pos (by decide), f_X4_depth_b35]
    · show f_X8_depthOf_b9 (fv + 1) (nI 4) (encO (anc (tf s) (4 + 1) x)) M = _
      rw [show anc (tf s) (4 + 1) x = none from hd x hx, f_X8_depthOf_b9, show encO none = -5 from rfl, if_pos c5]) (fun fu fv j _ _ hj _ => by
    have c4 : ¬ (4 : Int32) ≤ nI j := nI_ge (b := 4) hj (by omega)
    cases ha : anc (tf s) (j + 1) x with
    | none =>
      left
      refine ⟨nI j, nI j, ?_, ?_, rfl⟩
      · show f_X4_depth_b9 (fu + 1) (nI j) (encO none) I = _
        rw [f_X4_depth_b9, if_neg c4, show encO none = -5 from rfl, tas_has_neg c5, some_bind, if_pos rfl, f_X4_depth_b35]
      · show f_X8_depthOf_b9 (fv + 1) (nI j) (encO none) M = _
        rw [f_X8_depthOf_b9, show encO none = -5 from rfl, if_pos c5]
    | some q =>
      right
      have hq := anc_lt hw hT (j + 1) x q hx ha
      have cq : okI (nI q) 32 = true := okI_nI (by omega) (by omega)
      have en : encO (prn (tf s) q) = encO (anc (tf s) (j + 1 + 1) x) := by rw [anc_succ, ha]; rfl
      refine ⟨(), (), trivial, ?_, ?_⟩
      · show f_X4_depth_b9 (fu + 1) (nI j) (encO (some q)) I = f_X4_depth_b9 fu (nI (j + 1)) (encO (anc (tf s) (j + 1 + 1) x)) I
        rw [f_X4_depth_b9, if_neg c4, show encO (some q) = nI q from rfl, tas_has_in h (by omega), some_bind, if_neg z10, if_pos cq, nI_clamp (by omega), e5 q (by omega), en, nI_1]
      · show f_X8_depthOf_b9 (fv + 1) (nI j) (encO (some q)) M = f_X8_depthOf_b9 fv (nI (j + 1)) (encO (anc (tf s) (j + 1 + 1) x)) M
        rw [f_X8_depthOf_b9, show encO (some q) = nI q from rfl, if_neg (nI_lt0 (by omega)), if_pos cq, nI_clamp (by omega), e10 q (by omega), en, nI_1]) 4 0 LF LF () () (by omega) (by unfold LF; omega) (by unfold LF; omega) trivial
  obtain ⟨r, q, k1, k2, k3⟩ := key
  have e1 : encO (anc (tf s) (0 + 1) x) = encO (prn (tf s) x) := by rw [anc_succ]; rfl
  refine ⟨r, ?_, ?_⟩
  · rw [f_X4_depth, if_pos cx, nI_clamp (by omega), e5 x hx, ← e1]
    exact k1
  · rw [f_X8_depthOf, if_pos cx, nI_clamp (by omega), e10 x hx, ← e1, k3]
    exact k2
/-- the last arm of which P holds, if any -/
def lastOf (n : Nat) (P : Nat → Prop) (x : Int32) : Prop := (x = -5 ∧ ∀ a, a < n → ¬ P a) ∨ ∃ a, a < n ∧ x = nI a ∧ P a
theorem one_arm {n : Nat} {P : Nat → Prop} (hu : ∀ a b, P a → P b → a = b) {r r' : Int32} (h : isArmOf n P r) (h' : lastOf n P r') : r = r' := by
  rcases h with ⟨h1, h2⟩ | ⟨a, a1, a2, a3, -⟩
  · rcases h' with ⟨g1, g2⟩ | ⟨b, b1, b2, b3⟩
    · rw [h1, g1]
    · exact absurd b3 (h2 b b1)
  · rcases h' with ⟨g1, g2⟩ | ⟨b, b1, b2, b3⟩
    · exact absurd a3 (g2 a a1)
    · rw [a2, b2, hu a b a3 b3]
theorem mo_worked {W : Prop} {B : BS} {I : IS} {s : SP} (h : RMo W B I s) (hn : na s ≤ 4) (x : Int32) : ∃ r, f_X8_workedBy x I = some r ∧ lastOf (na s) (fun a => af s 0 a = x) r := by
  have e0 : I 0 0 = nI (na s) := h.2.2.2.2.2.1.1
  exact loop_inv (fun fu j (v : Int32) => f_X8_workedBy_b5 fu x v (nI j) I) (na s) (fun j v => lastOf j (fun a => af s 0 a = x) v) (fun r => lastOf (na s) (fun a => af s 0 a = x) r) (fun fu v hv => by
    refine ⟨v, ?_, hv⟩
    show f_X8_workedBy_b5 (fu + 1) x v (nI (na s)) I = _
    rw [f_X8_workedBy_b5, e0, if_pos ((nI_leI (by omega) (by omega)).mpr (Nat.le_refl _))]) (fun fu j v hj hv => by
    have e3 : I 3 j = af s 0 j := h.2.1.1 j (by omega)
    have co : okI (nI j) 4 = true := okI_nI (by omega) (by omega)
    show ∃ v', _ ∧ f_X8_workedBy_b5 (fu + 1) x v (nI j) I = f_X8_workedBy_b5 fu x v' (nI (j + 1)) I
    by_cases c : af s 0 j = x
    · refine ⟨nI j, Or.inr ⟨j, by omega, rfl, c⟩, ?_⟩
      rw [f_X8_workedBy_b5, e0, if_neg (nI_ge hj (by omega)), if_pos co, nI_clamp (by omega), e3, if_pos c, f_X8_workedBy_b28, nI_1]
    · refine ⟨v, ?_, ?_⟩
      · rcases hv with ⟨v1, v2⟩ | ⟨a, a1, a2, a3⟩
        · refine Or.inl ⟨v1, fun a ha => ?_⟩
          by_cases haj : a = j
          · rw [haj]
            exact c
          · exact v2 a (by omega)
        · exact Or.inr ⟨a, by omega, a2, a3⟩
      · rw [f_X8_workedBy_b5, e0, if_neg (nI_ge hj (by omega)), if_pos co, nI_clamp (by omega), e3, if_neg c, f_X8_workedBy_b28, nI_1]) (na s) 0 LF (-5) (by omega) (by unfold LF; omega) (Or.inl ⟨rfl, fun a ha => absurd ha (Nat.not_lt_zero a)⟩)
theorem mo_rowOf {W : Prop} {B : BS} {I : IS} {s : SP} (h : RMo W B I s) (hn : na s ≤ 4) (x : Int32) : ∃ r, f_X8_rowOf x I = some r ∧ lastOf (na s) (fun a => x ∈ rw_ s a) r := by
  have e0 : I 0 0 = nI (na s) := h.2.2.2.2.2.1.1
  exact loop_inv (fun fu j (v : Int32) => f_X8_rowOf_b5 fu x v (nI j) I) (na s) (fun j v => lastOf j (fun a => x ∈ rw_ s a) v) (fun r => lastOf (na s) (fun a => x ∈ rw_ s a) r) (fun fu v hv => by
    refine ⟨v, ?_, hv⟩
    show f_X8_rowOf_b5 (fu + 1) x v (nI (na s)) I = _
    rw [f_X8_rowOf_b5, e0, if_pos ((nI_leI (by omega) (by omega)).mpr (Nat.le_refl _))]) (fun fu j v hj hv => by
    obtain ⟨r1, r2, r3⟩ := h.1 j (by omega)
    have co : okI (nI j) 4 = true := okI_nI (by omega) (by omega)
    have key := loop_to (fun gu k (w : Int32) => f_X8_rowOf_b16 (f_X8_rowOf_b5 fu) gu x w (nI j) (nI k) I) (fun w => f_X8_rowOf_b5 fu x w (nI (j + 1)) I) (rw_ s j).length (fun k w => (w = nI j ∧ x ∈ (rw_ s j).take k) ∨ (w = v ∧ x ∉ (rw_ s j).take k)) (fun w => (w = nI j ∧ x ∈ rw_ s j) ∨ (w = v ∧ x ∉ rw_ s j)) (fun gu w hw => by
      rw [List.take_length] at hw
      refine ⟨w, hw, ?_⟩
      show f_X8_rowOf_b16 (f_X8_rowOf_b5 fu) (gu + 1) x w (nI j) (nI (rw_ s j).length) I = _
      rw [f_X8_rowOf_b16, if_pos co, nI_clamp (by omega), r1, if_pos ((nI_leI (by omega) (by omega)).mpr (Nat.le_refl _)), nI_1]) (fun gu k w hk hw => by
      have ei : (32 : Int32) * nI j + nI k = nI (32 * j + k) := by rw [nI_32m, nI_add]
      have ek := r3 k hk
      have htk : (rw_ s j).take (k + 1) = (rw_ s j).take k ++ [I 2 (32 * j + k)] := by
        rw [List.take_succ, ek]
        rfl
      show ∃ w', _ ∧ f_X8_rowOf_b16 (f_X8_rowOf_b5 fu) (gu + 1) x w (nI j) (nI k) I = f_X8_rowOf_b16 (f_X8_rowOf_b5 fu) gu x w' (nI j) (nI (k + 1)) I
      rw [htk]
      by_cases c : I 2 (32 * j + k) = x
      · refine ⟨nI j, Or.inl ⟨rfl, List.mem_append.mpr (Or.inr (List.mem_singleton.mpr c.symm))⟩, ?_⟩
        rw [f_X8_rowOf_b16, if_pos co, nI_clamp (by omega), r1, if_neg (nI_ge hk (by omega)), ei, if_pos (okI_nI (by omega) (by omega)), nI_clamp (by omega), if_pos c, f_X8_rowOf_b48, nI_1]
      · refine ⟨w, ?_, ?_⟩
        · rcases hw with ⟨w1, w2⟩ | ⟨w1, w2⟩
          · exact Or.inl ⟨w1, List.mem_append.mpr (Or.inl w2)⟩
          · refine Or.inr ⟨w1, fun q => ?_⟩
            rcases List.mem_append.mp q with q | q
            · exact w2 q
            · exact c (List.mem_singleton.mp q).symm
        · rw [f_X8_rowOf_b16, if_pos co, nI_clamp (by omega), r1, if_neg (nI_ge hk (by omega)), ei, if_pos (okI_nI (by omega) (by omega)), nI_clamp (by omega), if_neg c, f_X8_rowOf_b48, nI_1]) (rw_ s j).length 0 LF v (by omega) (by unfold LF; omega) (Or.inr ⟨rfl, fun q => by cases q⟩)
    obtain ⟨w, w1, w2⟩ := key
    refine ⟨w, ?_, ?_⟩
    · rcases w1 with ⟨q1, q2⟩ | ⟨q1, q2⟩
      · exact Or.inr ⟨j, by omega, q1, q2⟩
      · rw [q1]
        rcases hv with ⟨v1, v2⟩ | ⟨a, a1, a2, a3⟩
        · refine Or.inl ⟨v1, fun a ha => ?_⟩
          by_cases haj : a = j
          · rw [haj]
            exact q2
          · exact v2 a (by omega)
        · exact Or.inr ⟨a, by omega, a2, a3⟩
    · show f_X8_rowOf_b5 (fu + 1) x v (nI j) I = _
      rw [f_X8_rowOf_b5, e0, if_neg (nI_ge hj (by omega))]
      exact w2) (na s) 0 LF (-5) (by omega) (by unfold LF; omega) (Or.inl ⟨rfl, fun a ha => absurd ha (Nat.not_lt_zero a)⟩)
theorem sc_of : SC_of INV := by
  intro Ic Jc Im Jm h x y
  have hq := inv_q h
  obtain ⟨s, si, h1, h2, h3, h4, h5, h6, h7⟩ := h
  have hT := h2.1.2.2
  have hN := h2.1.2.1
  have g3 := mo_29 (mo_b0 h3) 0
  have hTa := c_tas h1
  have hh := c_has hTa x
  have ht := mt_isTask g3.2.2.1 x
  have mF : ¬ ((0 : Int32) ≤ y ∧ y ≤ 11) → f_X8_in y.toInt64 (0 : Int64) (11 : Int64) = some 0 := m_inF y 0 11
  have mT : ((0 : Int32) ≤ y ∧ y ≤ 11) → f_X8_in y.toInt64 (0 : Int64) (11 : Int64) = some 1 := m_inT y 0 11
  by_cases c : x < 0 ∨ nI (nT s) ≤ x
  · rw [if_pos c] at hh ht
    refine ⟨(-1, Ic), (-1, u2 Im 0 29 0), ?_, ?_, rfl, hq⟩
    · rw [f_X7_of, hh, some_bind, if_pos rfl]
    · rw [f_X8_of, ht, some_bind, if_pos rfl, f_X8_of_b25]
  · rw [if_neg c] at hh ht
    obtain ⟨t, htT, rfl⟩ := ix_of (by omega) c
    have ct : okI (nI t) 32 = true := okI_nI (by omega) (by omega)
    have cf : ∀ f, f < 7 → Ic (11 + (f + 1)) t = tf s f t := fun f hf => rta_get hTa htT f hf
    have mf : ∀ f, f < 7 → u2 Im 0 29 0 (mid f) t = tf s f t := fun f hf => g3.2.2.1.2.2 f hf t htT
    have c12 : Ic 12 t = tf s 0 t := cf 0 (by omega)
    have c13 : Ic 13 t = tf s 1 t := cf 1 (by omega)
    have c14 : Ic 14 t = tf s 2 t := cf 2 (by omega)
    have c15 : Ic 15 t = tf s 3 t := cf 3 (by omega)
    have c16 : Ic 16 t = tf s 4 t := cf 4 (by omega)
    have c17 : Ic 17 t = tf s 5 t := cf 5 (by omega)
    have m7 : u2 Im 0 29 0 7 t = tf s 0 t := mf 0 (by omega)
    have m8 : u2 Im 0 29 0 8 t = tf s 1 t := mf 1 (by omega)
    have m9 : u2 Im 0 29 0 9 t = tf s 2 t := mf 2 (by omega)
    have m6 : u2 Im 0 29 0 6 t = tf s 3 t := mf 3 (by omega)
    have m10 : u2 Im 0 29 0 10 t = tf s 4 t := mf 4 (by omega)
    obtain ⟨L, l1, l2, l3⟩ := m_lay g3 (B0_n (by omega)) (B0_n (by omega)) (B0_n (by omega)) h2
    have hL : INV Ic Jc L Jm := inv_of h1 h2 l2 h4 h5 h6 h7 (fun _ _ => rfl)
    have L11 : L 11 t = tf s 5 t := l2.2.2.1.2.2 5 (by omega) t htT
    obtain ⟨L29, L30⟩ := l3 t htT
    obtain ⟨Q, q1, q2⟩ := tas_span hTa (wf_p h2) htT
    have aq := tas_all hTa (wf_p h2) (wf_d h2) htT
    obtain ⟨dp, d1, d2⟩ := both_depth hTa l2.2.2.1 (wf_p h2) (wf_d h2) htT
    obtain ⟨wa, w1, w2⟩ := wor_armAt h1 hN (nI t)
    obtain ⟨wa', w1', w2'⟩ := mo_worked l2 hN (nI t)
    have we : wa = wa' := one_arm (fun a b ha hb => h2.2.2.1.2.1 a b (ha.trans hb.symm) (by rw [ha]; exact m5_ne (by omega))) w2 w2'
    obtain ⟨ra, r1, r2⟩ := wor_armRow h1 hN (nI t)
    obtain ⟨ra', r1', r2'⟩ := mo_rowOf l2 hN (nI t)
    have re : ra = ra' := one_arm (fun a b ha hb => h2.2.1.2.1 a b _ ha hb) r2 r2'
    have hc : f_X7_of (nI t) y Ic = (if y = 0 then some (tf s 3 t, Ic) else if y = 1 then some (tf s 0 t, Ic) else if y = 2 then some (tf s 1 t, Ic) else if y = 3 then some (tf s 2 t, Ic) else if y = 4 then some (tf s 4 t, Ic) else if y = 5 then some (sm (fun u => if tf s 4 u = nI t then 1 else 0) (nT s), Ic) else if y = 6 then some (tf s 5 t, Ic) else if y = 7 then some (tf s 0 t + ls s (nT s) t, gI 11 9 Q Ic) else if y = 8 then some (tf s 0 t + al s 0 t, Ic) else if y = 9 then some (dp, Ic) else if y = 10 then some (wa, Ic) else if y = 11 then some (ra, Ic) else some (-1, Ic)) := by
      rw [f_X7_of, hh, some_bind, if_neg z10, if_pos ct, nI_clamp (by omega), c15, if_pos ct, c12, if_pos ct, c13, if_pos ct, c14, if_pos ct, c16, tas_in hTa (wf_p h2) htT, some_bind, if_pos ct, c17, q1, some_bind, aq, some_bind, d1, some_bind, w1, some_bind, r1, some_bind]
    have htr : f_X8_treeOf (nI t) y (u2 Im 0 29 0) = (if y = 6 then some (tf s 5 t, L) else if y = 7 then some (tf s 0 t + ls s (nT s) t, L) else if y = 8 then some (tf s 0 t + al s 0 t, L) else if y = 9 then some (dp, L) else if y = 10 then some (wa, L) else some (ra, L)) := by
      rw [f_X8_treeOf, l1, some_bind, if_pos ct, nI_clamp (by omega), L11, if_pos ct, L29, if_pos ct, L30, d2, some_bind, w1', some_bind, r1', some_bind, we, re]
    have hm : ((0 : Int32) ≤ y ∧ y ≤ 11) → f_X8_of (nI t) y Im = (if y = 0 then some (tf s 3 t, u2 Im 0 29 0) else if y = 1 then some (tf s 0 t, u2 Im 0 29 0) else if y = 2 then some (tf s 1 t, u2 Im 0 29 0) else if y = 3 then some (tf s 2 t, u2 Im 0 29 0) else if y = 4 then some (tf s 4 t, u2 Im 0 29 0) else if y = 5 then some (sm (fun u => if tf s 4 u = nI t then 1 else 0) (nT s), u2 Im 0 29 0) else ((f_X8_treeOf (nI t) y (u2 Im 0 29 0)).bind fun q20 => some (q20.1, q20.2))) := fun q => by
      rw [f_X8_of, ht, some_bind, if_neg z10, mT q, some_bind, if_neg z10, if_pos ct, nI_clamp (by omega), m6, if_pos ct, m7, if_pos ct, m8, if_pos ct, m9, if_pos ct, m10, mt_many g3.2.2.1, some_bind]
    have hS : INV (gI 11 9 Q Ic) Jc L Jm := by
      obtain ⟨sa, h5'⟩ := h5
      refine inv_of (s' := s) ?_ h2 l2 h4 ⟨sa, rwo_congr h5' (fun k hk => gI_out (by omega))⟩ h6 h7 (fun j hj => gI_out (by omega))
      rw [zI_gI (e := 1) (e' := 10)]
      exact rwo_gtas h1 q2
    rw [hc]
    by_cases y0 : y = 0
    · rw [hm (by rw [y0]; decide), if_pos y0, if_pos y0]
      exact ⟨_, _, rfl, rfl, rfl, hq⟩
    · by_cases y1 : y = 1
      · rw [hm (by rw [y1]; decide), if_neg y0, if_neg y0, if_pos y1, if_pos y1]
        exact ⟨_, _, rfl, rfl, rfl, hq⟩
      · by_cases y2 : y = 2
        · rw [hm (by rw [y2]; decide), if_neg y0, if_neg y0, if_neg y1, if_neg y1, if_pos y2, if_pos y2]
          exact ⟨_, _, rfl, rfl, rfl, hq⟩
        · by_cases y3 : y = 3
          · rw [hm (by rw [y3]; decide), if_neg y0, if_neg y0, if_neg y1, if_neg y1, if_neg y2, if_neg y2, if_pos y3, if_pos y3]
            exact ⟨_, _, rfl, rfl, rfl, hq⟩
          · by_cases y4 : y = 4
            · rw [hm (by rw [y4]; decide), if_neg y0, if_neg y0, if_neg y1, if_neg y1, if_neg y2, if_neg y2, if_neg y3, if_neg y3, if_pos y4, if_pos y4]
              exact ⟨_, _, rfl, rfl, rfl, hq⟩
            · by_cases y5 : y = 5
              · rw [hm (by rw [y5]; decide), if_neg y0, if_neg y0, if_neg y1, if_neg y1, if_neg y2, if_neg y2, if_neg y3, if_neg y3, if_neg y4, if_neg y4, if_pos y5, if_pos y5]
                exact ⟨_, _, rfl, rfl, rfl, hq⟩
              · have hm' : ((0 : Int32) ≤ y ∧ y ≤ 11) → f_X8_of (nI t) y Im = ((f_X8_treeOf (nI t) y (u2 Im 0 29 0)).bind fun q20 => some (q20.1, q20.2)) := fun q => by
                  rw [hm q, if_neg y0, if_neg y1, if_neg y2, if_neg y3, if_neg y4, if_neg y5]
                rw [if_neg y0, if_neg y1, if_neg y2, if_neg y3, if_neg y4, if_neg y5]
                by_cases y6 : y = 6
                · rw [hm' (by rw [y6]; decide), htr, if_pos y6, if_pos y6, some_bind]
                  exact ⟨_, _, rfl, rfl, rfl, hL⟩
                · by_cases y7 : y = 7
                  · rw [hm' (by rw [y7]; decide), htr, if_neg y6, if_neg y6, if_pos y7, if_pos y7, some_bind]
                    exact ⟨_, _, rfl, rfl, rfl, hS⟩
                  · by_cases y8 : y = 8
                    · rw [hm' (by rw [y8]; decide), htr, if_neg y6, if_neg y6, if_neg y7, if_neg y7, if_pos y8, if_pos y8, some_bind]
                      exact ⟨_, _, rfl, rfl, rfl, hL⟩
                    · by_cases y9 : y = 9
                      · rw [hm' (by rw [y9]; decide), htr, if_neg y6, if_neg y6, if_neg y7, if_neg y7, if_neg y8, if_neg y8, if_pos y9, if_pos y9, some_bind]
                        exact ⟨_, _, rfl, rfl, rfl, hL⟩
                      · by_cases y10 : y = 10
                        · rw [hm' (by rw [y10]; decide), htr, if_neg y6, if_neg y6, if_neg y7, if_neg y7, if_neg y8, if_neg y8, if_neg y9, if_neg y9, if_pos y10, if_pos y10, some_bind]
                          exact ⟨_, _, rfl, rfl, rfl, hL⟩
                        · by_cases y11 : y = 11
                          · rw [hm' (by rw [y11]; decide), htr, if_neg y6, if_neg y6, if_neg y7, if_neg y7, if_neg y8, if_neg y8, if_neg y9, if_neg y9, if_neg y10, if_neg y10, if_pos y11, some_bind]
                            exact ⟨_, _, rfl, rfl, rfl, hL⟩
                          · have cy : ¬ ((0 : Int32) ≤ y ∧ y ≤ 11) := fun q => by
                              obtain ⟨f, hf, e⟩ := nI_up (x := y) (n := 11) (by omega) (fun c => not_le_lt c q.1) q.2
                              match f, hf with
                              | 0, _ => exact y0 e
                              | 1, _ => exact y1 e
                              | 2, _ => exact y2 e
                              | 3, _ => exact y3 e
                              | 4, _ => exact y4 e
                              | 5, _ => exact y5 e
                              | 6, _ => exact y6 e
                              | 7, _ => exact y7 e
                              | 8, _ => exact y8 e
                              | 9, _ => exact y9 e
                              | 10, _ => exact y10 e
                              | 11, _ => exact y11 e
                            rw [if_neg y6, if_neg y7, if_neg y8, if_neg y9, if_neg y10, if_neg y11]
                            refine ⟨(-1, Ic), (-1, u2 Im 0 29 0), rfl, ?_, rfl, hq⟩
                            rw [f_X8_of, ht, some_bind, if_neg z10, mF cy, some_bind, if_pos rfl, f_X8_of_b25]
