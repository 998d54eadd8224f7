theorem eLvR_step (s : SP) {a j : Nat} (hj : j < (rw_ s a).length) : (rw_ s 0 ++ (rw_ s a).take j) ++ [(rw_ s a)[j]] = rw_ s 0 ++ (rw_ s a).take (j + 1) := by
  rw [List.append_assoc]
  congr 1
  rw [List.take_succ, List.getElem?_eq_getElem hj]
  rfl
theorem wor_lvC {I : IS} {s : SP} (h : RWo I s) {a : Nat} (ha : a ≠ 0) (ha4 : a < 4) (hlen : (rw_ s 0 ++ rw_ s a).length ≤ 32) (k2 : Int32 → Int32 → IS → Option IS) (x1 x2 : Int32) : ∃ J, f_X6_changeArms_b57 k2 x1 x2 a I = k2 x1 (x2 + 1) J ∧ RWo J (eLvC s a) := by
  rw [List.length_append] at hlen
  have key := loop_to (fun fu j (J : IS) => f_X6_changeArms_b60 k2 fu x1 x2 a (nI j) J) (fun J => k2 x1 (x2 + 1) J) (rw_ s a).length (fun j J => RWo J (eLvR s a j)) (fun J => RWo J (eLvC s a)) (fun fu J hJ => by
    have hA := hJ.1 a ha4
    have e1 : rw_ (eLvR s a (rw_ s a).length) a = rw_ s a := uA_ro _ _ _ _ _ ha
    rw [e1] at hA
    have el : J (gArm a) 1 = nI (rw_ s a).length := hA.1.1
    obtain ⟨q, c1, c2⟩ := arm_clear hA
    refine ⟨gI (gArm a) 2 q J, rwo_garm hJ ha4 c2, ?_⟩
    show f_X6_changeArms_b60 k2 (fu + 1) x1 x2 a (nI (rw_ s a).length) J = _
    rw [f_X6_changeArms_b60, el, if_pos ((nI_leI (by omega) (by omega)).mpr (Nat.le_refl _)), c1, some_bind]) (fun fu j J hj hJ => by
    have hA := hJ.1 a ha4
    have e1 : rw_ (eLvR s a j) a = rw_ s a := uA_ro _ _ _ _ _ ha
    rw [e1] at hA
    have el : J (gArm a) 1 = nI (rw_ s a).length := hA.1.1
    have hB := hJ.1 0 (by omega)
    have e2 : rw_ (eLvR s a j) 0 = rw_ s 0 ++ (rw_ s a).take j := uA_rs _ _ _ _ _ _
    have ev : J (gArm a + 1) j = (rw_ s a)[j] := isRow_get hA.1 hj
    rw [e2] at hB
    have hlj : (rw_ s 0 ++ (rw_ s a).take j).length < 32 := by
      rw [List.length_append, List.length_take]
      omega
    obtain ⟨q, p1, p2⟩ := arm_put hB hlj (rw_ s a)[j]
    have g := rwo_garm hJ (show 0 < 4 by omega) p2
    rw [eLvR_step s hj] at g
    have e3 : uA (eLvR s a j) 0 (rw_ s 0 ++ (rw_ s a).take (j + 1)) (af (eLvR s a j) 0 0) (af (eLvR s a j) 1 0) (af (eLvR s a j) 2 0) = eLvR s a (j + 1) := by
      unfold eLvR
      rw [uA_uA, uA_a0, uA_a1, uA_a2]
    rw [e3] at g
    refine ⟨_, g, ?_⟩
    have c0 : okI (0 : Int32) 4 = true := by decide
    have z0 : ((0 : Int32)).toNatClampNeg = 0 := rfl
    show f_X6_changeArms_b60 k2 (fu + 1) x1 x2 a (nI j) J = _
    rw [f_X6_changeArms_b60, el, if_neg (nI_ge hj (by omega)), if_pos c0, if_pos (okI_nI (by omega) (by omega)), nI_clamp (by omega), ev, z0, p1, some_bind, nI_1]) (rw_ s a).length 0 LF I (by omega) (by unfold LF; omega) (by
    show RWo I (eLvR s a 0)
    unfold eLvR
    rw [List.take_zero, List.append_nil, uA_self]
    exact h)
  obtain ⟨J, j1, j2⟩ := key
  refine ⟨J, ?_, j1⟩
  rw [f_X6_changeArms_b57]
  exact j2
theorem wor_lv {I : IS} {s : SP} (h : RWo I s) (hw : WF s) {a : Nat} (ha : a ≠ 0) (han : a < na s) (x1 : Int32) (fu : Nat) : ∃ J, f_X6_changeArms_b2 (fu + 1) x1 (nI a) I = f_X6_changeArms_b2 fu x1 (nI (a + 1)) J ∧ RWo J (eLv s a) := by
  have hn : na s ≤ 4 := hw.1.2.1
  have hT : nT s ≤ 32 := hw.1.2.2
  have e6 : I 0 6 = nI (na s) := h.2.2.2.2.1
  have e2 : I (gArm a) 2 = af s 0 a := (h.1 a (by omega)).2.1
  have ca : okI (nI a) 4 = true := okI_nI (by omega) (by omega)
  obtain ⟨l1, l2⟩ := lv_nodup hw ha
  have hlen := nodup_len (nT s) _ l1 l2
  unfold eLv
  unfold lvL at hlen
  rcases hw.2.2.1.1 a with h0 | ⟨t, ht, h0, hs⟩
  · rw [if_pos h0] at hlen ⊢
    obtain ⟨J, j1, j2⟩ := wor_lvC h ha (by omega) (by rw [List.nil_append] at hlen; omega) (f_X6_changeArms_b2 fu) x1 (nI a)
    refine ⟨J, ?_, j2⟩
    rw [f_X6_changeArms_b2, e6, if_neg (nI_ge han (by omega)), if_pos ca, nI_clamp (by omega), e2, h0, tas_has_neg (by decide), some_bind, if_pos rfl, j1, nI_1]
  · have hne : ¬ af s 0 a = -5 := by rw [h0]; exact m5_ne (by omega)
    have n0 : ¬ (1 : Int32) = 0 := by decide
    have c0 : okI (0 : Int32) 4 = true := by decide
    have z0 : ((0 : Int32)).toNatClampNeg = 0 := rfl
    have ct : okI (nI t) 32 = true := okI_nI (by omega) (by omega)
    rw [if_neg hne] at hlen ⊢
    rw [show (af s 0 a).toNatClampNeg = t by rw [h0]; exact nI_clamp (by omega)]
    rw [List.length_append, List.length_append, List.length_singleton] at hlen
    have g1 := rwo_eSet h (f := 3) (by omega) t 0
    have hB := g1.1 0 (by omega)
    have r0 : rw_ (eSet s 3 t 0) 0 = rw_ s 0 := rfl
    have a0 : af (eSet s 3 t 0) = af s := rfl
    rw [r0, a0] at hB
    obtain ⟨q, p1, p2⟩ := arm_put hB (by omega) (nI t)
    have g2 : RWo (gI (gArm 0) 2 q (u2 I 14 t 0)) (eLvT s t) := rwo_garm g1 (show 0 < 4 by omega) p2
    obtain ⟨d1, d2, d3, d4, d5, d6, d7, d8⟩ := lvT_k s t
    have hl2 : (rw_ (eLvT s t) 0 ++ rw_ (eLvT s t) a).length ≤ 32 := by
      rw [d6, d6, if_pos rfl, if_neg ha, List.length_append, List.length_append, List.length_singleton]
      omega
    obtain ⟨J, j1, j2⟩ := wor_lvC g2 ha (by omega) hl2 (f_X6_changeArms_b2 fu) x1 (nI a)
    have e2' : u2 I 14 t 0 (gArm a) 2 = nI t := by
      have := gArm_rng a
      rw [u2_ne _ _ (Or.inl (by omega)), e2, h0]
    refine ⟨J, ?_, j2⟩
    rw [f_X6_changeArms_b2, e6, if_neg (nI_ge han (by omega)), if_pos ca, nI_clamp (by omega), e2, h0, tas_has_in h.2.1 ht, some_bind, if_neg n0, if_pos ct, if_pos c0, nI_clamp (by omega), e2', z0]
    rw [show f_X0_put (nI t) (zI (gArm 0) (u2 I 14 t 0)) = some q from p1, some_bind, some_bind, j1, nI_1]
theorem wor_chg {I : IS} {s : SP} (h : RWo I s) (hw : WF s) {n : Nat} (hn : 1 ≤ n) (hn4 : n ≤ 4) : ∃ J, f_X6_changeArms (nI n) I = some J ∧ RWo J (eChg s n) := by
  have hN : na s ≤ 4 := hw.1.2.1
  by_cases hk : n ≤ na s
  · have key := loop_inv (fun fu j (I : IS) => f_X6_changeArms_b2 fu (nI n) (nI (n + j)) I) (na s - n) (fun j I => RWo I (eLvs s n j)) (fun J => RWo J (eChg s n)) (fun fu I hI => by
      have e6 : I 0 6 = nI (na s) := by
        rw [← (wf_lvs hw (n := n) (by omega) (na s - n) (by omega)).2.1]
        exact hI.2.2.2.2.1
      refine ⟨u2 I 0 6 (nI n), ?_, rwo_na hI n⟩
      show f_X6_changeArms_b2 (fu + 1) (nI n) (nI (n + (na s - n))) I = _
      rw [f_X6_changeArms_b2, e6, if_pos ((nI_leI (by omega) (by omega)).mpr (by omega))]) (fun fu j I hj hI => by
      obtain ⟨w1, w2, -⟩ := wf_lvs hw (n := n) (by omega) j (by omega)
      obtain ⟨J, j1, j2⟩ := wor_lv hI w1 (a := n + j) (by omega) (by omega) (nI n) fu
      exact ⟨J, j2, j1⟩) (na s - n) 0 LF I (by omega) (by unfold LF; omega) h
    exact key
  · have e6 : I 0 6 = nI (na s) := h.2.2.2.2.1
    have e : na s - n = 0 := by omega
    unfold eChg
    rw [e]
    refine ⟨u2 I 0 6 (nI n), ?_, rwo_na h n⟩
    rw [f_X6_changeArms, show LF = (LF - 1) + 1 by unfold LF; rfl, f_X6_changeArms_b2, e6, if_pos ((nI_leI (by omega) (by omega)).mpr (by omega))]
