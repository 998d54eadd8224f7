/-! ===== the call: tree ===== -/
theorem mo_text {Im M : IS} {s : SP} (h : RMo False BN Im s) (e : ∀ i, i ≠ 0 → (i < 24 ∨ 28 < i) → M i = Im i) (e0 : ∀ b, b ≠ 29 → b ≠ 38 → b ≠ 39 → b ≠ 40 → b ≠ 41 → b ≠ 45 → M 0 b = Im 0 b) : RMo False BN M s := by
  obtain ⟨h1, h2, h3, h4, h5, h6, h7, -⟩ := h
  have o : ∀ i, i ≠ 0 → i < 24 → M i = Im i := fun i h0 h1 => e i h0 (Or.inl h1)
  have z : ∀ b, b < 29 → M 0 b = Im 0 b := fun b hb => e0 b (by omega) (by omega) (by omega) (by omega) (by omega) (by omega)
  exact ⟨rmr_c h1 (o _ (by omega) (by omega)) (o _ (by omega) (by omega)) rfl, rma_c h2 (o _ (by omega) (by omega)) (o _ (by omega) (by omega)) (o _ (by omega) (by omega)) rfl rfl, rmt_c h3 (z _ (by omega)) (fun i q1 q2 => o i (by omega) (by omega)) rfl rfl, rme_c h4 (z _ (by omega)) (o _ (by omega) (by omega)) rfl, rmp_c h5 ⟨z _ (by omega), z _ (by omega), z _ (by omega)⟩ (fun i q1 q2 => o i (by omega) (by omega)) rfl, rmn_c h6 ⟨z _ (by omega), z _ (by omega), z _ (by omega)⟩ rfl rfl rfl, rml_c h7 ⟨z _ (by omega), z _ (by omega)⟩ rfl rfl, fun i f _ hf => (by cases hf), fun f hf => (by cases hf)⟩
theorem inv_text {Ic I1 : IS} {Jc : JS} {Im M1 : IS} {Jm : JS} {s' si : SP} (hs : RWo (zI 1 I1) s') (hw : WF s') (hm : RMo False BN M1 s') (h4 : IRi Ic Im si) (h5 : ∃ sa, RWo (zI 69 Ic) sa) (h7 : ITp Ic Jc Im Jm) (ec : ∀ j, j = 0 ∨ (35 ≤ j ∧ j < 103) ∨ 110 ≤ j → I1 j = Ic j) (ec1 : I1 103 1 = 0) (em : ∀ i, 12 < i → (i < 24 ∨ 28 < i) → M1 i = Im i) (em0 : M1 0 32 = Im 0 32) (em1 : M1 0 38 = 0) : INV I1 Jc M1 Jm := by
  obtain ⟨sa, h5⟩ := h5
  refine ⟨s', si, hs, hw, hm, ⟨rwo_congr h4.1 (fun k hk => ec _ (by omega)), h4.2.1, ?_, ?_⟩, ⟨sa, rwo_congr h5 (fun k hk => ec _ (by omega))⟩, ⟨[], by simp, ec1, em1, fun k hk => absurd hk (Nat.not_lt_zero k)⟩, fun t ht => ?_⟩
  · rw [ec 0 (by omega), em0]
    exact h4.2.2.1
  · rw [em0, em 21 (by omega) (by omega)]
    exact h4.2.2.2
  · have := gTap_rng t
    have h := h7 t ht
    unfold ITp1 at h ⊢
    rw [ec (gTap t) (by omega), em 35 (by omega) (by omega), em 31 (by omega) (by omega), em 32 (by omega) (by omega)]
    exact h
theorem c_adds {I1 : IS} {s : SP} {a m : Nat} (h : RWo (zI 1 I1) s) (hw : WF s) (ha : a < na s) (hm1 : 1 ≤ m) (hm : nT s + m ≤ 32) (e5 : I1 103 5 = nI m) (dp : Nat → Nat) (hk : ∀ k, k < m → (∃ v, 1 ≤ v ∧ v ≤ 9 ∧ I1 105 k = nI v) ∧ dp k ≤ 4 ∧ ((I1 107 k = -5 ∧ dp k = 0) ∨ ∃ q, q < k ∧ I1 107 k = nI q ∧ dp k = dp q + 1)) : ∃ J, f_X7_tree_b68 LF (nI a) (nI (nT s)) 0 I1 = some (nI (nT s), J) ∧ RWo (zI 1 J) (ePut (eNews s (I1 105) (I1 106) (fun k => if I1 107 k = -5 then -5 else nI (nT s) + I1 107 k) m) a (nT s)) ∧ ∀ j, j = 0 ∨ 35 ≤ j → J j = I1 j := by
  have hN := hw.1.2.1
  generalize hins : (fun k => if I1 107 k = -5 then (-5 : Int32) else nI (nT s) + I1 107 k) = ins
  have hins' : ∀ k, ins k = if I1 107 k = -5 then (-5 : Int32) else nI (nT s) + I1 107 k := fun k => by rw [← hins]
  have ca : okI (nI a) 4 = true := okI_nI (by omega) (by omega)
  have key := loop_inv (fun fu k (I : IS) => f_X7_tree_b68 fu (nI a) (nI (nT s)) (nI k) I) m (fun k I => RWo (zI 1 I) (eNews s (I1 105) (I1 106) ins k) ∧ ∀ j, j = 0 ∨ 35 ≤ j → I j = I1 j) (fun q => q.1 = nI (nT s) ∧ RWo (zI 1 q.2) (ePut (eNews s (I1 105) (I1 106) ins m) a (nT s)) ∧ ∀ j, j = 0 ∨ 35 ≤ j → q.2 j = I1 j) (fun fu I hI => by
    obtain ⟨i1, i2⟩ := hI
    have e5' : I 103 5 = nI m := by rw [i2 103 (by omega)]; exact e5
    have eR := (news_k s (I1 105) (I1 106) ins m).2.2.2.2.2.1
    have hl := wf_rowlen hw a
    have hA := c_armR i1 (show a < 4 by omega)
    obtain ⟨q, q1, q2⟩ := arm_put hA (by rw [eR]; omega) (nI (nT s))
    have gr := gArm_rng a
    refine ⟨(nI (nT s), gI (1 + gArm a) 2 q I), ?_, rfl, ?_, fun j hj => ?_⟩
    · show f_X7_tree_b68 (fu + 1) (nI a) (nI (nT s)) (nI m) I = _
      rw [f_X7_tree_b68, e5', if_pos ((nI_leI (by omega) (by omega)).mpr (Nat.le_refl _)), if_pos ca, nI_clamp (by omega), q1, some_bind]
    · show RWo (zI 1 (gI (1 + gArm a) 2 q I)) _
      rw [zI_gI (e := 1) (e' := gArm a)]
      exact rwo_garm i1 (show a < 4 by omega) q2
    · show gI (1 + gArm a) 2 q I j = _
      rw [gI_out (by omega)]
      exact i2 j hj) (fun fu k I hkm hI => by
    obtain ⟨i1, i2⟩ := hI
    have e5' : I 103 5 = nI m := by rw [i2 103 (by omega)]; exact e5
    have c1 : ¬ nI m ≤ nI k := nI_ge hkm (by omega)
    have ck : okI (nI k) 100 = true := okI_nI (by omega) (by omega)
    have eT := (news_k s (I1 105) (I1 106) ins k).2.1
    have hTa := c_tas i1
    obtain ⟨q, q1, q2⟩ := tas_add hTa (by omega) (I1 105 k) (I1 106 k) (ins k)
    have hgo : f_X7_tree_b112 (f_X7_tree_b68 fu) (nI a) (nI (nT s)) (nI k) (ins k) I = f_X7_tree_b68 fu (nI a) (nI (nT s)) (nI (k + 1)) (gI 11 9 q I) := by
      rw [f_X7_tree_b112, if_pos ck, if_pos ck, nI_clamp (by omega), i2 105 (by omega), i2 106 (by omega), q1, some_bind, nI_1]
    refine ⟨gI 11 9 q I, ⟨?_, fun j hj => ?_⟩, ?_⟩
    · rw [zI_gI (e := 1) (e' := 10)]
      exact rwo_tas i1 (rta_congr q2 (fun k hk => gI_in hk)) (fun k hk => gI_out (by omega))
    · rw [gI_out (by omega)]
      exact i2 j hj
    · show f_X7_tree_b68 (fu + 1) (nI a) (nI (nT s)) (nI k) I = _
      rw [← hgo, f_X7_tree_b68, e5', if_neg c1, if_pos ck, nI_clamp (by omega), i2 107 (by omega), hins' k]
      by_cases c5 : I1 107 k = -5
      · rw [if_pos c5, if_pos c5]
      · rw [if_neg c5, if_neg c5, if_pos ck]) m 0 LF I1 (by omega) (by unfold LF; omega) ⟨h, fun _ _ => rfl⟩
  obtain ⟨⟨v, J⟩, k1, k2, k3, k4⟩ := key
  have k2 : v = nI (nT s) := k2
  subst k2
  exact ⟨J, k1, k3, k4⟩
theorem m_adds {M1 : IS} {s : SP} {a m : Nat} (h : RMo False BN M1 s) (hw : WF s) (ha : a < na s) (hm1 : 1 ≤ m) (hm : nT s + m ≤ 32) (e41 : M1 0 41 = nI m) (dp : Nat → Nat) (hk : ∀ k, k < m → (M1 26 k = -5 ∧ dp k = 0) ∨ ∃ q, q < k ∧ M1 26 k = nI q ∧ dp k = dp q + 1) : ∃ J, f_X8_tree_b64 LF (nI a) (nI (nT s)) 0 M1 = some (nI (nT s), J) ∧ RMo False BN J (ePut (eNews s (M1 24) (M1 25) (fun k => if M1 26 k = -5 then -5 else nI (nT s) + M1 26 k) m) a (nT s)) ∧ (∀ i, 12 < i → J i = M1 i) ∧ ∀ b, b ≠ 6 → J 0 b = M1 0 b := by
  have hN := hw.1.2.1
  generalize hins : (fun k => if M1 26 k = -5 then (-5 : Int32) else nI (nT s) + M1 26 k) = ins
  have hins' : ∀ k, ins k = if M1 26 k = -5 then (-5 : Int32) else nI (nT s) + M1 26 k := fun k => by rw [← hins]
  have key := loop_inv (fun fu k (J : IS) => f_X8_tree_b64 fu (nI a) (nI (nT s)) (nI k) J) m (fun k J => (∀ i, i < 6 ∨ 12 < i → J i = M1 i) ∧ ∀ f, f < 7 → ∀ t, t < nT s + k → J (mid f) t = tf (eNews s (M1 24) (M1 25) ins k) f t) (fun q => q.1 = nI (nT s) ∧ RMo False BN q.2 (ePut (eNews s (M1 24) (M1 25) ins m) a (nT s)) ∧ (∀ i, 12 < i → q.2 i = M1 i) ∧ ∀ b, b ≠ 6 → q.2 0 b = M1 0 b) (fun fu J hJ => by
    obtain ⟨j1, j2⟩ := hJ
    obtain ⟨a1, a2, a3, a4, a5, a6, a7, a8, a9⟩ := news_k s (M1 24) (M1 25) ins m
    have e6 : J 0 6 = nI (nT s) := by rw [j1 0 (by omega)]; exact h.2.2.1.1
    have e41' : J 0 41 = nI m := by rw [j1 0 (by omega)]; exact e41
    have oi : ∀ i, i ≠ 0 → i < 6 ∨ 12 < i → u2 J 0 6 (nI (nT s + m)) i = M1 i := fun i h0 h1 => by rw [u2_oth _ _ _ h0]; exact j1 i h1
    have o0 : ∀ b, b ≠ 6 → u2 J 0 6 (nI (nT s + m)) 0 b = M1 0 b := fun b hb => by rw [u2_ne _ _ (Or.inr hb), j1 0 (by omega)]
    obtain ⟨h1, h2, h3, h4, h5, h6, h7, -⟩ := h
    generalize hsN : eNews s (M1 24) (M1 25) ins m = sN at j2 a1 a2 a3 a4 a5 a6 a7 a8 a9 ⊢
    have hM : RMo False BN (u2 J 0 6 (nI (nT s + m))) sN := by
      refine ⟨rmr_c h1 (oi _ (by omega) (by omega)) (oi _ (by omega) (by omega)) a6, rma_c h2 (oi _ (by omega) (by omega)) (oi _ (by omega) (by omega)) (oi _ (by omega) (by omega)) a5 a1, ⟨by rw [u2_eq, a2], by rw [a2]; omega, fun f hf t ht => ?_⟩, rme_c h4 (o0 _ (by omega)) (oi _ (by omega) (by omega)) a7, rmp_c h5 ⟨o0 _ (by omega), o0 _ (by omega), o0 _ (by omega)⟩ (fun i q1 q2 => oi i (by omega) (by omega)) a9, rmn_c h6 ⟨o0 _ (by omega), o0 _ (by omega), o0 _ (by omega)⟩ a1 a3 a4, rml_c h7 ⟨o0 _ (by omega), o0 _ (by omega)⟩ a8 a9, fun i f _ hf => (by cases hf), fun f hf => (by cases hf)⟩
      have := mid_rng hf
      rw [a2] at ht
      rw [u2_oth _ _ _ (by omega)]
      exact j2 f hf t ht
    have hl := wf_rowlen hw a
    obtain ⟨q, q1, q2⟩ := mo_comes hM (by rw [a1]; exact hN) (show a < 4 by omega) (by rw [a6]; omega) (nI (nT s))
    have hex := comes_ex (I := u2 J 0 6 (nI (nT s + m))) (a := a) (n := (rw_ sN a).length) (by omega) (by rw [a6]; omega) (hM.1 a (by omega)).1 (nI (nT s))
    rw [hex] at q1
    have q1 := Option.some.inj q1
    refine ⟨(nI (nT s), q), ?_, rfl, q2, fun i hi => ?_, fun b hb => ?_⟩
    · show f_X8_tree_b64 (fu + 1) (nI a) (nI (nT s)) (nI m) J = _
      rw [f_X8_tree_b64, e41', if_pos ((nI_leI (by omega) (by omega)).mpr (Nat.le_refl _)), e6, nI_add, hex, some_bind, q1]
    · show q i = M1 i
      rw [← q1, u2_oth _ _ _ (by omega), u2_oth _ _ _ (by omega)]
      exact oi i (by omega) (Or.inr hi)
    · show q 0 b = M1 0 b
      rw [← q1, u2_oth _ _ _ (by omega), u2_oth _ _ _ (by omega)]
      exact o0 b hb) (fun fu k J hkm hJ => by
    obtain ⟨j1, j2⟩ := hJ
    have e41' : J 0 41 = nI m := by rw [j1 0 (by omega)]; exact e41
    have c1 : ¬ nI m ≤ nI k := nI_ge hkm (by omega)
    have ck : okI (nI k) 101 = true := okI_nI (by omega) (by omega)
    have cu : okI (nI (nT s + k)) 32 = true := okI_nI (by omega) (by omega)
    have eT := (news_k s (M1 24) (M1 25) ins k).2.1
    have f24 : J 24 k = M1 24 k := by rw [j1 24 (by omega)]
    have f25 : J 25 k = M1 25 k := by rw [j1 25 (by omega)]
    have f26 : J 26 k = M1 26 k := by rw [j1 26 (by omega)]
    generalize hX : u2 (u2 (u2 (u2 J 6 (nT s + k) 0) 7 (nT s + k) (M1 24 k)) 8 (nT s + k) (M1 24 k)) 9 (nT s + k) 0 = X
    have xo : ∀ i, i ≠ 6 → i ≠ 7 → i ≠ 8 → i ≠ 9 → X i = J i := fun i h1 h2 h3 h4 => by rw [← hX, u2_oth _ _ _ h4, u2_oth _ _ _ h3, u2_oth _ _ _ h2, u2_oth _ _ _ h1]
    have h147 : f_X8_tree_b147 (f_X8_tree_b64 fu) (nI a) (nI (nT s)) (nI k) (nI (nT s + k)) (nI (nT s + k)) (ins k) X = f_X8_tree_b64 fu (nI a) (nI (nT s)) (nI (k + 1)) (u2 (u2 (u2 X 10 (nT s + k) (ins k)) 11 (nT s + k) (M1 25 k)) 12 (nT s + k) (-5)) := by
      rw [f_X8_tree_b147, if_pos cu, if_pos ck, if_pos cu, nI_clamp (by omega), nI_clamp (by omega), u2_oth _ _ _ (show 25 ≠ 10 by omega), xo 25 (by omega) (by omega) (by omega) (by omega), f25, some_bind, if_pos cu, nI_1]
    refine ⟨u2 (u2 (u2 X 10 (nT s + k) (ins k)) 11 (nT s + k) (M1 25 k)) 12 (nT s + k) (-5), ⟨fun i hi => ?_, fun f hf t ht => ?_⟩, ?_⟩
    · rw [u2_oth _ _ _ (by omega), u2_oth _ _ _ (by omega), u2_oth _ _ _ (by omega), xo i (by omega) (by omega) (by omega) (by omega)]
      exact j1 i hi
    · show _ = nwF (eNews s (M1 24) (M1 25) ins k) (M1 24 k) (M1 25 k) (ins k) f t
      by_cases htk : t = nT s + k
      · rw [htk, ← hX, ← eT]
        match f, hf with
        | 0, _ => rw [nw_0]; simp [mid, u2_ap]
        | 1, _ => rw [nw_1]; simp [mid, u2_ap]
        | 2, _ => rw [nw_2]; simp [mid, u2_ap]
        | 3, _ => rw [nw_3]; simp [mid, u2_ap]
        | 4, _ => rw [nw_4]; simp [mid, u2_ap]
        | 5, _ => rw [nw_5]; simp [mid, u2_ap]
        | 6, _ => rw [nw_6]; simp [mid, u2_ap]
        | f + 7, hf => exact absurd hf (by omega)
      · rw [nw_o _ _ _ _ f (by rw [eT]; exact htk), ← hX]
        have hne : ∀ (Y : IS) (i c : Nat) (v : Int32), u2 Y i (nT s + k) v c t = Y c t := fun Y i c v => u2_ne _ _ (Or.inr htk)
        simp only [hne]
        exact j2 f hf t (by omega)
    · have a7 : u2 J 6 (nT s + k) 0 24 k = M1 24 k := by rw [u2_oth _ _ _ (by omega)]; exact f24
      have a24 : u2 (u2 J 6 (nT s + k) 0) 7 (nT s + k) (M1 24 k) 24 k = M1 24 k := by rw [u2_oth _ _ _ (by omega), u2_oth _ _ _ (by omega)]; exact f24
      have a26 : X 26 k = M1 26 k := by rw [xo 26 (by omega) (by omega) (by omega) (by omega)]; exact f26
      show f_X8_tree_b64 (fu + 1) (nI a) (nI (nT s)) (nI k) J = _
      rw [← h147, f_X8_tree_b64, e41', if_neg c1, nI_add, if_pos cu, if_pos ck, if_pos cu, nI_clamp (by omega), nI_clamp (by omega), a7, some_bind, if_pos ck, if_pos cu, if_pos cu, a24, hX, some_bind, if_pos ck, a26]
      rcases hk k hkm with ⟨q, -⟩ | ⟨q, q1, q2, -⟩
      · rw [q, if_neg (by decide), hins' k, if_pos q]
      · have n5 : ¬ nI q = -5 := m5_ne (by omega)
        rw [q2, if_pos (le0_of (nI_lt0 (by omega))), if_pos ck, hins' k, q2, if_neg n5]) m 0 LF M1 (by omega) (by unfold LF; omega) ⟨fun _ _ => rfl, fun f hf t ht => h.2.2.1.2.2 f hf t (by omega)⟩
  obtain ⟨⟨v, J⟩, k1, k2, k3, k4, k5⟩ := key
  have k2 : v = nI (nT s) := k2
  subst k2
  exact ⟨J, k1, k3, k4, k5⟩
