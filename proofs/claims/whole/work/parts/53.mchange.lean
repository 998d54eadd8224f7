/-! ===== the Model: arms leave and come ===== -/
theorem mo_congr {W : Prop} {B : BS} {I : IS} {s s' : SP} (h : RMo W B I s) (e1 : na s' = na s) (e2 : nT s' = nT s) (e3 : sd s' = sd s) (e4 : rd s' = rd s) (e5 : ∀ f, f < 7 → ∀ t, t < nT s → tf s' f t = tf s f t) (e6 : tr_ s' = tr_ s) (e7 : lg s' = lg s) (e8 : tol s' = tol s) (r : ∀ a, a < 4 → rw_ s' a = rw_ s a) (a0 : ∀ a, a < 4 → af s' 0 a = af s 0 a) (a1 : ∀ a, a < na s → af s' 1 a = af s 1 a ∧ af s' 2 a = af s 2 a) : RMo W B I s' := by
  obtain ⟨h1, h2, h3, h4, h5, h6, h7, h8⟩ := h
  refine ⟨fun a ha => by rw [r a ha]; exact h1 a ha, ⟨fun a ha => by rw [a0 a ha]; exact h2.1 a ha, fun a ha => ?_⟩, ⟨by rw [e2]; exact h3.1, by rw [e2]; exact h3.2.1, fun f hf t ht => ?_⟩, by unfold RMe; rw [e6]; exact h4, by unfold RMp; rw [e8]; exact h5, by unfold RMn; rw [e1, e3, e4]; exact h6, by unfold RMl; rw [e7, e8]; exact h7, h8⟩
  · rw [e1] at ha
    rw [(a1 a ha).1, (a1 a ha).2]
    exact h2.2 a ha
  · rw [e2] at ht
    rw [e5 f hf t ht]
    exact h3.2.2 f hf t ht
theorem comes_ex {I : IS} {a n : Nat} (ha : a < 4) (hn : n < 32) (h : I 1 a = nI n) (x : Int32) : f_X8_comesTo (nI a) x I = some (u2 (u2 I 2 (32 * a + n) x) 1 a (nI (n + 1))) := by
  have ca : okI (nI a) 4 = true := okI_nI ha (by omega)
  have e1 : (32 : Int32) * nI a + nI n = nI (32 * a + n) := by rw [nI_32m, nI_add]
  have c2 : okI (nI (32 * a + n)) 128 = true := okI_nI (by omega) (by omega)
  rw [f_X8_comesTo, if_pos ca, nI_clamp (by omega), h, e1, if_pos c2, if_pos ca, if_pos ca, nI_clamp (by omega), u2_ne _ _ (Or.inl (by omega)), h, nI_1, some_bind]
theorem u2_comm {α : Type} (I : Nat → Nat → α) {i j k b : Nat} (v w : α) (h : i ≠ j) : u2 (u2 I i k v) j b w = u2 (u2 I j b w) i k v := by
  funext x y
  rw [u2_ap, u2_ap, u2_ap, u2_ap]
  by_cases c : x = j ∧ y = b
  · rw [if_pos c, if_neg (fun q => h (q.1.symm.trans c.1)), if_pos c]
  · rw [if_neg c, if_neg c]
/-- with another number of arms written in: a task comes to a row -/
theorem mo_comes0 {W : Prop} {B : BS} {J : IS} {s : SP} {v : Int32} (h : RMo W B (u2 J 0 0 v) s) (hn : na s ≤ 4) {a : Nat} (ha : a < 4) (hl : (rw_ s a).length < 32) (x : Int32) : ∃ J', f_X8_comesTo (nI a) x J = some J' ∧ RMo W B (u2 J' 0 0 v) (uA s a (rw_ s a ++ [x]) (af s 0 a) (af s 1 a) (af s 2 a)) ∧ J' 0 = J 0 := by
  have o : u2 J 0 0 v 1 = J 1 := u2_oth _ _ _ (by omega)
  have r1 : J 1 a = nI (rw_ s a).length := by
    rw [← o]
    exact (h.1 a ha).1
  obtain ⟨X, x1, x2⟩ := mo_comes h hn ha hl x
  rw [comes_ex ha hl (by rw [o]; exact r1)] at x1
  refine ⟨_, comes_ex ha hl r1 x, ?_, ?_⟩
  · have e : u2 (u2 (u2 J 2 (32 * a + (rw_ s a).length) x) 1 a (nI ((rw_ s a).length + 1))) 0 0 v = X := by
      rw [u2_comm _ _ _ (show 1 ≠ 0 by omega), u2_comm _ _ _ (show 2 ≠ 0 by omega)]
      exact Option.some.inj x1
    rw [e]
    exact x2
  · rw [u2_oth _ _ _ (by omega), u2_oth _ _ _ (by omega)]
theorem mo_clr {W : Prop} {B : BS} {I : IS} {s : SP} (h : RMo W B I s) (hn : na s ≤ 4) {a : Nat} (ha : na s ≤ a) : RMo W B (u2 I 1 a 0) (uA s a [] (af s 0 a) 0 0) := by
  have o : ∀ i, i ≠ 1 → u2 I 1 a 0 i = I i := fun i hi => u2_oth _ _ _ hi
  refine mo_uA h (fun y hy => o y (by omega)) (fun _ => ⟨by rw [u2_eq]; rfl, by simp, fun k hk => absurd hk (Nat.not_lt_zero k)⟩) (fun hb => by rw [o 3 (by omega)]; exact h.2.1.1 a hb) (fun hb => by omega) (fun b hb hba => by
    rw [o 2 (by omega), o 3 (by omega), o 4 (by omega), o 5 (by omega)]
    exact ⟨u2_ne _ _ (Or.inr hba), fun _ _ => rfl, rfl, rfl, rfl⟩) hn
theorem mo_move {W : Prop} {B : BS} {J : IS} {s : SP} {n a : Nat} (h : RMo W B (u2 J 0 0 (nI n)) s) (hn : na s = n) (hn4 : n ≤ 4) (ha : a ≠ 0) (ha4 : a < 4) (hna : n ≤ a) (hlen : (rw_ s 0 ++ rw_ s a).length ≤ 32) (k47 : Int32 → Int32 → IS → Option IS) : ∃ J', f_X8_becomeArms_b97 k47 LF (nI n) (nI a) 0 J = k47 (nI n) (nI (a + 1)) J' ∧ RMo W B (u2 J' 0 0 (nI n)) (uA (eLvR s a (rw_ s a).length) a [] (af s 0 a) 0 0) ∧ J' 0 0 = J 0 0 := by
  rw [List.length_append] at hlen
  have ca : okI (nI a) 4 = true := okI_nI ha4 (by omega)
  have key := loop_to (fun fu j (X : IS) => f_X8_becomeArms_b97 k47 fu (nI n) (nI a) (nI j) X) (fun X => k47 (nI n) (nI (a + 1)) X) (rw_ s a).length (fun j X => RMo W B (u2 X 0 0 (nI n)) (eLvR s a j) ∧ X 0 0 = J 0 0) (fun X => RMo W B (u2 X 0 0 (nI n)) (uA (eLvR s a (rw_ s a).length) a [] (af s 0 a) 0 0) ∧ X 0 0 = J 0 0) (fun fu X hX => by
    obtain ⟨x1, x2⟩ := hX
    have e1 : rw_ (eLvR s a (rw_ s a).length) a = rw_ s a := uA_ro _ _ _ _ _ ha
    have e2 : af (eLvR s a (rw_ s a).length) 0 a = af s 0 a := uA_ao _ _ _ _ _ 0 ha
    have r1 : X 1 a = nI (rw_ s a).length := by
      have := (x1.1 a ha4).1
      rw [e1, u2_oth _ _ _ (by omega)] at this
      exact this
    refine ⟨u2 X 1 a 0, ⟨?_, by rw [u2_oth _ _ _ (by omega)]; exact x2⟩, ?_⟩
    · have g := mo_clr x1 (show na s ≤ 4 by omega) (a := a) (show na s ≤ a by omega)
      rw [e2] at g
      rw [u2_comm _ _ _ (show 1 ≠ 0 by omega)]
      exact g
    · show f_X8_becomeArms_b97 k47 (fu + 1) (nI n) (nI a) (nI (rw_ s a).length) X = _
      rw [f_X8_becomeArms_b97, if_pos ca, nI_clamp (by omega), r1, if_pos ((nI_leI (by omega) (by omega)).mpr (Nat.le_refl _)), if_pos ca, nI_1]) (fun fu j X hj hX => by
    obtain ⟨x1, x2⟩ := hX
    have e1 : rw_ (eLvR s a j) a = rw_ s a := uA_ro _ _ _ _ _ ha
    have e2 : rw_ (eLvR s a j) 0 = rw_ s 0 ++ (rw_ s a).take j := uA_rs _ _ _ _ _ _
    obtain ⟨g1, -, g3⟩ := x1.1 a ha4
    rw [e1, u2_oth _ _ _ (by omega)] at g1
    have ev : X 2 (32 * a + j) = (rw_ s a)[j] := by
      have := g3 j (by rw [e1]; exact hj)
      rw [e1, u2_oth _ _ _ (by omega), List.getElem?_eq_getElem hj] at this
      exact (Option.some.inj this).symm
    have hlj : (rw_ (eLvR s a j) 0).length < 32 := by
      rw [e2, List.length_append, List.length_take]
      omega
    obtain ⟨Y, y1, y2, y3⟩ := mo_comes0 x1 (show na s ≤ 4 by omega) (show 0 < 4 by omega) hlj (rw_ s a)[j]
    have e3 : uA (eLvR s a j) 0 (rw_ (eLvR s a j) 0 ++ [(rw_ s a)[j]]) (af (eLvR s a j) 0 0) (af (eLvR s a j) 1 0) (af (eLvR s a j) 2 0) = eLvR s a (j + 1) := by
      rw [e2, eLvR_step s hj]
      unfold eLvR
      rw [uA_uA, uA_a0, uA_a1, uA_a2]
    rw [e3] at y2
    have ei : (32 : Int32) * nI a + nI j = nI (32 * a + j) := by rw [nI_32m, nI_add]
    refine ⟨Y, ⟨y2, by rw [y3]; exact x2⟩, ?_⟩
    have y1 : f_X8_comesTo 0 (rw_ s a)[j] X = some Y := y1
    show f_X8_becomeArms_b97 k47 (fu + 1) (nI n) (nI a) (nI j) X = _
    rw [f_X8_becomeArms_b97, if_pos ca, nI_clamp (by omega), g1, if_neg (nI_ge hj (by omega)), ei, if_pos (okI_nI (by omega) (by omega)), nI_clamp (by omega), ev, y1, some_bind, nI_1]) (rw_ s a).length 0 LF J (by omega) (by unfold LF; omega) ⟨by
    unfold eLvR
    rw [List.take_zero, List.append_nil, uA_self]
    exact h, rfl⟩
  obtain ⟨X, ⟨x1, x2⟩, x3⟩ := key
  exact ⟨X, x3, x1, x2⟩
/-- an arm leaves -/
theorem mo_lv {W : Prop} {B : BS} {J : IS} {s : SP} {n a : Nat} (h : RMo W B (u2 J 0 0 (nI n)) (wNa s n)) (hw : WF s) (hj : J 0 0 = nI (na s)) (hn : 1 ≤ n) (hna : n ≤ a) (han : a < na s) (fu : Nat) : ∃ J', f_X8_becomeArms_b47 (fu + 1) (nI n) (nI a) J = f_X8_becomeArms_b47 fu (nI n) (nI (a + 1)) J' ∧ RMo W B (u2 J' 0 0 (nI n)) (wNa (eLv s a) n) ∧ J' 0 0 = nI (na s) := by
  have hN : na s ≤ 4 := hw.1.2.1
  have hT : nT s ≤ 32 := hw.1.2.2
  have ha : a ≠ 0 := by omega
  have ca : okI (nI a) 4 = true := okI_nI (by omega) (by omega)
  have c1 : ¬ nI (na s) ≤ nI a := nI_ge han (by omega)
  obtain ⟨l1, l2⟩ := lv_nodup hw ha
  have hlen := nodup_len (nT s) _ l1 l2
  obtain ⟨eN, eT, eO, eF, eS, eR, eA, eA1, eA2, eC⟩ := lv_k hw ha
  have e3 : J 3 a = af s 0 a := by
    have := h.2.1.1 a (by omega)
    rw [u2_oth _ _ _ (by omega)] at this
    exact this
  unfold lvL at hlen eR
  -- the end of it, for whatever state comes to the moving
  have fin : ∀ (X : IS) (s3 : SP), RMo W B (u2 X 0 0 (nI n)) s3 → X 0 0 = nI (na s) → na s3 = n → nT s3 = nT s → sd s3 = sd s → rd s3 = rd s → tr_ s3 = tr_ s → lg s3 = lg s → tol s3 = tol s → (∀ f, f < 7 → ∀ t, t < nT s → tf s3 f t = tf (eLv s a) f t) → af s3 0 a = -5 → (∀ b, b ≠ a → af s3 0 b = af s 0 b) → (∀ f b, b ≠ a → b ≠ 0 → af s3 f b = af s f b) → af s3 1 0 = af s 1 0 → af s3 2 0 = af s 2 0 → (rw_ s3 0 ++ rw_ s3 a) = rw_ s 0 ++ ((if af s 0 a = -5 then [] else [af s 0 a]) ++ rw_ s a) → (∀ b, b ≠ a → b ≠ 0 → rw_ s3 b = rw_ s b) → sd (eLv s a) = sd s → rd (eLv s a) = rd s → tr_ (eLv s a) = tr_ s → lg (eLv s a) = lg s → af (eLv s a) 1 0 = af s 1 0 → af (eLv s a) 2 0 = af s 2 0 → ∃ J', f_X8_becomeArms_b95 (f_X8_becomeArms_b47 fu) (nI n) (nI a) X = f_X8_becomeArms_b47 fu (nI n) (nI (a + 1)) J' ∧ RMo W B (u2 J' 0 0 (nI n)) (wNa (eLv s a) n) ∧ J' 0 0 = nI (na s) := by
    intro X s3 g x0 f1 f2 f3 f4 f5 f6 f7 f8 f9 f10 f11 f12 f13 f14 f15 m1 m2 m3 m4 m5 m6
    obtain ⟨Y, y1, y2, y3⟩ := mo_move g f1 (by omega) ha (by omega) hna (by rw [f14]; omega) (f_X8_becomeArms_b47 fu)
    refine ⟨Y, by rw [f_X8_becomeArms_b95]; exact y1, ?_, y3.trans x0⟩
    refine mo_congr y2 f1.symm (show nT (eLv s a) = nT s3 by rw [eT, f2]) (show sd (eLv s a) = sd s3 by rw [m1, f3]) (show rd (eLv s a) = rd s3 by rw [m2, f4]) (fun f hf t ht => ?_) (show tr_ (eLv s a) = tr_ s3 by rw [m3, f5]) (show lg (eLv s a) = lg s3 by rw [m4, f6]) (show tol (eLv s a) = tol s3 by rw [eO, f7]) (fun b hb => ?_) (fun b hb => ?_) (fun b hb => ?_)
    · show tf (eLv s a) f t = tf s3 f t
      rw [f8 f hf t (by have ht : t < nT s3 := ht; omega)]
    · show rw_ (eLv s a) b = _
      rw [eR]
      by_cases hba : b = a
      · rw [if_pos hba, hba, uA_rs]
      · rw [if_neg hba, uA_ro _ _ _ _ _ hba]
        unfold eLvR
        by_cases hb0 : b = 0
        · rw [if_pos hb0, hb0, uA_rs, List.take_length, f14]
        · rw [if_neg hb0, uA_ro _ _ _ _ _ hb0, f15 b hba hb0]
    · show af (eLv s a) 0 b = _
      rw [eA, uA_f0]
      by_cases hba : b = a
      · rw [if_pos hba, if_pos hba, f9]
      · rw [if_neg hba, if_neg hba]
        unfold eLvR
        rw [uA_f0]
        by_cases hb0 : b = 0
        · rw [if_pos hb0, hb0]
          exact (f10 0 (by omega)).symm
        · rw [if_neg hb0]
          exact (f10 b hba).symm
    · have hbn : b < n := by
        have hb : b < na s3 := hb
        omega
      have hba : b ≠ a := by omega
      show af (eLv s a) 1 b = _ ∧ af (eLv s a) 2 b = _
      rw [uA_ao _ _ _ _ _ 1 hba, uA_ao _ _ _ _ _ 2 hba]
      unfold eLvR
      by_cases hb0 : b = 0
      · rw [hb0, uA_a1, uA_a2, m5, m6, f12, f13]
        exact ⟨rfl, rfl⟩
      · rw [uA_ao _ _ _ _ _ 1 hb0, uA_ao _ _ _ _ _ 2 hb0, eC 1 b hba hb0, eC 2 b hba hb0, f11 1 b hba hb0, f11 2 b hba hb0]
        exact ⟨rfl, rfl⟩
  rcases hw.2.2.1.1 a with h0 | ⟨t, ht, h0, hs⟩
  · have eLs : eLv s a = eLvC s a := by
      unfold eLv
      rw [if_pos h0]
    obtain ⟨J', q1, q2, q3⟩ := fin J (wNa s n) h hj rfl rfl rfl rfl rfl rfl rfl (fun f hf x hx => by
      show tf s f x = _
      rw [eLs]
      rfl) h0 (fun _ _ => rfl) (fun _ _ _ _ => rfl) rfl rfl (by rw [if_pos h0]; rfl) (fun _ _ _ => rfl) (by rw [eLs]; rfl) (by rw [eLs]; rfl) (by rw [eLs]; rfl) (by rw [eLs]; rfl) (by
      rw [eLs]
      unfold eLvC
      rw [uA_ao _ _ _ _ _ 1 (Ne.symm ha)]
      unfold eLvR
      rw [uA_a1]) (by
      rw [eLs]
      unfold eLvC
      rw [uA_ao _ _ _ _ _ 2 (Ne.symm ha)]
      unfold eLvR
      rw [uA_a2])
    refine ⟨J', ?_, q2, q3⟩
    rw [f_X8_becomeArms_b47, hj, if_neg c1, if_pos ca, nI_clamp (by omega), e3, h0, if_pos (by decide)]
    exact q1
  · have hne : ¬ af s 0 a = -5 := by rw [h0]; exact m5_ne (by omega)
    have ct : okI (nI t) 32 = true := okI_nI (by omega) (by omega)
    have eLs : eLv s a = eLvC (eLvT s t) a := by
      unfold eLv
      rw [if_neg hne, show (af s 0 a).toNatClampNeg = t by rw [h0]; exact nI_clamp (by omega)]
    have g1 := mo_set h (f := 3) (by omega) t 0
    have g1 : RMo W B (u2 (u2 J 0 0 (nI n)) 6 t 0) (eSet (wNa s n) 3 t 0) := g1
    rw [← u2_comm _ _ _ (show 6 ≠ 0 by omega)] at g1
    have hl0 : (rw_ s 0).length < 32 := by
      rw [if_neg hne, List.length_append, List.length_append, List.length_singleton] at hlen
      omega
    obtain ⟨X, x1, x2, x3⟩ := mo_comes0 g1 (show n ≤ 4 by omega) (show 0 < 4 by omega) hl0 (nI t)
    have g3 := mo_u3 x2 (show n ≤ 4 by omega) (a := a) (-5)
    rw [← u2_comm _ _ _ (show 3 ≠ 0 by omega)] at g3
    have kr : ∀ b, rw_ (eSet (wNa s n) 3 t 0) b = rw_ s b := fun _ => rfl
    have ka : ∀ f b, af (eSet (wNa s n) 3 t 0) f b = af s f b := fun _ _ => rfl
    have kt : ∀ f b, tf (eSet (wNa s n) 3 t 0) f b = u2 (tf s) 3 t 0 f b := fun _ _ => rfl
    rw [kr, ka, ka, ka] at g3
    have x0 : u2 X 3 a (-5) 0 0 = nI (na s) := by
      rw [u2_oth _ _ _ (by omega), x3, u2_oth _ _ _ (by omega)]
      exact hj
    have hc : na (eSet (wNa s n) 3 t 0) = n ∧ nT (eSet (wNa s n) 3 t 0) = nT s ∧ sd (eSet (wNa s n) 3 t 0) = sd s ∧ rd (eSet (wNa s n) 3 t 0) = rd s ∧ tr_ (eSet (wNa s n) 3 t 0) = tr_ s ∧ lg (eSet (wNa s n) 3 t 0) = lg s ∧ tol (eSet (wNa s n) 3 t 0) = tol s := ⟨rfl, rfl, rfl, rfl, rfl, rfl, rfl⟩
    generalize eSet (wNa s n) 3 t 0 = s1 at g3 kr ka kt hc
    have A : ∀ (s' : SP) (b : Nat) (l : List Int32) (w i j : Int32), na (uA s' b l w i j) = na s' ∧ nT (uA s' b l w i j) = nT s' ∧ sd (uA s' b l w i j) = sd s' ∧ rd (uA s' b l w i j) = rd s' ∧ tr_ (uA s' b l w i j) = tr_ s' ∧ lg (uA s' b l w i j) = lg s' ∧ tol (uA s' b l w i j) = tol s' ∧ tf (uA s' b l w i j) = tf s' := fun _ _ _ _ _ _ => ⟨rfl, rfl, rfl, rfl, rfl, rfl, rfl, rfl⟩
    obtain ⟨d1, d2, d3, d4, d5, d6, d7, d8⟩ := lvT_k s t
    have eL4 : tf (eLv s a) = u2 (tf s) 3 t 0 := by rw [eLs]; rfl
    obtain ⟨J', q1, q2, q3⟩ := fin (u2 X 3 a (-5)) _ g3 x0 ((A _ _ _ _ _ _).1.trans ((A _ _ _ _ _ _).1.trans hc.1)) ((A _ _ _ _ _ _).2.1.trans ((A _ _ _ _ _ _).2.1.trans hc.2.1)) ((A _ _ _ _ _ _).2.2.1.trans ((A _ _ _ _ _ _).2.2.1.trans hc.2.2.1)) ((A _ _ _ _ _ _).2.2.2.1.trans ((A _ _ _ _ _ _).2.2.2.1.trans hc.2.2.2.1)) ((A _ _ _ _ _ _).2.2.2.2.1.trans ((A _ _ _ _ _ _).2.2.2.2.1.trans hc.2.2.2.2.1)) ((A _ _ _ _ _ _).2.2.2.2.2.1.trans ((A _ _ _ _ _ _).2.2.2.2.2.1.trans hc.2.2.2.2.2.1)) ((A _ _ _ _ _ _).2.2.2.2.2.2.1.trans ((A _ _ _ _ _ _).2.2.2.2.2.2.1.trans hc.2.2.2.2.2.2)) (fun f hf x hx => by
      rw [(A _ _ _ _ _ _).2.2.2.2.2.2.2, (A _ _ _ _ _ _).2.2.2.2.2.2.2, kt, eL4]) (uA_a0 _ _ _ _ _ _) (fun b hb => by
      rw [uA_ao _ _ _ _ _ 0 hb, uA_f0]
      by_cases hb0 : b = 0
      · rw [if_pos hb0, hb0]
      · rw [if_neg hb0, ka]) (fun f b hb hb0 => by
      rw [uA_ao _ _ _ _ _ f hb, uA_ao _ _ _ _ _ f hb0, ka]) (by
      rw [uA_ao _ _ _ _ _ 1 (Ne.symm ha), uA_a1]) (by
      rw [uA_ao _ _ _ _ _ 2 (Ne.symm ha), uA_a2]) (by
      rw [uA_r, uA_r, uA_rs, uA_ro _ _ _ _ _ ha, kr, if_neg hne, h0, List.append_assoc]) (fun b hb hb0 => by
      rw [uA_r, uA_ro _ _ _ _ _ hb0, kr]) (by rw [eLs]; rfl) (by rw [eLs]; rfl) (by rw [eLs]; rfl) (by rw [eLs]; rfl) (by
      rw [eLs]
      unfold eLvC
      rw [uA_ao _ _ _ _ _ 1 (Ne.symm ha)]
      unfold eLvR
      rw [uA_a1]
      unfold eLvT
      rw [uA_a1]) (by
      rw [eLs]
      unfold eLvC
      rw [uA_ao _ _ _ _ _ 2 (Ne.symm ha)]
      unfold eLvR
      rw [uA_a2]
      unfold eLvT
      rw [uA_a2])
    refine ⟨J', ?_, q2, q3⟩
    have x1 : f_X8_comesTo 0 (nI t) (u2 J 6 t 0) = some X := x1
    have e3' : u2 J 6 t 0 3 a = nI t := by rw [u2_ne _ _ (Or.inl (by omega)), e3, h0]
    rw [f_X8_becomeArms_b47, hj, if_neg c1, if_pos ca, nI_clamp (by omega), e3, h0, if_neg (nI_lt0 (by omega)), if_pos ca, if_pos ct, if_pos ca, nI_clamp (by omega), e3', x1, some_bind, if_pos ca]
    exact q1
