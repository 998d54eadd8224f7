/-! ===== the calls: ends, odds ===== -/
theorem mo_plan {B : BS} {X : IS} {s : SP} (h : RMo False B X s) (b1 : B 22 = none) (b2 : B 29 = none) (b3 : B 30 = none) (hw : WF s) {j : Nat} (hj : j < 10) {w n : Int32} (ew : X 16 j = w) (en : X 17 j = n) (hv : w = 0 ∨ (w = 1 ∧ ∃ t, t < nT s ∧ n = nI t) ∨ w = 2) : ∃ Y, f_X8_planned (nI j) X = some Y ∧ RMo False B Y (ePlan s w n) := by
  have hT : nT s ≤ 32 := hw.1.2.2
  have co : okI (nI j) 10 = true := okI_nI hj (by omega)
  unfold ePlan
  by_cases h0 : w = 0
  · rw [if_pos h0]
    obtain ⟨Y, y1, y2⟩ := mo_round h b1 b2 b3 hw
    refine ⟨Y, ?_, y2⟩
    rw [f_X8_planned, if_pos co, if_pos co, nI_clamp (by omega), ew, if_pos h0, y1, some_bind]
  · rw [if_neg h0]
    by_cases h2 : w = 2
    · rw [if_pos h2]
      refine ⟨_, ?_, mo_sd h n⟩
      rw [f_X8_planned, if_pos co, if_pos co, nI_clamp (by omega), ew, if_neg h0, if_pos co, if_pos h2, en]
    · rw [if_neg h2]
      obtain ⟨t, ht, e⟩ : ∃ t, t < nT s ∧ n = nI t := by
        rcases hv with q | q | q
        · exact absurd q h0
        · exact q.2
        · exact absurd q h2
      have c1 : ¬ (n < 0 ∨ nI (nT s) ≤ n) := fun q => by
        rw [e] at q
        exact q.elim (nI_lt0 (by omega)) (nI_ge ht (by omega))
      rw [if_neg c1, e, nI_clamp (by omega)]
      have eE := mt_isEnded h.2.2.1 ht
      rw [e] at en
      by_cases h3 : tf s 3 t < 3
      · rw [if_pos h3]
        rw [if_pos h3] at eE
        obtain ⟨Y, y1, y2⟩ := mo_cancelOne h b1 b2 b3 hw ht
        obtain ⟨k1, k2, k3⟩ := eCl_k (belE s t) s (nT s)
        obtain ⟨Z, z1, z2⟩ := mo_goesUp y2 b1 b2 b3 (wf_clT hw (belE_cl s t)) (t := t) (by omega)
        refine ⟨Z, ?_, z2⟩
        rw [f_X8_planned, if_pos co, if_pos co, nI_clamp (by omega), ew, if_neg h0, if_pos co, if_neg h2, en, eE, some_bind, if_pos rfl, y1, some_bind, z1, some_bind]
      · rw [if_neg h3]
        rw [if_neg h3] at eE
        refine ⟨X, ?_, h⟩
        rw [f_X8_planned, if_pos co, if_pos co, nI_clamp (by omega), ew, if_neg h0, if_pos co, if_neg h2, en, eE, some_bind, if_neg z10]
theorem sc_ends : SC_ends INV := by
  intro Ic Jc Im Jm h x
  have hq := inv_q h
  obtain ⟨s, si, h1, h2, h3, h4, h5, h6, h7⟩ := h
  obtain ⟨sa, ha⟩ := h5
  have mF : ¬ ((0 : Int32) ≤ x ∧ x ≤ 1) → f_X8_in x.toInt64 (0 : Int64) (1 : Int64) = some 0 := m_inF x 0 1
  have mT : ((0 : Int32) ≤ x ∧ x ≤ 1) → f_X8_in x.toInt64 (0 : Int64) (1 : Int64) = some 1 := m_inT x 0 1
  by_cases c1 : x < 0
  · refine ⟨(-1, Ic), (-1, u2 Im 0 29 0), ?_, ?_, rfl, hq⟩
    · rw [f_X7_ends, if_pos c1, f_X7_ends_b9]
    · rw [f_X8_ends, mF (fun q => not_le_lt c1 q.1), some_bind, if_pos rfl]
  · by_cases c2 : x ≤ 1
    · obtain ⟨q, q1, q2, q3⟩ := become_at 69 1 h1 ha
      have wA := wf_lg h2 (lg sa)
      obtain ⟨J0, o1, o2, o3⟩ := mo_open (mo_29 (mo_b0 h3) 0) (B0_n (by omega))
      obtain ⟨p1, p2, p3⟩ := h1.2.2.2.2.2.2.2.2.1
      have p1 : Ic 29 2 = nI (tol s).2.1.length := p1
      have p3 : ∀ k, k < (tol s).2.1.length → (tol s).2.1[k]? = some (Ic 30 k, Ic 31 k) := p3
      have t2 := h2.2.2.2.2.2.2.2.1
      have key := loop2 (fun fu j (J : IS) => f_X7_ends_b24 fu x (nI j) J) (fun fu j (X : IS) => f_X8_ends_b23 fu x (nI j) X) (tol s).2.1.length (fun _ J X => ∃ s', RWo (zI 69 J) s' ∧ FR69 Ic J ∧ RMo False (B1 J0) X s' ∧ WF s' ∧ tol s' = tol s ∧ nT s' = nT s) (fun r q => r.1 = q.1 ∧ INV r.2 Jc q.2 Jm) (fun fu fv J X hP => by
        obtain ⟨s', a1, a2, a3, a4, a5, a6⟩ := hP
        obtain ⟨J', e1, e2, -⟩ := mo_again (mo_b10 o2 a3) (by rw [b1_20 a3]; exact o3) h2.1.2.1
        have hI : INV J Jc J' Jm := inv_asked h1 h2 e2 h4 h6 h7 a2 a1
        have l1 : J 29 2 = nI (tol s).2.1.length := by rw [a2 29 (by omega)]; exact p1
        have l2 : X 0 21 = nI (tol s).2.1.length := by
          have := a3.2.2.2.2.1.2.1.1
          rw [a5] at this
          exact this
        have hb : ∀ v, f_X8_ends_b57 v X = some (v, J') := fun v => by rw [f_X8_ends_b57, e1, some_bind]
        have hc : f_X7_ends_b24 (fu + 1) x (nI (tol s).2.1.length) J = (if x = 0 then ((f_X4_howManyEnded (zI 79 J)).bind fun q5 => f_X7_ends_b102 q5 J) else ((f_X4_worthOfAllDone (zI 79 J)).bind fun q3 => f_X7_ends_b102 q3 J)) := by
          rw [f_X7_ends_b24, l1, if_pos ((nI_leI (by omega) (by omega)).mpr (Nat.le_refl _))]
        have hm : f_X8_ends_b23 (fv + 1) x (nI (tol s).2.1.length) X = (if x = 0 then ((f_X8_endedMany X).bind fun q5 => f_X8_ends_b57 q5 X) else ((f_X8_worthAll X).bind fun q3 => f_X8_ends_b57 q3 X)) := by
          rw [f_X8_ends_b23, l2, if_pos ((nI_leI (by omega) (by omega)).mpr (Nat.le_refl _))]
        rw [hc, hm]
        by_cases x0 : x = 0
        · rw [if_pos x0, if_pos x0, tas_ended (c_askT a1), mt_ended a3.2.2.1, some_bind, some_bind, hb, f_X7_ends_b102]
          exact ⟨_, _, rfl, rfl, rfl, hI⟩
        · rw [if_neg x0, if_neg x0, tas_worths (c_askT a1), mt_worths a3.2.2.1, some_bind, some_bind, hb, f_X7_ends_b102]
          exact ⟨_, _, rfl, rfl, rfl, hI⟩) (fun fu fv j J X hj hP => by
        obtain ⟨s', a1, a2, a3, a4, a5, a6⟩ := hP
        have l1 : J 29 2 = nI (tol s).2.1.length := by rw [a2 29 (by omega)]; exact p1
        have l2 : X 0 21 = nI (tol s).2.1.length := by
          have := a3.2.2.2.2.1.2.1.1
          rw [a5] at this
          exact this
        have e1 := p3 j hj
        have e2 := a3.2.2.2.2.1.2.1.2.2 j (by rw [a5]; exact hj)
        rw [a5, e1] at e2
        have e3 := Option.some.inj e2
        have e16 : X 16 j = Ic 30 j := (congrArg Prod.fst e3).symm
        have e17 : X 17 j = Ic 31 j := (congrArg Prod.snd e3).symm
        have hv := t2 (Ic 30 j, Ic 31 j) (List.mem_of_getElem? e1)
        have hv : Ic 30 j = 0 ∨ (Ic 30 j = 1 ∧ ∃ t, t < nT s' ∧ Ic 31 j = nI t) ∨ Ic 30 j = 2 := by
          rw [a6]
          exact hv
        have c1' : ¬ nI (tol s).2.1.length ≤ nI j := nI_ge hj (by omega)
        have co : okI (nI j) 10 = true := okI_nI (by omega) (by omega)
        obtain ⟨Q, k1, k2⟩ := wor_plan a1 a4 (Ic 30 j) (Ic 31 j)
        obtain ⟨Y, y1, y2⟩ := mo_plan a3 (B1_n (by omega)) (B1_n (by omega)) (B1_n (by omega)) a4 (by omega) e16 e17 hv
        obtain ⟨w1, w2, w3⟩ := wf_plan a4 (Ic 30 j) (Ic 31 j)
        refine ⟨gI 69 34 Q J, Y, ⟨_, rwo_69 k2, fr69_g a2, y2, w1, (tol_plan a4 _ _).trans a5, w3.trans a6⟩, ?_, ?_⟩
        · show f_X7_ends_b24 (fu + 1) x (nI j) J = f_X7_ends_b24 fu x (nI (j + 1)) _
          rw [f_X7_ends_b24, l1, if_neg c1', if_pos co, if_pos co, nI_clamp (by omega), a2 30 (by omega), a2 31 (by omega), k1, some_bind, nI_1]
        · show f_X8_ends_b23 (fv + 1) x (nI j) X = f_X8_ends_b23 fv x (nI (j + 1)) _
          rw [f_X8_ends_b23, l2, if_neg c1', y1, some_bind, nI_1]) (tol s).2.1.length 0 LF LF (gI 69 34 q Ic) J0 (by omega) (by unfold LF; omega) (by unfold LF; omega) ⟨wLg s (lg sa), rwo_69 q3, fr69_g (fr69_r Ic), mo_untrack (mo_b1 o2) (lg sa), wA, rfl, rfl⟩
      obtain ⟨r, r', k1, k2, k3, k4⟩ := key
      refine ⟨r, r', ?_, ?_, k3, k4⟩
      · rw [f_X7_ends, if_neg c1, if_pos c2, q1, some_bind, q2]
        exact k1
      · rw [f_X8_ends, mT ⟨le0_of c1, c2⟩, some_bind, if_neg z10, o1, some_bind]
        exact k2
    · refine ⟨(-1, Ic), (-1, u2 Im 0 29 0), ?_, ?_, rfl, hq⟩
      · rw [f_X7_ends, if_neg c1, if_neg c2, f_X7_ends_b9]
      · rw [f_X8_ends, mF (fun q => c2 q.2), some_bind, if_pos rfl]
/-! once all is over rounds change nothing but what arms wait -/
theorem quiet_arm {s : SP} (h : WF s) (hb : ¬ busy s) {a : Nat} (ha : a < na s) : eArm s a = eIdl s a := by
  have q : ∀ b, b < na s → rw_ s b = [] ∧ af s 0 b = -5 := fun b hb' => by
    refine ⟨?_, ?_⟩
    · cases hr : rw_ s b with
      | nil => rfl
      | cons x l => exact absurd (Or.inl ⟨b, hb', Or.inl (by rw [hr]; exact List.cons_ne_nil x l)⟩) hb
    · by_cases c : af s 0 b = -5
      · exact c
      · exact absurd (Or.inl ⟨b, hb', Or.inr c⟩) hb
  have hf : ∀ n, n ≤ na s → fl s a n = [] := by
    intro n
    induction n with
    | zero => intro _; rfl
    | succ n ih =>
      intro hn
      unfold fl
      rw [if_neg (fun q' => (full_iff.mp q').2 (by rw [(q n (by omega)).1]; rfl))]
      exact ih (by omega)
  have hl : (rw_ s a).getLast? = none := by rw [(q a ha).1]; rfl
  have hd : eDr s a = (none, s) := by
    unfold eDr
    rw [if_pos (by rw [hf (na s) (Nat.le_refl _)]; rfl)]
  unfold eArm
  rw [if_pos (q a ha).2]
  exact eTake_idle hl hd
theorem busy_idl (s : SP) (a : Nat) : busy (eIdl s a) ↔ busy s := by
  have e1 : ∀ b, rw_ (eIdl s a) b = rw_ s b := fun b => uA_r s a _ _ _ b
  have e2 : ∀ b, af (eIdl s a) 0 b = af s 0 b := fun b => by
    unfold eIdl
    rw [uA_f0]
    by_cases hb : b = a
    · rw [if_pos hb, hb]
    · rw [if_neg hb]
  have e3 : na (eIdl s a) = na s := rfl
  have e4 : nT (eIdl s a) = nT s := rfl
  have e5 : tf (eIdl s a) = tf s := rfl
  unfold busy
  simp only [e1, e2, e3, e4, e5]
theorem quiet_arms {s : SP} (h : WF s) (hb : ¬ busy s) : ∀ n, n ≤ na s → ¬ busy (eArms s n) ∧ LGX 0 s (eArms s n) := by
  intro n
  induction n with
  | zero => intro _; exact ⟨hb, lgx_0 rfl rfl⟩
  | succ n ih =>
    intro hn
    obtain ⟨i1, i2⟩ := ih (by omega)
    obtain ⟨w1, w2, -⟩ := wf_arms h n (by omega)
    have e := quiet_arm w1 i1 (a := n) (by omega)
    show ¬ busy (eArm (eArms s n) n) ∧ LGX 0 s (eArm (eArms s n) n)
    rw [e, busy_idl]
    exact ⟨i1, lgx_t i2 (lgx_uA _ _ _ _ _ _)⟩
theorem quiet_round {s : SP} (h : WF s) (hb : ¬ busy s) : ¬ busy (eRound s) ∧ LGX 0 s (eRound s) := by
  obtain ⟨i1, i2⟩ := quiet_arms h hb (na s) (Nat.le_refl _)
  unfold eRound
  generalize eArms s (na s) = s2 at i1 i2 ⊢
  have g2 : LGX 0 s2 (wRd s2 (rd s2 + 1)) := lgx_0 rfl rfl
  exact ⟨i1, lgx_t i2 g2⟩
theorem eRounds_add (s : SP) (m : Nat) : ∀ d, eRounds s (m + d) = eRounds (eRounds s m) d := by
  intro d
  induction d with
  | zero => rfl
  | succ d ih =>
    show eRound (eRounds s (m + d)) = eRound (eRounds (eRounds s m) d)
    rw [ih]
theorem quiet_rounds {s : SP} (h : WF s) (hb : ¬ busy s) : ∀ n, ¬ busy (eRounds s n) ∧ LGX 0 s (eRounds s n) := by
  intro n
  induction n with
  | zero => exact ⟨hb, lgx_0 rfl rfl⟩
  | succ n ih =>
    obtain ⟨j1, j2⟩ := quiet_round (wf_rounds h n).1 ih.1
    exact ⟨j1, lgx_t ih.2 j2⟩
theorem stop_busy {s : SP} (h : WF s) {n m : Nat} (hs : isStop s n m) : (busy (eRounds s m) ↔ busy (eRounds s n)) ∧ lg (eRounds s n) = lg (eRounds s m) := by
  obtain ⟨s1, s2, -⟩ := hs
  rcases s2 with rfl | s2
  · exact ⟨Iff.rfl, rfl⟩
  · obtain ⟨q1, -, l, q2, q3⟩ := quiet_rounds (wf_rounds h m).1 s2 (n - m)
    rw [← eRounds_add s m (n - m), show m + (n - m) = n by omega] at q1 q2
    refine ⟨⟨fun q => absurd q s2, fun q => absurd q q1⟩, ?_⟩
    have : l = [] := List.length_eq_zero_iff.mp (by omega)
    rw [q2, this, List.append_nil]
theorem sc_odds : SC_odds INV := by
  intro Ic Jc Im Jm h x y
  have hq := inv_q h
  obtain ⟨s, si, h1, h2, h3, h4, h5, h6, h7⟩ := h
  obtain ⟨sa, ha⟩ := h5
  have nF : ¬ ((0 : Int32) ≤ x ∧ x ≤ 60) → f_X8_in x.toInt64 (0 : Int64) (60 : Int64) = some 0 := m_inF x 0 60
  have nT' : ((0 : Int32) ≤ x ∧ x ≤ 60) → f_X8_in x.toInt64 (0 : Int64) (60 : Int64) = some 1 := m_inT x 0 60
  have mF : ¬ ((0 : Int32) ≤ y ∧ y ≤ 1) → f_X8_in y.toInt64 (0 : Int64) (1 : Int64) = some 0 := m_inF y 0 1
  have mT : ((0 : Int32) ≤ y ∧ y ≤ 1) → f_X8_in y.toInt64 (0 : Int64) (1 : Int64) = some 1 := m_inT y 0 1
  by_cases c1 : x < 0
  · refine ⟨(-9223372036854775808, Ic), (-9223372036854775808, u2 Im 0 29 0), ?_, ?_, rfl, hq⟩
    · rw [f_X7_odds, if_pos c1, f_X7_odds_b19]
    · rw [f_X8_odds, nF (fun q => not_le_lt c1 q.1), some_bind, if_pos rfl, f_X8_odds_b27]
  · by_cases c2 : 60 < x
    · refine ⟨(-9223372036854775808, Ic), (-9223372036854775808, u2 Im 0 29 0), ?_, ?_, rfl, hq⟩
      · rw [f_X7_odds, if_neg c1, if_pos c2, f_X7_odds_b19]
      · rw [f_X8_odds, nF (fun q => not_le_lt c2 q.2), some_bind, if_pos rfl, f_X8_odds_b27]
    · have cx : (0 : Int32) ≤ x ∧ x ≤ 60 := ⟨le0_of c1, by
        rw [Int32.lt_iff_toInt_lt] at c2
        rw [Int32.le_iff_toInt_le]
        omega⟩
      by_cases d1 : y < 0
      · refine ⟨(-9223372036854775808, Ic), (-9223372036854775808, u2 Im 0 29 0), ?_, ?_, rfl, hq⟩
        · rw [f_X7_odds, if_neg c1, if_neg c2, if_pos d1, f_X7_odds_b19]
        · rw [f_X8_odds, nT' cx, some_bind, if_neg z10, mF (fun q => not_le_lt d1 q.1), some_bind, if_pos rfl, f_X8_odds_b27]
      · by_cases d2 : y ≤ 1
        · obtain ⟨n, hn, rfl⟩ := nI_up (n := 60) (by omega) c1 cx.2
          obtain ⟨J0, o1, o2, o3⟩ := mo_open (mo_29 (mo_b0 h3) 0) (B0_n (by omega))
          have key := loop2 (fun fu j (q : Int32 × IS) => f_X7_odds_b28 fu (nI n) y q.1 (nI j) q.2) (fun fu j (q : Int32 × IS) => f_X8_odds_b40 fu (nI n) y q.1 (nI j) q.2) 20 (fun j q q' => q.1 = q'.1 ∧ (∃ v, v ≤ j ∧ q.1 = nI v) ∧ (∃ s', RWo (zI 69 q.2) s') ∧ FR69 Ic q.2 ∧ RMo False (B1 J0) q'.2 s) (fun r q => r.1 = q.1 ∧ INV r.2 Jc q.2 Jm) ?_ ?_ 20 0 LF LF (0, Ic) (0, J0) (by omega) (by unfold LF; omega) (by unfold LF; omega) ⟨rfl, ⟨0, by omega, rfl⟩, ⟨sa, ha⟩, fr69_r Ic, mo_b1 o2⟩
          · obtain ⟨r, r', k1, k2, k3, k4⟩ := key
            refine ⟨r, r', ?_, ?_, k3, k4⟩
            · rw [f_X7_odds, if_neg c1, if_neg c2, if_neg d1, if_pos d2]
              exact k1
            · rw [f_X8_odds, nT' cx, some_bind, if_neg z10, mT ⟨le0_of d1, d2⟩, some_bind, if_neg z10, o1, some_bind]
              exact k2
          · rintro fu fv ⟨v, J⟩ ⟨v', X⟩ ⟨g1, ⟨w, w1, w2⟩, ⟨s', g3⟩, g4, g5⟩
            have g1 : v = v' := g1
            subst g1
            have w2 : v = nI w := w2
            obtain ⟨r, r1, r2⟩ := both_low (a := w) (b := 20) (by omega) (by omega) (by omega) y
            have c20 : (20 : Int32) ≤ nI 20 := by decide
            refine ⟨(r.toInt64, J), (r.toInt64, X), ?_, ?_, rfl, inv_asked h1 h2 (mo_b10 o2 g5) h4 h6 h7 g4 g3⟩
            · show f_X7_odds_b28 (fu + 1) (nI n) y v (nI 20) J = _
              rw [f_X7_odds_b28, if_pos c20, w2]
              have r1 : f_X7_lowest (nI w) 20 y = some r := r1
              rw [r1, some_bind]
            · show f_X8_odds_b40 (fv + 1) (nI n) y v (nI 20) X = _
              rw [f_X8_odds_b40, if_pos c20, w2]
              have r2 : f_X8_partOf (nI w).toInt64 20 y = some r.toInt64 := r2
              rw [r2, some_bind]
          · rintro fu fv j ⟨v, J⟩ ⟨v', X⟩ hj ⟨g1, ⟨w, w1, w2⟩, ⟨s', g3⟩, g4, g5⟩
            have g1 : v = v' := g1
            subst g1
            have w2 : v = nI w := w2
            have g3 : RWo (zI 69 J) s' := g3
            have g4 : FR69 Ic J := g4
            have g5 : RMo False (B1 J0) X s := g5
            have c20 : ¬ (20 : Int32) ≤ nI j := nI_ge (b := 20) hj (by omega)
            obtain ⟨q, q1, q2, q3⟩ := become_at 69 1 (rwo_congr h1 (fun k hk => g4 _ (by omega))) g3
            have gs := rwo_sd (rwo_69 (I := J) q3) (nI j)
            rw [← zI_u2 (e := 69) (i := 0)] at gs
            have gs : RWo (zI 69 (u2 (gI 69 34 q J) 69 7 (nI j))) (wSd (wLg s (lg s')) (nI j)) := gs
            have wA : WF (wSd (wLg s (lg s')) (nI j)) := wf_sd (wf_lg h2 (lg s')) (nI j)
            obtain ⟨Q, e1, m, e2, e3⟩ := wor_tillOver gs wA (n := n) (by omega)
            have mS := mo_sd (mo_untrack g5 (lg s')) (nI j)
            have sb := (stop_busy wA e2).1
            obtain ⟨wm1, wm2, -⟩ := wf_rounds wA m
            obtain ⟨wn1, wn2, -⟩ := wf_rounds wA n
            have hR := rwo_69 (I := u2 (gI 69 34 q J) 69 7 (nI j)) e3
            obtain ⟨Y, y1, y2⟩ := mo_rounds mS (B1_n (by omega)) (B1_n (by omega)) (B1_n (by omega)) wA (n := n) (by omega)
            obtain ⟨o, oo1, oo2⟩ := wor_isOver hR wm1.1.2.1
            obtain ⟨o', oo1', oo2'⟩ := mo_isOver y2 wn1
            have oe : o = o' := by
              rcases oo2 with ⟨p1, p2⟩ | ⟨p1, p2⟩
              · rcases oo2' with ⟨p3, p4⟩ | ⟨p3, p4⟩
                · rw [p1, p3]
                · exact absurd (sb.mpr p4) p2
              · rcases oo2' with ⟨p3, p4⟩ | ⟨p3, p4⟩
                · exact absurd (sb.mp p2) p4
                · rw [p1, p3]
            subst oe
            obtain ⟨Z, z1, z2, z3⟩ := mo_again y2 (by rw [b1_20 y2]; exact o3) h2.1.2.1
            have hF : FR69 Ic (gI 69 34 Q (u2 (gI 69 34 q J) 69 7 (nI j))) := fr69_g (fun i hi => by
              rw [u2_oth _ _ _ (by omega)]
              exact fr69_g g4 i hi)
            have hc : f_X7_odds_b28 (fu + 1) (nI n) y v (nI j) J = (if o = 0 then f_X7_odds_b28 fu (nI n) y v (nI (j + 1)) (gI 69 34 Q (u2 (gI 69 34 q J) 69 7 (nI j))) else f_X7_odds_b28 fu (nI n) y (v + 1) (nI (j + 1)) (gI 69 34 Q (u2 (gI 69 34 q J) 69 7 (nI j)))) := by
              rw [f_X7_odds_b28, if_neg c20, q1, some_bind, q2, e1, some_bind, oo1, some_bind, f_X7_odds_b76, f_X7_odds_b76, nI_1]
            have hm : f_X8_odds_b40 (fv + 1) (nI n) y v (nI j) X = (if o = 0 then f_X8_odds_b40 fv (nI n) y v (nI (j + 1)) Z else f_X8_odds_b40 fv (nI n) y (v + 1) (nI (j + 1)) Z) := by
              rw [f_X8_odds_b40, if_neg c20, y1, some_bind, oo1', some_bind, f_X8_odds_b71, f_X8_odds_b71, z1, some_bind, some_bind, nI_1, Int32.add_zero]
            show ∃ (q q' : Int32 × IS), _ ∧ f_X7_odds_b28 (fu + 1) (nI n) y v (nI j) J = f_X7_odds_b28 fu (nI n) y q.1 (nI (j + 1)) q.2 ∧ f_X8_odds_b40 (fv + 1) (nI n) y v (nI j) X = f_X8_odds_b40 fv (nI n) y q'.1 (nI (j + 1)) q'.2
            rw [hc, hm]
            by_cases o0 : o = 0
            · rw [if_pos o0, if_pos o0]
              exact ⟨(v, gI 69 34 Q (u2 (gI 69 34 q J) 69 7 (nI j))), (v, Z), ⟨rfl, ⟨w, by omega, w2⟩, ⟨_, hR⟩, hF, z2⟩, rfl, rfl⟩
            · rw [if_neg o0, if_neg o0]
              exact ⟨(v + 1, gI 69 34 Q (u2 (gI 69 34 q J) 69 7 (nI j))), (v + 1, Z), ⟨rfl, ⟨w + 1, by omega, by show v + 1 = _; rw [w2, nI_1]⟩, ⟨_, hR⟩, hF, z2⟩, rfl, rfl⟩
        · refine ⟨(-9223372036854775808, Ic), (-9223372036854775808, u2 Im 0 29 0), ?_, ?_, rfl, hq⟩
          · rw [f_X7_odds, if_neg c1, if_neg c2, if_neg d1, if_neg d2, f_X7_odds_b19]
          · rw [f_X8_odds, nT' cx, some_bind, if_neg z10, mF (fun q => d2 q.2), some_bind, if_pos rfl, f_X8_odds_b27]
