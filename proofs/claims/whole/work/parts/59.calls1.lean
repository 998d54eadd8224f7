/-! ===== the calls: arms, seed, pass, cancel, trace ===== -/
theorem m_inF (x lo hi : Int32) (h : ¬ (lo ≤ x ∧ x ≤ hi)) : f_X8_in x.toInt64 lo.toInt64 hi.toInt64 = some 0 := by
  rw [m_in, if_neg h]
theorem m_inT (x lo hi : Int32) (h : lo ≤ x ∧ x ≤ hi) : f_X8_in x.toInt64 lo.toInt64 hi.toInt64 = some 1 := by
  rw [m_in, if_pos h]
theorem le1_of {x : Int32} (h : ¬ x < 1) : (1 : Int32) ≤ x := by
  rw [Int32.lt_iff_toInt_lt] at h
  rw [Int32.le_iff_toInt_le]
  omega
theorem le0_of {x : Int32} (h : ¬ x < 0) : (0 : Int32) ≤ x := by
  rw [Int32.lt_iff_toInt_lt] at h
  rw [Int32.le_iff_toInt_le]
  omega
theorem not_le_lt {x y : Int32} (h : x < y) : ¬ y ≤ x := by
  rw [Int32.lt_iff_toInt_lt] at h
  rw [Int32.le_iff_toInt_le]
  omega
theorem nI_up {x : Int32} {n : Nat} (hn : n < 2 ^ 31) (h0 : ¬ x < 0) (h : x ≤ nI n) : ∃ k, k ≤ n ∧ x = nI k := by
  obtain ⟨j, hj, rfl⟩ := nI_of h0
  exact ⟨j, (nI_leI hj hn).mp h, rfl⟩
theorem sc_arms : SC_arms INV := by
  intro Ic Jc Im Jm h x
  have hq := inv_q h
  obtain ⟨s, si, h1, h2, h3, h4, h5, h6, h7⟩ := h
  have e6 : Ic 1 6 = nI (na s) := h1.2.2.2.2.1
  have mF : ¬ ((1 : Int32) ≤ x ∧ x ≤ 4) → f_X8_in x.toInt64 (1 : Int64) (4 : Int64) = some 0 := m_inF x 1 4
  have mT : ((1 : Int32) ≤ x ∧ x ≤ 4) → f_X8_in x.toInt64 (1 : Int64) (4 : Int64) = some 1 := m_inT x 1 4
  by_cases c1 : x < 1
  · refine ⟨(-2, Ic), (-2, u2 Im 0 29 0), ?_, ?_, rfl, hq⟩
    · rw [f_X7_arms, if_pos c1, f_X7_arms_b10]
    · rw [f_X8_arms, mF (fun q => not_le_lt c1 q.1), some_bind, if_pos rfl]
  · by_cases c2 : x ≤ 4
    · obtain ⟨n, hn4, rfl⟩ := nI_up (n := 4) (by omega) (fun q => c1 (by
        rw [Int32.lt_iff_toInt_lt] at q ⊢
        have : (1 : Int32).toInt = 1 := rfl
        have : (0 : Int32).toInt = 0 := rfl
        omega)) c2
      have hn1 : 1 ≤ n := by
        rcases Nat.eq_zero_or_pos n with q | q
        · rw [q] at c1
          exact absurd (by decide) c1
        · exact q
      obtain ⟨J, j1, j2⟩ := wor_chg h1 h2 hn1 hn4
      obtain ⟨J', k1, k2⟩ := mo_chg (mo_29 (mo_b0 h3) 0) h2 hn1 hn4
      have w := wf_chg h2 hn1 hn4
      have e0 : u2 Im 0 29 0 0 0 = nI (na s) := by
        rw [u2_ne _ _ (Or.inr (by omega))]
        exact h3.2.2.2.2.2.1.1
      refine ⟨(nI (na s), gI 1 34 J Ic), (nI (na s), J'), ?_, ?_, rfl, inv_now j2 w.1 k2 h4 h5 h6 h7⟩
      · rw [f_X7_arms, if_neg c1, if_pos c2, j1, some_bind, e6]
      · rw [f_X8_arms, mT ⟨le1_of c1, c2⟩, some_bind, if_neg z10, k1, some_bind, e0]
    · refine ⟨(-2, Ic), (-2, u2 Im 0 29 0), ?_, ?_, rfl, hq⟩
      · rw [f_X7_arms, if_neg c1, if_neg c2, f_X7_arms_b10]
      · rw [f_X8_arms, mF (fun q => c2 q.2), some_bind, if_pos rfl]
theorem sc_seed : SC_seed INV := by
  intro Ic Jc Im Jm h x
  obtain ⟨s, si, h1, h2, h3, h4, h5, h6, h7⟩ := h
  have e7 : Ic 1 7 = sd s := h1.2.2.2.2.2.1
  have e14 : u2 Im 0 29 0 0 14 = sd s := by
    rw [u2_ne _ _ (Or.inr (by omega))]
    exact h3.2.2.2.2.2.1.2.1
  refine ⟨_, _, rfl, rfl, ?_, ?_⟩
  · show Ic 1 7 = u2 Im 0 29 0 0 14
    rw [e7, e14]
  · have g := rwo_sd h1 x
    rw [← zI_u2 (e := 1) (i := 0)] at g
    refine inv_of g (wf_sd h2 x) (mo_sd (mo_29 (mo_b0 h3) 0) x) h4 ?_ h6 h7 (fun j hj => u2_oth _ _ _ (by omega))
    obtain ⟨sa, ha⟩ := h5
    exact ⟨sa, rwo_congr ha (fun k hk => u2_oth _ _ _ (by omega))⟩
theorem sc_pass : SC_pass INV := by
  intro Ic Jc Im Jm h x
  have hq := inv_q h
  obtain ⟨s, si, h1, h2, h3, h4, h5, h6, h7⟩ := h
  have e8 : Ic 1 8 = rd s := h1.2.2.2.2.2.2.1
  have e15 : u2 Im 0 29 0 0 15 = rd s := by
    rw [u2_ne _ _ (Or.inr (by omega))]
    exact h3.2.2.2.2.2.1.2.2
  have mF : ¬ ((0 : Int32) ≤ x ∧ x ≤ 60) → f_X8_in x.toInt64 (0 : Int64) (60 : Int64) = some 0 := m_inF x 0 60
  have mT : ((0 : Int32) ≤ x ∧ x ≤ 60) → f_X8_in x.toInt64 (0 : Int64) (60 : Int64) = some 1 := m_inT x 0 60
  by_cases c1 : x < 0
  · refine ⟨(-2, Ic), (-2, u2 Im 0 29 0), ?_, ?_, rfl, hq⟩
    · rw [f_X7_pass, if_pos c1, f_X7_pass_b10]
    · rw [f_X8_pass, mF (fun q => not_le_lt c1 q.1), some_bind, if_pos rfl]
  · by_cases c2 : x ≤ 60
    · by_cases c3 : rd s + x ≤ 9999
      · obtain ⟨n, hn, rfl⟩ := nI_up (n := 60) (by omega) c1 c2
        obtain ⟨J, j1, j2⟩ := wor_rounds h1 h2 (n := n) (by omega)
        obtain ⟨J', k1, k2⟩ := mo_rounds (mo_29 (mo_b0 h3) 0) (B0_n (by omega)) (B0_n (by omega)) (B0_n (by omega)) h2 (n := n) (by omega)
        have w := wf_rounds h2 n
        have r1 : gI 1 34 J Ic 1 8 = rd (eRounds s n) := by
          rw [show gI 1 34 J Ic 1 = J 0 from gI_in (i := 0) (by omega)]
          exact j2.2.2.2.2.2.2.1
        have r2 : J' 0 15 = rd (eRounds s n) := k2.2.2.2.2.2.1.2.2
        refine ⟨(rd (eRounds s n), gI 1 34 J Ic), (rd (eRounds s n), J'), ?_, ?_, rfl, inv_now j2 w.1 k2 h4 h5 h6 h7⟩
        · rw [f_X7_pass, if_neg c1, if_pos c2, e8, if_pos c3, j1, some_bind, r1]
        · rw [f_X8_pass, mT ⟨le0_of c1, c2⟩, some_bind, if_neg z10, e15, if_pos c3, k1, some_bind, r2]
      · refine ⟨(-3, Ic), (-3, u2 Im 0 29 0), ?_, ?_, rfl, hq⟩
        · rw [f_X7_pass, if_neg c1, if_pos c2, e8, if_neg c3]
        · rw [f_X8_pass, mT ⟨le0_of c1, c2⟩, some_bind, if_neg z10, e15, if_neg c3]
    · refine ⟨(-2, Ic), (-2, u2 Im 0 29 0), ?_, ?_, rfl, hq⟩
      · rw [f_X7_pass, if_neg c1, if_neg c2, f_X7_pass_b10]
      · rw [f_X8_pass, mF (fun q => c2 q.2), some_bind, if_pos rfl]
theorem zz_11 {I : IS} : zI 11 I = zI 10 (zI 1 I) := by
  funext j
  show I (11 + j) = I (1 + (10 + j))
  congr 1
  omega
theorem c_tas {I : IS} {s : SP} (h : RWo (zI 1 I) s) : RTa (zI 11 I) (nT s) (tf s) := by
  rw [zz_11]
  exact h.2.1
theorem sc_cancel : SC_cancel INV := by
  intro Ic Jc Im Jm h x
  have hq := inv_q h
  obtain ⟨s, si, h1, h2, h3, h4, h5, h6, h7⟩ := h
  have hT : nT s ≤ 32 := h2.1.2.2
  have g3 := mo_29 (mo_b0 h3) 0
  have hh := c_has (c_tas h1) x
  have ht := mt_isTask g3.2.2.1 x
  by_cases c : x < 0 ∨ nI (nT s) ≤ x
  · rw [if_pos c] at hh ht
    refine ⟨(-1, Ic), (-1, u2 Im 0 29 0), ?_, ?_, rfl, hq⟩
    · rw [f_X7_cancel, hh, some_bind, if_pos rfl]
    · rw [f_X8_cancel, ht, some_bind, if_pos rfl]
  · rw [if_neg c] at hh ht
    obtain ⟨t, htT, rfl⟩ := ix_of (by omega) c
    have e1 := tas_isEnded (c_tas h1) htT
    have e2 := mt_isEnded g3.2.2.1 htT
    by_cases c3 : tf s 3 t < 3
    · rw [if_pos c3] at e1 e2
      obtain ⟨J, j1, j2⟩ := wor_cancelByHand h1 h2.1.2.1 (wf_p h2) (wf_d h2) htT
      obtain ⟨X, x1, x2⟩ := mo_cancelOne g3 (B0_n (by omega)) (B0_n (by omega)) (B0_n (by omega)) h2 htT
      have w1 := wf_clT h2 (belE_cl s t)
      obtain ⟨b1, b2, b3⟩ := eCl_k (belE s t) s (nT s)
      obtain ⟨J', k1, k2⟩ := mo_goesUp x2 (B0_n (by omega)) (B0_n (by omega)) (B0_n (by omega)) w1 (t := t) (by omega)
      refine ⟨(nI (eCl (belE s t) s (nT s)).1, gI 1 34 J Ic), (nI (eCl (belE s t) s (nT s)).1, J'), ?_, ?_, rfl, inv_now j2 (wf_hand h2 htT) k2 h4 h5 h6 h7⟩
      · rw [f_X7_cancel, hh, some_bind, if_neg z10, e1, some_bind, if_pos rfl, j1, some_bind, f_X7_cancel_b43]
      · rw [f_X8_cancel, ht, some_bind, if_neg z10, e2, some_bind, if_pos rfl, x1, some_bind, k1, some_bind]
    · rw [if_neg c3] at e1 e2
      refine ⟨(-3, Ic), (-3, u2 Im 0 29 0), ?_, ?_, rfl, hq⟩
      · rw [f_X7_cancel, hh, some_bind, if_neg z10, e1, some_bind, if_neg z10, f_X7_cancel_b43]
      · rw [f_X8_cancel, ht, some_bind, if_neg z10, e2, some_bind, if_neg z10]
theorem zz {I : IS} {a b c : Nat} (h : c = a + b) : zI c I = zI b (zI a I) := by
  subst h
  funext j
  show I (a + b + j) = I (a + (b + j))
  congr 1
  omega
theorem sc_trace : SC_trace INV := by
  intro Ic Jc Im Jm h x y
  have hq := inv_q h
  obtain ⟨s, si, h1, h2, h3, h4, h5, h6, h7⟩ := h
  have hE : RTr (zI 20 Ic) (tr_ s) := by
    rw [zz (a := 1) (b := 19) rfl]
    exact h1.2.2.1
  have e := ent_entry hE x y
  obtain ⟨t1, t2, t3⟩ := h3.2.2.2.1
  have m := m_in0 x (n := (tr_ s).length) (by omega)
  have m2F : ¬ ((0 : Int32) ≤ y ∧ y ≤ 3) → f_X8_in y.toInt64 (0 : Int64) (3 : Int64) = some 0 := m_inF y 0 3
  have m2T : ((0 : Int32) ≤ y ∧ y ≤ 3) → f_X8_in y.toInt64 (0 : Int64) (3 : Int64) = some 1 := m_inT y 0 3
  have e16 : u2 Im 0 29 0 0 16 = nI (tr_ s).length := by
    rw [u2_ne _ _ (Or.inr (by omega))]
    exact t1
  have e13 : u2 Im 0 29 0 13 = Im 13 := u2_oth _ _ _ (by omega)
  have bad : ∀ r : Int32, r = -1 → f_X1_entry x y (zI 20 Ic) = some r → f_X8_trace x y Im = some (-1, u2 Im 0 29 0) → ∃ (qc : Int32) (qm : Int32 × IS), f_X7_trace x y Ic = some qc ∧ f_X8_trace x y Im = some qm ∧ qc = qm.1 ∧ INV Ic Jc qm.2 Jm := fun r hr r1 r2 => ⟨-1, (-1, u2 Im 0 29 0), by rw [f_X7_trace, r1, some_bind, hr], r2, rfl, hq⟩
  rcases pk_ix x (n := (tr_ s).length) (by omega) with c | c | ⟨k, hk, rfl⟩
  · rw [if_pos c] at e
    rw [if_pos (Or.inl c)] at m
    exact bad _ rfl e (by rw [f_X8_trace, e16, m, some_bind, if_pos rfl, f_X8_trace_b46, f_X8_trace_b47])
  · rw [if_pos (Or.inr c)] at m
    refine bad _ ?_ e (by rw [f_X8_trace, e16, m, some_bind, if_pos rfl, f_X8_trace_b46, f_X8_trace_b47])
    by_cases c0 : x < 0
    · rw [if_pos c0]
    · rw [if_neg c0]
      obtain ⟨j, hj, rfl⟩ := nI_of c0
      have := (nI_leI (by omega) hj).mp c
      rw [nI_clamp hj, List.getElem?_eq_none this]
  · rw [if_neg (fun q => q.elim (nI_lt0 (by omega)) (nI_ge hk (by omega)))] at m
    rw [if_neg (nI_lt0 (by omega)), nI_clamp (by omega), t3 k hk] at e
    have e : f_X1_entry (nI k) y (zI 20 Ic) = some (if y = 0 ∨ y = 1 ∨ y = 2 ∨ y = 3 then enF (en4 Im k) y else -1) := e
    have good : ∀ f : Nat, f < 4 → y = nI f → enF (en4 Im k) y = Im 13 (4 * k + f) → (y = 0 ∨ y = 1 ∨ y = 2 ∨ y = 3) → ∃ (qc : Int32) (qm : Int32 × IS), f_X7_trace (nI k) y Ic = some qc ∧ f_X8_trace (nI k) y Im = some qm ∧ qc = qm.1 ∧ INV Ic Jc qm.2 Jm := fun f hf hy hv ho => by
      rw [if_pos ho, hv] at e
      refine ⟨Im 13 (4 * k + f), (Im 13 (4 * k + f), u2 Im 0 29 0), by rw [f_X7_trace, e, some_bind], ?_, rfl, hq⟩
      have cy : (0 : Int32) ≤ y ∧ y ≤ 3 := by
        rw [hy]
        exact ⟨(nI_leI (a := 0) (by omega) (by omega)).mpr (by omega), (nI_leI (b := 3) (by omega) (by omega)).mpr (by omega)⟩
      have ei : (4 : Int32) * nI k + y = nI (4 * k + f) := by rw [nI_4m, hy, nI_add]
      rw [f_X8_trace, e16, m, some_bind, if_neg z10, m2T cy, some_bind, if_neg z10, ei, if_pos (okI_nI (by omega) (by omega)), e13, nI_clamp (by omega), f_X8_trace_b47]
    by_cases y0 : y = 0
    · exact good 0 (by omega) y0 (by rw [y0]; rfl) (Or.inl y0)
    · by_cases y1 : y = 1
      · exact good 1 (by omega) y1 (by rw [y1]; rfl) (Or.inr (Or.inl y1))
      · by_cases y2 : y = 2
        · exact good 2 (by omega) y2 (by rw [y2]; rfl) (Or.inr (Or.inr (Or.inl y2)))
        · by_cases y3 : y = 3
          · exact good 3 (by omega) y3 (by rw [y3]; rfl) (Or.inr (Or.inr (Or.inr y3)))
          · have no : ¬ (y = 0 ∨ y = 1 ∨ y = 2 ∨ y = 3) := fun q => by
              rcases q with q | q | q | q
              · exact y0 q
              · exact y1 q
              · exact y2 q
              · exact y3 q
            rw [if_neg no] at e
            refine bad _ rfl e ?_
            have cy : ¬ ((0 : Int32) ≤ y ∧ y ≤ 3) := fun q => by
              obtain ⟨f, hf, e'⟩ := nI_up (x := y) (n := 3) (by omega) (fun c => not_le_lt c q.1) q.2
              refine no ?_
              match f, hf with
              | 0, _ => exact Or.inl e'
              | 1, _ => exact Or.inr (Or.inl e')
              | 2, _ => exact Or.inr (Or.inr (Or.inl e'))
              | 3, _ => exact Or.inr (Or.inr (Or.inr e'))
            rw [f_X8_trace, e16, m, some_bind, if_neg z10, m2F cy, some_bind, if_pos rfl, f_X8_trace_b46, f_X8_trace_b47]
