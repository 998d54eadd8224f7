theorem mo_wna {W : Prop} {B : BS} {I J : IS} {s : SP} (h : RMo W B I s) {n : Nat} (e : ∀ i, i ≠ 0 → i ≠ 4 → i ≠ 5 → J i = I i) (e0 : J 0 0 = nI n) (e00 : ∀ b, b ≠ 0 → J 0 b = I 0 b) (e4 : ∀ a, a < n → J 4 a = af s 1 a ∧ J 5 a = af s 2 a) : RMo W B J (wNa s n) := by
  obtain ⟨h1, h2, h3, h4, h5, h6, h7, h8⟩ := h
  exact ⟨rmr_c h1 (e _ (by omega) (by omega) (by omega)) (e _ (by omega) (by omega) (by omega)) rfl, ⟨fun a ha => by rw [e 3 (by omega) (by omega) (by omega)]; exact h2.1 a ha, e4⟩, rmt_c h3 (e00 _ (by omega)) (fun i h1 h2 => e i (by omega) (by omega) (by omega)) rfl rfl, rme_c h4 (e00 _ (by omega)) (e _ (by omega) (by omega) (by omega)) rfl, rmp_c h5 ⟨e00 _ (by omega), e00 _ (by omega), e00 _ (by omega)⟩ (fun i h1 h2 => e i (by omega) (by omega) (by omega)) rfl, ⟨e0, (e00 _ (by omega)).trans h6.2.1, (e00 _ (by omega)).trans h6.2.2⟩, rml_c h7 ⟨e00 _ (by omega), e00 _ (by omega)⟩ rfl rfl, keep_c h8 (fun i hi => e i (by omega) (by omega) (by omega)) ⟨e00 _ (by omega), e00 _ (by omega)⟩⟩
theorem mo_chg {W : Prop} {B : BS} {I : IS} {s : SP} (h : RMo W B I s) (hw : WF s) {n : Nat} (hn : 1 ≤ n) (hn4 : n ≤ 4) : ∃ J, f_X8_becomeArms (nI n) I = some J ∧ RMo W B J (eChg s n) := by
  have hN : na s ≤ 4 := hw.1.2.1
  have e0 : I 0 0 = nI (na s) := h.2.2.2.2.2.1.1
  by_cases hk : n ≤ na s
  · have h0 : RMo W B (u2 I 0 0 (nI n)) (wNa s n) := mo_wna h (fun i hi _ _ => u2_oth _ _ _ hi) (u2_eq _ _ _ _) (fun b hb => u2_ne _ _ (Or.inr hb)) (fun a ha => by
      rw [u2_oth _ _ _ (by omega), u2_oth _ _ _ (by omega)]
      exact h.2.1.2 a (by omega))
    have key := loop_inv (fun fu j (J : IS) => f_X8_becomeArms_b47 fu (nI n) (nI (n + j)) J) (na s - n) (fun j J => RMo W B (u2 J 0 0 (nI n)) (wNa (eLvs s n j) n) ∧ J 0 0 = nI (na s)) (fun J => RMo W B J (eChg s n)) (fun fu J hJ => by
      refine ⟨u2 J 0 0 (nI n), ?_, hJ.1⟩
      show f_X8_becomeArms_b47 (fu + 1) (nI n) (nI (n + (na s - n))) J = _
      rw [f_X8_becomeArms_b47, hJ.2, if_pos ((nI_leI (by omega) (by omega)).mpr (by omega))]) (fun fu j J hj hJ => by
      obtain ⟨w1, w2, -⟩ := wf_lvs hw (n := n) (by omega) j (by omega)
      obtain ⟨J', j1, j2, j3⟩ := mo_lv hJ.1 w1 (by rw [w2]; exact hJ.2) hn (a := n + j) (by omega) (by omega) fu
      rw [w2] at j3
      exact ⟨J', ⟨j2, j3⟩, j1⟩) (na s - n) 0 LF I (by omega) (by unfold LF; omega) ⟨h0, e0⟩
    obtain ⟨J, k1, k2⟩ := key
    refine ⟨J, ?_, k2⟩
    rw [f_X8_becomeArms, e0, show LF = (LF - 1) + 1 by unfold LF; rfl, f_X8_becomeArms_b5, if_pos ((nI_leI (by omega) (by omega)).mpr hk)]
    exact k1
  · have key := loop_inv (fun fu j (J : IS) => f_X8_becomeArms_b5 fu (nI n) (nI (na s + j)) J) (n - na s) (fun j J => (∀ i, i ≠ 4 → i ≠ 5 → J i = I i) ∧ (∀ b, b < na s → J 4 b = I 4 b ∧ J 5 b = I 5 b) ∧ ∀ b, na s ≤ b → b < na s + j → J 4 b = 0 ∧ J 5 b = 0) (fun J => RMo W B J (eChg s n)) (fun fu J hJ => by
      obtain ⟨j1, j2, j3⟩ := hJ
      have e0' : J 0 0 = nI (na s) := by rw [j1 0 (by omega) (by omega), e0]
      refine ⟨u2 J 0 0 (nI n), ?_, ?_⟩
      · show f_X8_becomeArms_b5 (fu + 1) (nI n) (nI (na s + (n - na s))) J = _
        rw [f_X8_becomeArms_b5, if_pos ((nI_leI (by omega) (by omega)).mpr (by omega)), show LF = (LF - 1) + 1 by unfold LF; rfl, f_X8_becomeArms_b47, e0', if_pos ((nI_leI (by omega) (by omega)).mpr (by omega))]
      · unfold eChg
        rw [show na s - n = 0 by omega]
        refine mo_wna h (fun i hi h4 h5 => by rw [u2_oth _ _ _ hi]; exact j1 i h4 h5) (u2_eq _ _ _ _) (fun b hb => by rw [u2_ne _ _ (Or.inr hb), j1 0 (by omega) (by omega)]) (fun a ha => ?_)
        rw [u2_oth _ _ _ (by omega), u2_oth _ _ _ (by omega)]
        by_cases han : a < na s
        · rw [(j2 a han).1, (j2 a han).2]
          exact h.2.1.2 a han
        · obtain ⟨-, -, q3, q4⟩ := hw.2.2.1.2.2.2 a (by omega)
          rw [q3, q4]
          exact j3 a (by omega) (by omega)) (fun fu j J hj hJ => by
      obtain ⟨j1, j2, j3⟩ := hJ
      have ca : okI (nI (na s + j)) 4 = true := okI_nI (by omega) (by omega)
      have c1 : ¬ nI n ≤ nI (na s + j) := nI_ge (by omega) (by omega)
      obtain ⟨q1, q2, -, -⟩ := hw.2.2.1.2.2.2 (na s + j) (by omega)
      have r1 : J 1 (na s + j) = 0 := by
        rw [j1 1 (by omega) (by omega), (h.1 (na s + j) (by omega)).1, q1]
        rfl
      have r3 : J 3 (na s + j) = -5 := by
        rw [j1 3 (by omega) (by omega), h.2.1.1 (na s + j) (by omega), q2]
      refine ⟨u2 (u2 J 4 (na s + j) 0) 5 (na s + j) 0, ⟨fun i h4 h5 => by rw [u2_oth _ _ _ h5, u2_oth _ _ _ h4]; exact j1 i h4 h5, fun b hb => ?_, fun b h1 h2 => ?_⟩, ?_⟩
      · rw [u2_oth _ _ _ (show 4 ≠ 5 by omega), u2_ne _ _ (Or.inr (by omega)), u2_ne _ _ (Or.inr (by omega)), u2_oth _ _ _ (show 5 ≠ 4 by omega)]
        exact j2 b hb
      · rw [u2_oth _ _ _ (show 4 ≠ 5 by omega)]
        by_cases hb : b = na s + j
        · rw [hb, u2_eq, u2_eq]
          exact ⟨rfl, rfl⟩
        · rw [u2_ne _ _ (Or.inr hb), u2_ne _ _ (Or.inr hb), u2_oth _ _ _ (show 5 ≠ 4 by omega)]
          exact j3 b h1 (by omega)
      · show f_X8_becomeArms_b5 (fu + 1) (nI n) (nI (na s + j)) J = f_X8_becomeArms_b5 fu (nI n) (nI (na s + j + 1)) _
        rw [f_X8_becomeArms_b5, if_neg c1, if_pos ca, if_pos ca, if_pos ca, nI_clamp (by omega), u2_self J 1 _ r1, u2_self J 3 _ r3, some_bind, if_pos ca, nI_1]) (n - na s) 0 LF I (by omega) (by unfold LF; omega) ⟨fun _ _ _ => rfl, fun _ _ => ⟨rfl, rfl⟩, fun b h1 h2 => by omega⟩
    obtain ⟨J, k1, k2⟩ := key
    refine ⟨J, ?_, k2⟩
    rw [f_X8_becomeArms, e0]
    exact k1
/-- how many rounds till all is over, if by 300 -/
def isTill (s : SP) (r : Int32) : Prop := (∃ m, m ≤ 300 ∧ ¬ busy (eRounds s m) ∧ (∀ k, k < m → busy (eRounds s k)) ∧ r = nI m) ∨ ((∀ k, k ≤ 300 → busy (eRounds s k)) ∧ r = -5)
theorem isTill_one {s : SP} {r r' : Int32} (h : isTill s r) (h' : isTill s r') : r = r' := by
  rcases h with ⟨m, m1, m2, m3, m4⟩ | ⟨m1, m2⟩
  · rcases h' with ⟨n, n1, n2, n3, n4⟩ | ⟨n1, n2⟩
    · have : m = n := by
        by_cases c : m < n
        · exact absurd (n3 m c) m2
        · by_cases c' : n < m
          · exact absurd (m3 n c') n2
          · omega
      rw [m4, n4, this]
    · exact absurd (n1 m m1) m2
  · rcases h' with ⟨n, n1, n2, n3, n4⟩ | ⟨n1, n2⟩
    · exact absurd (m1 n n1) n2
    · rw [m2, n2]
theorem mo_till {W : Prop} {B : BS} {I : IS} {s : SP} (h : RMo W B I s) (b1 : B 22 = none) (b2 : B 29 = none) (b3 : B 30 = none) (hw : WF s) : ∃ r J s', f_X8_tillOver I = some (r, J) ∧ isTill s r ∧ RMo W B J s' := by
  have key := loop_ret (fun fu j (J : IS) => f_X8_tillOver_b2 fu (nI j) J) 301 (fun j J => RMo W B J (eRounds s j) ∧ ∀ k, k < j → busy (eRounds s k)) (fun q => isTill s q.1 ∧ ∃ s', RMo W B q.2 s') (fun fu J hJ => by
    refine ⟨(-5, J), ?_, Or.inr ⟨fun k hk => hJ.2 k (by omega), rfl⟩, _, hJ.1⟩
    show f_X8_tillOver_b2 (fu + 1) (nI 301) J = _
    have c : (300 : Int32) < nI 301 := by decide
    have c' : ¬ nI 301 ≤ (300 : Int32) := by decide
    rw [f_X8_tillOver_b2, if_pos c, f_X8_tillOver_b26, if_neg c', f_X8_tillOver_b39]) (fun fu j J hj hJ => by
    obtain ⟨w1, w2, -⟩ := wf_rounds hw j
    obtain ⟨r, r1, r2⟩ := mo_isOver hJ.1 w1
    have c : ¬ (300 : Int32) < nI j := fun q => by
      have := (nI_ltI (a := 300) (by omega) (by omega)).mp q
      omega
    have c' : nI j ≤ (300 : Int32) := (nI_leI (b := 300) (by omega) (by omega)).mpr (by omega)
    show (∃ r, f_X8_tillOver_b2 (fu + 1) (nI j) J = some r ∧ _) ∨ ∃ J', _ ∧ f_X8_tillOver_b2 (fu + 1) (nI j) J = f_X8_tillOver_b2 fu (nI (j + 1)) J'
    rcases r2 with ⟨rfl, r2⟩ | ⟨rfl, r2⟩
    · left
      refine ⟨(nI j, J), ?_, Or.inl ⟨j, by omega, r2, hJ.2, rfl⟩, _, hJ.1⟩
      rw [f_X8_tillOver_b2, if_neg c, r1, some_bind, if_neg z10, f_X8_tillOver_b26, if_pos c', f_X8_tillOver_b39]
    · right
      obtain ⟨J', j1, j2⟩ := mo_round hJ.1 b1 b2 b3 w1
      refine ⟨J', ⟨j2, fun k hk => ?_⟩, ?_⟩
      · by_cases hkj : k = j
        · rw [hkj]
          exact r2
        · exact hJ.2 k (by omega)
      · rw [f_X8_tillOver_b2, if_neg c, r1, some_bind, if_pos rfl, j1, some_bind, nI_1]) 301 0 LF I (by omega) (by unfold LF; omega) ⟨h, fun k hk => absurd hk (Nat.not_lt_zero k)⟩
  obtain ⟨⟨r, J⟩, k1, k2, s', k3⟩ := key
  exact ⟨r, J, s', k1, k2, k3⟩
