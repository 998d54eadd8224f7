/-! ===== the calls: judge, cause, arm, feed ===== -/
theorem sc_judge : SC_judge INV := by
  intro Ic Jc Im Jm h x i
  have hq := inv_q h
  have ct := c_isTape x Ic
  have mt := m_isTape x (u2 Im 0 29 0)
  have g : ∀ j, 1 ≤ j → u2 Im 0 29 0 j = Im j := fun j hj => u2_oth _ _ _ (by omega)
  by_cases c : x < 0 ∨ 6 ≤ x
  · rw [if_pos c] at ct mt
    refine ⟨-1, (-1, u2 Im 0 29 0), ?_, ?_, rfl, hq⟩
    · rw [f_X7_judge, ct, some_bind, if_pos rfl]
    · rw [f_X8_judge, mt, some_bind, if_pos rfl]
  · rw [if_neg c] at ct mt
    obtain ⟨k, hk, rfl⟩ := ix_of (n := 6) (by omega) c
    have ck : okI (nI k) 6 = true := okI_nI hk (by omega)
    have hp := h
    obtain ⟨s, si, h1, h2, h3, _, _, _, h7⟩ := hp
    obtain ⟨p1, ⟨la, hla, p2, p3⟩, p4⟩ := h7 k hk
    have hT := h2.1.2.2
    have g3 := mo_29 h3 0
    have e6 : u2 Im 0 29 0 0 6 = nI (nT s) := g3.2.2.1.1
    have e11 : Ic 11 8 = nI (nT s) := (c_tas h1).1
    have e14 : ∀ t, t < nT s → Ic 14 t = tf s 2 t := fun t ht => rta_get (c_tas h1) ht 2 (by omega)
    have e9 : ∀ t, t < nT s → u2 Im 0 29 0 9 t = tf s 2 t := fun t ht => g3.2.2.1.2.2 2 (by omega) t ht
    -- what both do once the tape is fit
    have body : (Im 35 k = 0 → la = 0) → (Im 35 k = 0 ∨ Im 35 k = 1) → ∃ (qc : Int32) (qm : Int32 × IS), f_X7_judge_b35 i k Ic Jc = some qc ∧ f_X8_judge_b36 (nI k) i (u2 Im 0 29 0) Jm = some qm ∧ qc = qm.1 ∧ qm.2 = u2 Im 0 29 0 := fun hz hz1 => by
      by_cases d0 : i < 0
      · rw [f_X7_judge_b35, if_neg (not_le_lt d0), e11, f_X8_judge_b36, show LF = (LF - 1) + 1 by unfold LF; rfl, f_X8_judge_b38, e6]
        rcases Nat.eq_zero_or_pos (nT s) with z | z
        · rw [z, if_pos (show nI 0 = 0 from rfl), if_pos (show nI 0 ≤ 0 from by decide), f_X7_judge_b63]
          exact ⟨_, _, rfl, rfl, rfl, rfl⟩
        · rw [if_neg (nI_ne0 z (by omega)), if_neg (show ¬ nI (nT s) ≤ 0 from fun q => by
            have := (dr_le0 hT).mp q
            omega), if_pos ck, nI_clamp (by omega), g 35 (by omega), if_pos d0, f_X8_judge_b75, f_X7_judge_b63]
          rcases hz1 with q | q
          · rw [if_pos q]
            exact ⟨_, _, rfl, rfl, rfl, rfl⟩
          · rw [if_neg (by rw [q]; exact z10)]
            exact ⟨_, _, rfl, rfl, rfl, rfl⟩
      · obtain ⟨i', hi', rfl⟩ := nI_of d0
        rw [f_X7_judge_b35, if_pos (le0_of d0), e11, f_X8_judge_b36]
        have key := loop2r (fun fu j (_ : Unit) => f_X7_judge_b67 fu (nI i') k (nI (nT s)) (nI j) Ic Jc) (fun fu j (_ : Unit) => f_X8_judge_b38 fu (nI k) (nI i') (nI j) (u2 Im 0 29 0) Jm) (nT s) (fun _ _ _ => True) (fun r q => r = q.1 ∧ q.2 = u2 Im 0 29 0) (fun fu fv _ _ _ => by
          refine ⟨-5, (-5, u2 Im 0 29 0), ?_, ?_, rfl, rfl⟩
          · show f_X7_judge_b67 (fu + 1) (nI i') k (nI (nT s)) (nI (nT s)) Ic Jc = _
            rw [f_X7_judge_b67, if_pos ((nI_leI (by omega) (by omega)).mpr (Nat.le_refl _))]
          · show f_X8_judge_b38 (fv + 1) (nI k) (nI i') (nI (nT s)) (u2 Im 0 29 0) Jm = _
            rw [f_X8_judge_b38, e6, if_pos ((nI_leI (by omega) (by omega)).mpr (Nat.le_refl _))]) (fun fu fv j _ _ hj _ => by
          have c1 : ¬ nI (nT s) ≤ nI j := nI_ge hj (by omega)
          have cj : okI (nI j) 32 = true := okI_nI (by omega) (by omega)
          have q1 : nI j < nI la - nI i' ↔ i' + j < la := by
            rw [lt_iff32, sub32 (by omega) hi', tnI (by omega)]
            omega
          have q2 : lg_cmp ((nI i').toInt64 + (nI j).toInt64) (nI la).toInt64 < 0 ↔ i' + j < la := by
            rw [lg_cmp_lt, Int64.lt_iff_toInt_lt, add64, Int32.toInt_toInt64, tnI hi', tnI (by omega), tnI (by omega)]
            omega
          by_cases d : i' + j < la
          · have n35 : ¬ Im 35 k = 0 := fun q => by
              have := hz q
              omega
            have oi : okI (nI (i' + j)) 60 = true := okI_nI (by omega) (by omega)
            have oj : okI (nI (60 * k + i' + j)) 360 = true := okI_nI (by omega) (by omega)
            have ei := p4 (i' + j) (by omega)
            have hc : f_X7_judge_b67 (fu + 1) (nI i') k (nI (nT s)) (nI j) Ic Jc = (if lg_cmp (Jc (gTap k + 1) (i' + j)) (tf s 2 j).toInt64 = 0 then f_X7_judge_b67 fu (nI i') k (nI (nT s)) (nI (j + 1)) Ic Jc else some (nI j)) := by
              rw [f_X7_judge_b67, if_neg c1, p2, if_pos (q1.mpr d), nI_add, if_pos oi, if_pos cj, nI_clamp (by omega), nI_clamp (by omega), e14 j hj, nI_1]
            have hm : f_X8_judge_b38 (fv + 1) (nI k) (nI i') (nI j) (u2 Im 0 29 0) Jm = (if lg_cmp (Jc (gTap k + 1) (i' + j)) (tf s 2 j).toInt64 = 0 then f_X8_judge_b38 fv (nI k) (nI i') (nI (j + 1)) (u2 Im 0 29 0) Jm else some (nI j, u2 Im 0 29 0)) := by
              rw [f_X8_judge_b38, e6, if_neg c1, if_pos ck, nI_clamp (by omega), g 35 (by omega), if_neg n35, if_neg d0, if_pos ck, g 32 (by omega), p3, if_pos (q2.mpr d), e60, nI_add, if_pos oj, if_pos cj, nI_clamp (by omega), nI_clamp (by omega), e9 j hj, ei, ← Nat.add_assoc, nI_1]
            show (∃ r q, f_X7_judge_b67 (fu + 1) (nI i') k (nI (nT s)) (nI j) Ic Jc = some r ∧ f_X8_judge_b38 (fv + 1) (nI k) (nI i') (nI j) (u2 Im 0 29 0) Jm = some q ∧ _) ∨ ∃ (_ _ : Unit), _ ∧ f_X7_judge_b67 (fu + 1) (nI i') k (nI (nT s)) (nI j) Ic Jc = f_X7_judge_b67 fu (nI i') k (nI (nT s)) (nI (j + 1)) Ic Jc ∧ f_X8_judge_b38 (fv + 1) (nI k) (nI i') (nI j) (u2 Im 0 29 0) Jm = f_X8_judge_b38 fv (nI k) (nI i') (nI (j + 1)) (u2 Im 0 29 0) Jm
            rw [hc, hm]
            by_cases cc : lg_cmp (Jc (gTap k + 1) (i' + j)) (tf s 2 j).toInt64 = 0
            · rw [if_pos cc, if_pos cc]
              exact Or.inr ⟨(), (), trivial, rfl, rfl⟩
            · rw [if_neg cc, if_neg cc]
              exact Or.inl ⟨_, _, rfl, rfl, rfl, rfl⟩
          · left
            refine ⟨100 + nI j, (100 + nI j, u2 Im 0 29 0), ?_, ?_, rfl, rfl⟩
            · show f_X7_judge_b67 (fu + 1) (nI i') k (nI (nT s)) (nI j) Ic Jc = _
              rw [f_X7_judge_b67, if_neg c1, p2, if_neg (fun q => d (q1.mp q))]
            · show f_X8_judge_b38 (fv + 1) (nI k) (nI i') (nI j) (u2 Im 0 29 0) Jm = _
              rw [f_X8_judge_b38, e6, if_neg c1, if_pos ck, nI_clamp (by omega), g 35 (by omega), if_neg d0, if_pos ck, g 32 (by omega), p3, if_neg (fun q => d (q2.mp q)), f_X8_judge_b75]
              by_cases z : Im 35 k = 0
              · rw [if_pos z]
              · rw [if_neg z]) (nT s) 0 LF LF () () (by omega) (by unfold LF; omega) (by unfold LF; omega) trivial
        obtain ⟨r, q, k1, k2, k3, k4⟩ := key
        exact ⟨r, q, k1, k2, k3, k4⟩
    rcases p1 with ⟨a1, a2, a3⟩ | ⟨⟨a0, a1⟩, a2, a3, a4⟩
    · have l0 : la = 0 := nIne (b := 0) (by omega) (by omega) (p2.symm.trans a3)
      obtain ⟨qc, qm, k1, k2, k3, k4⟩ := body (fun _ => l0) (Or.inl a2)
      refine ⟨qc, qm, ?_, ?_, k3, by rw [k4]; exact hq⟩
      · rw [f_X7_judge, ct, some_bind, if_neg z10, if_pos ck, nI_clamp (by omega), a1, if_pos rfl, k1]
      · rw [f_X8_judge, mt, some_bind, if_neg z10, if_pos ck, nI_clamp (by omega), g 35 (by omega), a2, if_pos rfl, k2]
    · have ns : ¬ Ic (gTap k) 1 = -1 := fun q => by
        rw [q] at a0
        exact absurd a0 (by decide)
      have n35 : ¬ Im 35 k = 0 := by rw [a2]; exact z10
      by_cases cs : Ic (gTap k) 1 = 0
      · obtain ⟨qc, qm, k1, k2, k3, k4⟩ := body (fun q => absurd q n35) (Or.inr a2)
        refine ⟨qc, qm, ?_, ?_, k3, by rw [k4]; exact hq⟩
        · rw [f_X7_judge, ct, some_bind, if_neg z10, if_pos ck, nI_clamp (by omega), if_neg ns, if_pos cs, k1]
        · rw [f_X8_judge, mt, some_bind, if_neg z10, if_pos ck, nI_clamp (by omega), g 35 (by omega), if_neg n35, if_pos ck, g 31 (by omega), a3, if_pos cs, k2]
      · refine ⟨-12, (-12, u2 Im 0 29 0), ?_, ?_, rfl, hq⟩
        · rw [f_X7_judge, ct, some_bind, if_neg z10, if_pos ck, nI_clamp (by omega), if_neg ns, if_neg cs]
        · rw [f_X8_judge, mt, some_bind, if_neg z10, if_pos ck, nI_clamp (by omega), g 35 (by omega), if_neg n35, if_pos ck, g 31 (by omega), a3, if_neg cs]
theorem sc_cause : SC_cause INV := by
  intro Ic Jc Im Jm h x y
  have hq := inv_q h
  obtain ⟨s, si, h1, h2, h3, h4, h5, h6, h7⟩ := h
  have hT := h2.1.2.2
  have g3 := mo_29 h3 0
  have hTa := c_tas h1
  have hh := c_has hTa x
  have ht := mt_isTask g3.2.2.1 x
  have m5 : ¬ (0 : Int32) ≤ -5 := by decide
  have fin5 : ∀ (fu fv : Nat) (st : Int32), 1 ≤ fu → 1 ≤ fv → f_X7_cause_b43 fu y (-5) st Ic = some (-5) ∧ f_X8_cause_b39 fv y (-5) st (u2 Im 0 29 0) = some (-5, u2 Im 0 29 0) := fun fu fv st hf hg => by
    obtain ⟨f, rfl⟩ : ∃ f, fu = f + 1 := ⟨fu - 1, by omega⟩
    obtain ⟨g, rfl⟩ : ∃ g, fv = g + 1 := ⟨fv - 1, by omega⟩
    rw [f_X7_cause_b43, f_X8_cause_b39]
    by_cases c : y ≤ st
    · rw [if_pos c, if_pos c, f_X7_cause_b73, f_X8_cause_b62]
      exact ⟨rfl, rfl⟩
    · rw [if_neg c, if_neg c, tas_has_neg (by decide), some_bind, if_pos rfl, if_pos (by decide), f_X7_cause_b73, f_X8_cause_b62]
      exact ⟨rfl, rfl⟩
  have go : ∀ (d t fu fv : Nat) (st : Int32), t < nT s → nT s - t ≤ d → d + 2 ≤ fu → d + 2 ≤ fv → ∃ r, f_X7_cause_b43 fu y (nI t) st Ic = some r ∧ f_X8_cause_b39 fv y (nI t) st (u2 Im 0 29 0) = some (r, u2 Im 0 29 0) := by
    intro d
    induction d with
    | zero => intro t fu fv st h1 h2; omega
    | succ d ih =>
      intro t fu fv st htT hd hf hg
      obtain ⟨f, rfl⟩ : ∃ f, fu = f + 1 := ⟨fu - 1, by omega⟩
      obtain ⟨g, rfl⟩ : ∃ g, fv = g + 1 := ⟨fv - 1, by omega⟩
      have ct : okI (nI t) 32 = true := okI_nI (by omega) (by omega)
      have e18 : Ic 18 t = tf s 6 t := rta_get hTa htT 6 (by omega)
      have e12 : u2 Im 0 29 0 12 t = tf s 6 t := g3.2.2.1.2.2 6 (by omega) t htT
      rw [f_X7_cause_b43, f_X8_cause_b39]
      by_cases c : y ≤ st
      · rw [if_pos c, if_pos c, f_X7_cause_b73, f_X8_cause_b62]
        exact ⟨_, rfl, rfl⟩
      · rw [if_neg c, if_neg c, tas_has_in hTa htT, some_bind, if_neg z10, if_neg (nI_lt0 (by omega)), if_pos ct, if_pos ct, nI_clamp (by omega), e18, e12]
        rcases h2.2.2.2.2.1 t htT with q | ⟨-, c', c1, c2, c3⟩
        · rw [q]
          obtain ⟨k1, k2⟩ := fin5 f g (st + 1) (by omega) (by omega)
          exact ⟨_, k1, k2⟩
        · rw [c3]
          exact ih c' f g (st + 1) c1 (by omega) (by omega) (by omega)
  by_cases c : x < 0 ∨ nI (nT s) ≤ x
  · rw [if_pos c] at hh ht
    refine ⟨-1, (-1, u2 Im 0 29 0), ?_, ?_, rfl, hq⟩
    · rw [f_X7_cause, hh, some_bind, if_pos rfl, f_X7_cause_b20]
    · rw [f_X8_cause, ht, some_bind, if_pos rfl, f_X8_cause_b17]
  · rw [if_neg c] at hh ht
    obtain ⟨t, htT, rfl⟩ := ix_of (by omega) c
    have ct : okI (nI t) 32 = true := okI_nI (by omega) (by omega)
    have e15 : Ic 15 t = tf s 3 t := rta_get hTa htT 3 (by omega)
    have e6 : u2 Im 0 29 0 6 t = tf s 3 t := g3.2.2.1.2.2 3 (by omega) t htT
    by_cases cy : 0 ≤ y
    · by_cases c4 : tf s 3 t = 4
      · obtain ⟨r, r1, r2⟩ := go (nT s) t LF LF 0 htT (by omega) (by unfold LF; omega) (by unfold LF; omega)
        refine ⟨r, (r, u2 Im 0 29 0), ?_, ?_, rfl, hq⟩
        · rw [f_X7_cause, hh, some_bind, if_neg z10, if_pos cy, if_pos ct, nI_clamp (by omega), e15, if_pos c4, f_X7_cause_b38, r1]
        · rw [f_X8_cause, ht, some_bind, if_neg z10, if_pos cy, if_pos ct, nI_clamp (by omega), e6, if_pos c4, f_X8_cause_b35, r2]
      · obtain ⟨r1, r2⟩ := fin5 LF LF 0 (by unfold LF; omega) (by unfold LF; omega)
        refine ⟨-5, (-5, u2 Im 0 29 0), ?_, ?_, rfl, hq⟩
        · rw [f_X7_cause, hh, some_bind, if_neg z10, if_pos cy, if_pos ct, nI_clamp (by omega), e15, if_neg c4, f_X7_cause_b38, r1]
        · rw [f_X8_cause, ht, some_bind, if_neg z10, if_pos cy, if_pos ct, nI_clamp (by omega), e6, if_neg c4, f_X8_cause_b35, r2]
    · refine ⟨-1, (-1, u2 Im 0 29 0), ?_, ?_, rfl, hq⟩
      · rw [f_X7_cause, hh, some_bind, if_neg z10, if_neg cy, f_X7_cause_b20]
      · rw [f_X8_cause, ht, some_bind, if_neg z10, if_neg cy, f_X8_cause_b17]
theorem c_armR {I : IS} {s : SP} (h : RWo (zI 1 I) s) {a : Nat} (ha : a < 4) : RAr (zI (1 + gArm a) I) (rw_ s a) (af s 0 a) (af s 1 a) (af s 2 a) := by
  rw [zz (a := 1) (b := gArm a) rfl]
  exact h.1 a ha
theorem sc_arm : SC_arm INV := by
  intro Ic Jc Im Jm h x y
  have hq := inv_q h
  obtain ⟨s, si, h1, h2, h3, h4, h5, h6, h7⟩ := h
  have hN := h2.1.2.1
  have g3 := mo_29 h3 0
  have ca := c_isArm h1 x
  have ma := mn_isArm g3.2.2.2.2.2.1 hN x
  have mF : ¬ ((0 : Int32) ≤ y ∧ y ≤ 3) → f_X8_in y.toInt64 (0 : Int64) (3 : Int64) = some 0 := m_inF y 0 3
  have mT : ((0 : Int32) ≤ y ∧ y ≤ 3) → f_X8_in y.toInt64 (0 : Int64) (3 : Int64) = some 1 := m_inT y 0 3
  by_cases c : x < 0 ∨ nI (na s) ≤ x
  · rw [if_pos c] at ca ma
    refine ⟨-1, (-1, u2 Im 0 29 0), ?_, ?_, rfl, hq⟩
    · rw [f_X7_arm, ca, some_bind, if_pos rfl]
    · rw [f_X8_arm, ma, some_bind, if_pos rfl, f_X8_arm_b31]
  · rw [if_neg c] at ca ma
    obtain ⟨a, haN, rfl⟩ := ix_of (by omega) c
    have ha4 : a < 4 := by omega
    have ka : okI (nI a) 4 = true := okI_nI ha4 (by omega)
    obtain ⟨⟨r1, r2, r3⟩, r4, r5, r6⟩ := c_armR h1 ha4
    have r1 : Ic (1 + gArm a) 1 = nI (rw_ s a).length := r1
    have r4 : Ic (1 + gArm a) 2 = af s 0 a := r4
    have r5 : Ic (1 + gArm a) 3 = af s 1 a := r5
    have r6 : Ic (1 + gArm a) 4 = af s 2 a := r6
    obtain ⟨m1, m2, m3⟩ := g3.1 a ha4
    have m4 := g3.2.1.1 a ha4
    obtain ⟨m5, m6⟩ := g3.2.1.2 a haN
    have hc : f_X7_arm (nI a) y Ic = (if y = 0 then some (nI (rw_ s a).length) else if y = 1 then some (af s 0 a) else if y = 2 then some (af s 1 a) else if y = 3 then some (af s 2 a) else if 10 ≤ y then ((f_X0_taskAt (y - 10) (zI (1 + gArm a) Ic)).bind fun q10 => some q10) else some (-1)) := by
      rw [f_X7_arm, ca, some_bind, if_neg z10, if_pos ka, nI_clamp (by omega), r1, r4, r5, r6]
      rfl
    have hm : f_X8_arm_b33 (nI a) y (u2 Im 0 29 0) = (if y = 0 then some (nI (rw_ s a).length, u2 Im 0 29 0) else if y = 1 then some (af s 0 a, u2 Im 0 29 0) else if y = 2 then some (af s 1 a, u2 Im 0 29 0) else if y = 3 then some (af s 2 a, u2 Im 0 29 0) else if 10 + nI (rw_ s a).length ≤ y then some (-5, u2 Im 0 29 0) else if okI (32 * nI a + y - 10) 128 = true then some (u2 Im 0 29 0 2 (32 * nI a + y - 10).toNatClampNeg, u2 Im 0 29 0) else none) := by
      rw [f_X8_arm_b33, if_pos ka, if_pos ka, if_pos ka, if_pos ka, if_pos ka, nI_clamp (by omega), m1, m4, m5, m6]
      rfl
    have small : ((0 : Int32) ≤ y ∧ y ≤ 3) → f_X8_arm (nI a) y Im = f_X8_arm_b33 (nI a) y (u2 Im 0 29 0) := fun q => by
      rw [f_X8_arm, ma, some_bind, if_neg z10, mT q, some_bind, if_neg z10]
    by_cases y0 : y = 0
    · rw [hc, small (by rw [y0]; decide), hm, if_pos y0, if_pos y0]
      exact ⟨_, _, rfl, rfl, rfl, hq⟩
    · by_cases y1 : y = 1
      · rw [hc, small (by rw [y1]; decide), hm, if_neg y0, if_neg y0, if_pos y1, if_pos y1]
        exact ⟨_, _, rfl, rfl, rfl, hq⟩
      · by_cases y2 : y = 2
        · rw [hc, small (by rw [y2]; decide), hm, if_neg y0, if_neg y0, if_neg y1, if_neg y1, if_pos y2, if_pos y2]
          exact ⟨_, _, rfl, rfl, rfl, hq⟩
        · by_cases y3 : y = 3
          · rw [hc, small (by rw [y3]; decide), hm, if_neg y0, if_neg y0, if_neg y1, if_neg y1, if_neg y2, if_neg y2, if_pos y3, if_pos y3]
            exact ⟨_, _, rfl, rfl, rfl, hq⟩
          · have cy : ¬ ((0 : Int32) ≤ y ∧ y ≤ 3) := fun q => by
              obtain ⟨f, hf, e'⟩ := nI_up (x := y) (n := 3) (by omega) (fun c => not_le_lt c q.1) q.2
              match f, hf with
              | 0, _ => exact y0 e'
              | 1, _ => exact y1 e'
              | 2, _ => exact y2 e'
              | 3, _ => exact y3 e'
            rw [hc, if_neg y0, if_neg y1, if_neg y2, if_neg y3]
            by_cases y10 : 10 ≤ y
            · rw [if_pos y10]
              have n0 : ¬ y < 0 := fun q => by
                rw [le_iff32] at y10
                rw [lt_iff32] at q
                have : (10 : Int32).toInt = 10 := rfl
                have : (0 : Int32).toInt = 0 := rfl
                omega
              obtain ⟨m, hm31, rfl⟩ := nI_of n0
              have h10 : 10 ≤ m := (nI_leI (a := 10) (by omega) hm31).mp y10
              have em : nI m - 10 = nI (m - 10) := by
                have := nI_sub' (m - 10) 10
                rw [show m - 10 + 10 = m by omega] at this
                exact this
              have hb : f_X8_arm (nI a) (nI m) Im = f_X8_arm_b33 (nI a) (nI m) (u2 Im 0 29 0) := by
                rw [f_X8_arm, ma, some_bind, if_neg z10, mF cy, some_bind, if_pos rfl, if_pos y10]
              have hg : 10 + nI (rw_ s a).length ≤ nI m ↔ (rw_ s a).length ≤ m - 10 := by
                rw [show (10 : Int32) + nI (rw_ s a).length = nI (10 + (rw_ s a).length) from nI_add 10 _, nI_leI (by omega) hm31]
                omega
              rw [hb, hm, if_neg y0, if_neg y1, if_neg y2, if_neg y3, em, arm_taskAt (c_armR h1 ha4), some_bind, if_neg (nI_lt0 (by omega)), nI_clamp (by omega)]
              by_cases cl : (rw_ s a).length ≤ m - 10
              · rw [if_pos (hg.mpr cl), List.getElem?_eq_none cl]
                exact ⟨_, _, rfl, rfl, rfl, hq⟩
              · have ei : (32 : Int32) * nI a + nI m - 10 = nI (32 * a + (m - 10)) := by
                  rw [nI_32m, nI_add]
                  have := nI_sub' (32 * a + (m - 10)) 10
                  rw [show 32 * a + (m - 10) + 10 = 32 * a + m by omega] at this
                  exact this
                rw [if_neg (fun q => cl (hg.mp q)), ei, if_pos (okI_nI (by omega) (by omega)), nI_clamp (by omega), m3 _ (by omega)]
                exact ⟨_, _, rfl, rfl, rfl, hq⟩
            · rw [if_neg y10]
              refine ⟨-1, (-1, u2 Im 0 29 0), rfl, ?_, rfl, hq⟩
              rw [f_X8_arm, ma, some_bind, if_neg z10, mF cy, some_bind, if_pos rfl, if_neg y10, f_X8_arm_b31]
theorem sc_feed : SC_feed INV := by
  intro Ic Jc Im Jm h x
  have hq := inv_q h
  obtain ⟨s, si, h1, h2, h3, h4, ⟨sa, h5⟩, ⟨l, l1, l2, l3, l4⟩, h7⟩ := h
  have mF : ¬ ((0 : Int32) ≤ x ∧ x ≤ 127) → f_X8_in x.toInt64 (0 : Int64) (127 : Int64) = some 0 := m_inF x 0 127
  have mT : ((0 : Int32) ≤ x ∧ x ≤ 127) → f_X8_in x.toInt64 (0 : Int64) (127 : Int64) = some 1 := m_inT x 0 127
  have e38 : u2 Im 0 29 0 0 38 = nI l.length := by rw [u2_ne _ _ (Or.inr (by omega))]; exact l3
  by_cases c1 : x < 0
  · refine ⟨(-2, Ic), (-2, u2 Im 0 29 0), ?_, ?_, rfl, hq⟩
    · rw [f_X7_feed, if_pos c1, f_X7_feed_b10]
    · rw [f_X8_feed, mF (fun q => not_le_lt c1 q.1), some_bind, if_pos rfl]
  · by_cases c2 : x ≤ 127
    · have z1 : zI 103 Ic 0 1 = nI l.length := l2
      by_cases cl : l.length < 100
      · have cI : nI l.length < (100 : Int32) := (nI_ltI (b := 100) (by omega) (by omega)).mpr cl
        have co : okI (nI l.length) 100 = true := okI_nI cl (by omega)
        have n100 : ¬ nI l.length = (100 : Int32) := nI_eqn (k := 100) (by omega) (by omega) (by omega)
        have ha : f_X5_append x (zI 103 Ic) = some (1, u2 (u2 (zI 103 Ic) 1 l.length x) 0 1 (nI (l.length + 1))) := by
          rw [f_X5_append, z1, if_pos cI, if_pos co, nI_clamp (by omega), u2_oth _ _ _ (show 0 ≠ 1 by omega), z1, nI_1, some_bind]
        have g103 : gI 103 7 (u2 (u2 (zI 103 Ic) 1 l.length x) 0 1 (nI (l.length + 1))) Ic 103 = u2 (u2 (zI 103 Ic) 1 l.length x) 0 1 (nI (l.length + 1)) 0 := gI_in (i := 0) (by omega)
        have g104 : gI 103 7 (u2 (u2 (zI 103 Ic) 1 l.length x) 0 1 (nI (l.length + 1))) Ic 104 = u2 (u2 (zI 103 Ic) 1 l.length x) 0 1 (nI (l.length + 1)) 1 := gI_in (i := 1) (by omega)
        refine ⟨(nI (l.length + 1), gI 103 7 (u2 (u2 (zI 103 Ic) 1 l.length x) 0 1 (nI (l.length + 1))) Ic), (nI (l.length + 1), u2 (u2 (u2 Im 0 29 0) 23 l.length x) 0 38 (nI (l.length + 1))), ?_, ?_, rfl, ?_⟩
        · rw [f_X7_feed, if_neg c1, if_pos c2, ha, some_bind, if_neg z10, f_X7_feed_b36, g103, u2_eq]
        · rw [f_X8_feed, mT ⟨le0_of c1, c2⟩, some_bind, if_neg z10, e38, if_neg n100, if_pos co, nI_clamp (by omega), u2_oth _ _ _ (show 0 ≠ 23 by omega), e38, nI_1, some_bind, u2_eq]
        · have oc : ∀ j, j < 103 ∨ 110 ≤ j → gI 103 7 (u2 (u2 (zI 103 Ic) 1 l.length x) 0 1 (nI (l.length + 1))) Ic j = Ic j := fun j hj => gI_out (by omega)
          have om : ∀ i, i ≠ 0 → i ≠ 23 → u2 (u2 (u2 Im 0 29 0) 23 l.length x) 0 38 (nI (l.length + 1)) i = Im i := fun i h0 h23 => by rw [u2_oth _ _ _ h0, u2_oth _ _ _ h23, u2_oth _ _ _ h0]
          have o0 : ∀ b, b ≠ 29 → b ≠ 38 → u2 (u2 (u2 Im 0 29 0) 23 l.length x) 0 38 (nI (l.length + 1)) 0 b = Im 0 b := fun b h29 h38 => by rw [u2_ne _ _ (Or.inr h38), u2_oth _ _ _ (by omega), u2_ne _ _ (Or.inr h29)]
          have hM : RMo False BN (u2 (u2 (u2 Im 0 29 0) 23 l.length x) 0 38 (nI (l.length + 1))) s := by
            obtain ⟨k1, k2, k3, k4, k5, k6, k7, -⟩ := h3
            exact ⟨rmr_c k1 (om _ (by omega) (by omega)) (om _ (by omega) (by omega)) rfl, rma_c k2 (om _ (by omega) (by omega)) (om _ (by omega) (by omega)) (om _ (by omega) (by omega)) rfl rfl, rmt_c k3 (o0 _ (by omega) (by omega)) (fun i q1 q2 => om i (by omega) (by omega)) rfl rfl, rme_c k4 (o0 _ (by omega) (by omega)) (om _ (by omega) (by omega)) rfl, rmp_c k5 ⟨o0 _ (by omega) (by omega), o0 _ (by omega) (by omega), o0 _ (by omega) (by omega)⟩ (fun i q1 q2 => om i (by omega) (by omega)) rfl, rmn_c k6 ⟨o0 _ (by omega) (by omega), o0 _ (by omega) (by omega), o0 _ (by omega) (by omega)⟩ rfl rfl rfl, rml_c k7 ⟨o0 _ (by omega) (by omega), o0 _ (by omega) (by omega)⟩ rfl rfl, fun i f _ hf => (by cases hf), fun f hf => (by cases hf)⟩
          refine ⟨s, si, rwo_congr h1 (fun k hk => oc _ (by omega)), h2, hM, ⟨rwo_congr h4.1 (fun k hk => oc _ (by omega)), h4.2.1, ?_, ?_⟩, ⟨sa, rwo_congr h5 (fun k hk => oc _ (by omega))⟩, ⟨l ++ [x], ?_, ?_, ?_, fun k hk => ?_⟩, fun t ht => ?_⟩
          · show gI 103 7 (u2 (u2 (zI 103 Ic) 1 l.length x) 0 1 (nI (l.length + 1))) Ic 0 5 = u2 (u2 (u2 Im 0 29 0) 23 l.length x) 0 38 (nI (l.length + 1)) 0 32
            rw [oc 0 (by omega), o0 32 (by omega) (by omega)]
            exact h4.2.2.1
          · show u2 (u2 (u2 Im 0 29 0) 23 l.length x) 0 38 (nI (l.length + 1)) 0 32 = 0 ∨ u2 (u2 (u2 Im 0 29 0) 23 l.length x) 0 38 (nI (l.length + 1)) 0 32 = 1 ∧ PKs (u2 (u2 (u2 Im 0 29 0) 23 l.length x) 0 38 (nI (l.length + 1)) 21) si
            rw [o0 32 (by omega) (by omega), om 21 (by omega) (by omega)]
            exact h4.2.2.2
          · rw [List.length_append, List.length_singleton]
            omega
          · show gI 103 7 (u2 (u2 (zI 103 Ic) 1 l.length x) 0 1 (nI (l.length + 1))) Ic 103 1 = _
            rw [g103, u2_eq, List.length_append]
            rfl
          · show u2 (u2 (u2 Im 0 29 0) 23 l.length x) 0 38 (nI (l.length + 1)) 0 38 = _
            rw [u2_eq, List.length_append]
            rfl
          · rw [List.length_append, List.length_singleton] at hk
            show (l ++ [x])[k]? = some (gI 103 7 (u2 (u2 (zI 103 Ic) 1 l.length x) 0 1 (nI (l.length + 1))) Ic 104 k) ∧ (l ++ [x])[k]? = some (u2 (u2 (u2 Im 0 29 0) 23 l.length x) 0 38 (nI (l.length + 1)) 23 k)
            rw [g104, u2_oth _ _ _ (show 1 ≠ 0 by omega), u2_oth _ _ _ (show 23 ≠ 0 by omega)]
            by_cases hkl : k < l.length
            · rw [List.getElem?_append_left hkl, u2_ne _ _ (Or.inr (by omega)), u2_ne _ _ (Or.inr (by omega)), u2_oth _ _ _ (show 23 ≠ 0 by omega)]
              exact l4 k hkl
            · have : k = l.length := by omega
              subst this
              rw [u2_eq, u2_eq, List.getElem?_append_right (Nat.le_refl _), Nat.sub_self]
              exact ⟨rfl, rfl⟩
          · have := gTap_rng t
            have h := h7 t ht
            show ITp1 (gI 103 7 (u2 (u2 (zI 103 Ic) 1 l.length x) 0 1 (nI (l.length + 1))) Ic) Jc (u2 (u2 (u2 Im 0 29 0) 23 l.length x) 0 38 (nI (l.length + 1))) Jm t
            unfold ITp1 at h ⊢
            rw [oc (gTap t) (by omega), om 35 (by omega) (by omega), om 31 (by omega) (by omega), om 32 (by omega) (by omega)]
            exact h
      · have e100 : l.length = 100 := by omega
        have cI : ¬ nI l.length < (100 : Int32) := fun q => by
          have := (nI_ltI (b := 100) (by omega) (by omega)).mp q
          omega
        have ha : f_X5_append x (zI 103 Ic) = some (0, zI 103 Ic) := by
          rw [f_X5_append, z1, if_neg cI]
        refine ⟨(-4, Ic), (-4, u2 Im 0 29 0), ?_, ?_, rfl, hq⟩
        · rw [f_X7_feed, if_neg c1, if_pos c2, ha, some_bind, if_pos rfl, f_X7_feed_b36, gI_self]
        · rw [f_X8_feed, mT ⟨le0_of c1, c2⟩, some_bind, if_neg z10, e38, e100, if_pos (show nI 100 = (100 : Int32) from rfl)]
    · refine ⟨(-2, Ic), (-2, u2 Im 0 29 0), ?_, ?_, rfl, hq⟩
      · rw [f_X7_feed, if_neg c1, if_neg c2, f_X7_feed_b10]
      · rw [f_X8_feed, mF (fun q => c2 q.2), some_bind, if_pos rfl]
