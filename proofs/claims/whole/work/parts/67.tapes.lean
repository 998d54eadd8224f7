/-! ===== the calls: tape, item, read ===== -/
theorem gTap_eq {k : Nat} (h : k < 6) : gTap k = 111 + 2 * k := by
  unfold gTap
  rw [Nat.mod_eq_of_lt h]
theorem mo_hi {I J : IS} {s : SP} (h : RMo False BN I s) (e : ∀ i, i < 31 → J i = I i) : RMo False BN J s := by
  obtain ⟨h1, h2, h3, h4, h5, h6, h7, -⟩ := h
  have o0 := e 0 (by omega)
  exact ⟨rmr_c h1 (e _ (by omega)) (e _ (by omega)) rfl, rma_c h2 (e _ (by omega)) (e _ (by omega)) (e _ (by omega)) rfl rfl, rmt_c h3 (by rw [o0]) (fun i _ _ => e i (by omega)) rfl rfl, rme_c h4 (by rw [o0]) (e _ (by omega)) rfl, rmp_c h5 (by rw [o0]; exact ⟨rfl, rfl, rfl⟩) (fun i _ _ => e i (by omega)) rfl, rmn_c h6 (by rw [o0]; exact ⟨rfl, rfl, rfl⟩) rfl rfl rfl, rml_c h7 (by rw [o0]; exact ⟨rfl, rfl⟩) rfl rfl, fun i f _ hf => (by cases hf), fun f hf => (by cases hf)⟩
theorem inv_tp {Ic Ic' : IS} {Jc Jc' : JS} {Im Im' : IS} {Jm Jm' : JS} (h : INV Ic Jc Im Jm) (ec : ∀ j, j < 111 → Ic' j = Ic j) (em : ∀ i, i < 31 → Im' i = u2 Im 0 29 0 i) (hp : ITp Ic' Jc' Im' Jm') : INV Ic' Jc' Im' Jm' := by
  obtain ⟨s, si, h1, h2, h3, h4, ⟨sa, h5⟩, h6, h7⟩ := h
  have e0 : ∀ b, b ≠ 29 → Im' 0 b = Im 0 b := fun b hb => by rw [em 0 (by omega), u2_ne _ _ (Or.inr hb)]
  have ei : ∀ i, 1 ≤ i → i < 31 → Im' i = Im i := fun i h1 h2 => by rw [em i h2, u2_oth _ _ _ (by omega)]
  refine ⟨s, si, rwo_congr h1 (fun k hk => ec _ (by omega)), h2, mo_hi (mo_29 h3 0) em, ⟨rwo_congr h4.1 (fun k hk => ec _ (by omega)), h4.2.1, ?_, ?_⟩, ⟨sa, rwo_congr h5 (fun k hk => ec _ (by omega))⟩, ?_, hp⟩
  · rw [ec 0 (by omega), e0 32 (by omega)]
    exact h4.2.2.1
  · rw [e0 32 (by omega), ei 21 (by omega) (by omega)]
    exact h4.2.2.2
  · obtain ⟨l, l1, l2, l3, l4⟩ := h6
    refine ⟨l, l1, by rw [ec 103 (by omega)]; exact l2, by rw [e0 38 (by omega)]; exact l3, fun j hj => ?_⟩
    rw [ec 104 (by omega), ei 23 (by omega) (by omega)]
    exact l4 j hj
theorem c_rows (so n : Int32) (I : IS) (J : JS) : ∃ J', f_X3_becomeRow so n I J = some (u2 (u2 I 0 1 so) 0 2 n, J') ∧ (∀ j, j ≠ 1 → J' j = J j) ∧ ∀ b, b < 60 → J' 1 b = 0 := by
  have key := loop_inv (fun fu j (X : JS) => f_X3_becomeRow_b2 fu so n (nI j) I X) 60 (fun j X => (∀ i, i ≠ 1 → X i = J i) ∧ ∀ b, b < j → X 1 b = 0) (fun q => q.1 = u2 (u2 I 0 1 so) 0 2 n ∧ (∀ j, j ≠ 1 → q.2 j = J j) ∧ ∀ b, b < 60 → q.2 1 b = 0) (fun fu X hX => by
    refine ⟨(u2 (u2 I 0 1 so) 0 2 n, X), ?_, rfl, hX⟩
    show f_X3_becomeRow_b2 (fu + 1) so n (nI 60) I X = _
    rw [f_X3_becomeRow_b2, if_pos (by decide)]) (fun fu j X hj hX => by
    refine ⟨u2 X 1 j 0, ⟨fun i hi => by rw [u2_oth _ _ _ hi]; exact hX.1 i hi, fun b hb => ?_⟩, ?_⟩
    · by_cases hbj : b = j
      · rw [hbj, u2_eq]
      · rw [u2_ne _ _ (Or.inr hbj)]
        exact hX.2 b (by omega)
    · show f_X3_becomeRow_b2 (fu + 1) so n (nI j) I X = _
      rw [f_X3_becomeRow_b2, if_neg (show ¬ (60 : Int32) ≤ nI j from nI_ge (b := 60) hj (by omega)), if_pos (okI_nI hj (by omega)), nI_clamp (by omega), nI_1]) 60 0 LF J (by omega) (by unfold LF; omega) ⟨fun _ _ => rfl, fun b hb => absurd hb (Nat.not_lt_zero b)⟩
  obtain ⟨⟨q1, q2⟩, k1, k2, k3, k4⟩ := key
  have k2 : q1 = _ := k2
  subst k2
  exact ⟨q2, k1, k3, k4⟩
theorem m_rows {k : Nat} (hk : k < 6) (I : IS) (J : JS) : ∃ J', f_X8_tape_b93 LF (nI k) 0 I J = some (1, I, J') ∧ (∀ j, j ≠ 33 → J' j = J j) ∧ (∀ b, b < 60 → J' 33 (60 * k + b) = 0) ∧ ∀ b, b < 60 * k ∨ 60 * k + 60 ≤ b → J' 33 b = J 33 b := by
  have key := loop_inv (fun fu j (X : JS) => f_X8_tape_b93 fu (nI k) (nI j) I X) 60 (fun j X => (∀ i, i ≠ 33 → X i = J i) ∧ (∀ b, b < j → X 33 (60 * k + b) = 0) ∧ ∀ b, b < 60 * k ∨ 60 * k + 60 ≤ b → X 33 b = J 33 b) (fun q => ∃ J', q = (1, I, J') ∧ (∀ j, j ≠ 33 → J' j = J j) ∧ (∀ b, b < 60 → J' 33 (60 * k + b) = 0) ∧ ∀ b, b < 60 * k ∨ 60 * k + 60 ≤ b → J' 33 b = J 33 b) (fun fu X hX => by
    refine ⟨(1, I, X), ?_, X, rfl, hX⟩
    show f_X8_tape_b93 (fu + 1) (nI k) (nI 60) I X = _
    rw [f_X8_tape_b93, if_pos (by decide)]) (fun fu j X hj hX => by
    have e : (60 : Int32) * nI k + nI j = nI (60 * k + j) := by rw [show (60 : Int32) * nI k = nI (60 * k) from nI_mul' 60 k, nI_add]
    refine ⟨u2 X 33 (60 * k + j) 0, ⟨fun i hi => by rw [u2_oth _ _ _ hi]; exact hX.1 i hi, fun b hb => ?_, fun b hb => ?_⟩, ?_⟩
    · by_cases hbj : b = j
      · rw [hbj, u2_eq]
      · rw [u2_ne _ _ (Or.inr (by omega))]
        exact hX.2.1 b (by omega)
    · rw [u2_ne _ _ (Or.inr (by omega))]
      exact hX.2.2 b hb
    · show f_X8_tape_b93 (fu + 1) (nI k) (nI j) I X = _
      rw [f_X8_tape_b93, if_neg (show ¬ (60 : Int32) ≤ nI j from nI_ge (b := 60) hj (by omega)), e, if_pos (okI_nI (by omega) (by omega)), nI_clamp (by omega), nI_1]) 60 0 LF J (by omega) (by unfold LF; omega) ⟨fun _ _ => rfl, fun b hb => absurd hb (Nat.not_lt_zero b), fun _ _ => rfl⟩
  obtain ⟨q, k1, J', k2, k3⟩ := key
  exact ⟨J', by rw [← k2]; exact k1, k3⟩
theorem tape_set {Ic : IS} {Jc : JS} {Im : IS} {Jm : JS} (h : INV Ic Jc Im Jm) {k : Nat} (hk : k < 6) (so : Int32) (n : Nat) (hn : n ≤ 60) (z : Int32) (hz : so = -1 ∧ z = 0 ∧ n = 0 ∨ (0 ≤ so ∧ so ≤ 4) ∧ z = 1) : ∃ q q', f_X3_becomeRow so (nI n) (zI (gTap k) Ic) (zI (gTap k) Jc) = some q ∧ f_X8_tape_b93 LF (nI k) 0 (u2 (u2 (u2 (u2 Im 0 29 0) 35 k z) 31 k so) 32 k (nI n)) Jm = some q' ∧ q'.1 = 1 ∧ INV (gI (gTap k) 2 q.1 Ic) (gI (gTap k) 2 q.2 Jc) q'.2.1 q'.2.2 := by
  obtain ⟨J', c1, c2, c3⟩ := c_rows so (nI n) (zI (gTap k) Ic) (zI (gTap k) Jc)
  obtain ⟨M', m1, m2, m3, m4⟩ := m_rows hk (u2 (u2 (u2 (u2 Im 0 29 0) 35 k z) 31 k so) 32 k (nI n)) Jm
  refine ⟨_, _, c1, m1, rfl, inv_tp h (fun j hj => ?_) (fun i hi => ?_) (fun t ht => ?_)⟩
  · have := gTap_rng k
    exact gI_out (by omega)
  · show u2 (u2 (u2 (u2 Im 0 29 0) 35 k z) 31 k so) 32 k (nI n) i = _
    rw [u2_oth _ _ _ (by omega), u2_oth _ _ _ (by omega), u2_oth _ _ _ (by omega)]
  · have hp := h
    obtain ⟨_, _, _, _, _, _, _, _, h7⟩ := hp
    have h7 := h7 t ht
    have gk := gTap_eq hk
    have gt := gTap_eq ht
    show ITp1 (gI (gTap k) 2 (u2 (u2 (zI (gTap k) Ic) 0 1 so) 0 2 (nI n)) Ic) (gI (gTap k) 2 J' Jc) (u2 (u2 (u2 (u2 Im 0 29 0) 35 k z) 31 k so) 32 k (nI n)) M' t
    unfold ITp1 at h7 ⊢
    by_cases htk : t = k
    · subst htk
      have e1 : gI (gTap t) 2 (u2 (u2 (zI (gTap t) Ic) 0 1 so) 0 2 (nI n)) Ic (gTap t) = u2 (u2 (zI (gTap t) Ic) 0 1 so) 0 2 (nI n) 0 := gI_in (i := 0) (by omega)
      have e2 : gI (gTap t) 2 J' Jc (gTap t + 1) = J' 1 := gI_in (i := 1) (by omega)
      have f1 : u2 (u2 (zI (gTap t) Ic) 0 1 so) 0 2 (nI n) 0 1 = so := by rw [u2_ne _ _ (Or.inr (by omega)), u2_eq]
      have f2 : u2 (u2 (zI (gTap t) Ic) 0 1 so) 0 2 (nI n) 0 2 = nI n := u2_eq _ _ _ _
      have g35 : u2 (u2 (u2 (u2 Im 0 29 0) 35 t z) 31 t so) 32 t (nI n) 35 t = z := by rw [u2_oth _ _ _ (by omega), u2_oth _ _ _ (by omega), u2_eq]
      have g31 : u2 (u2 (u2 (u2 Im 0 29 0) 35 t z) 31 t so) 32 t (nI n) 31 t = so := by rw [u2_oth _ _ _ (by omega), u2_eq]
      have g32 : u2 (u2 (u2 (u2 Im 0 29 0) 35 t z) 31 t so) 32 t (nI n) 32 t = nI n := u2_eq _ _ _ _
      rw [e1, e2, f1, f2, g35, g31, g32]
      refine ⟨?_, ⟨n, hn, rfl, rfl⟩, fun i hi => by rw [c3 i hi, m3 i hi]⟩
      rcases hz with ⟨q1, q2, q3⟩ | ⟨q1, q2⟩
      · exact Or.inl ⟨q1, q2, by rw [q3]; rfl⟩
      · exact Or.inr ⟨q1, q2, rfl, rfl⟩
    · have e1 : gI (gTap k) 2 (u2 (u2 (zI (gTap k) Ic) 0 1 so) 0 2 (nI n)) Ic (gTap t) = Ic (gTap t) := gI_out (by omega)
      have e2 : gI (gTap k) 2 J' Jc (gTap t + 1) = Jc (gTap t + 1) := gI_out (by omega)
      have g35 : u2 (u2 (u2 (u2 Im 0 29 0) 35 k z) 31 k so) 32 k (nI n) 35 t = Im 35 t := by rw [u2_oth _ _ _ (by omega), u2_oth _ _ _ (by omega), u2_ne _ _ (Or.inr htk), u2_oth _ _ _ (by omega)]
      have g31 : u2 (u2 (u2 (u2 Im 0 29 0) 35 k z) 31 k so) 32 k (nI n) 31 t = Im 31 t := by rw [u2_oth _ _ _ (by omega), u2_ne _ _ (Or.inr htk), u2_oth _ _ _ (by omega), u2_oth _ _ _ (by omega)]
      have g32 : u2 (u2 (u2 (u2 Im 0 29 0) 35 k z) 31 k so) 32 k (nI n) 32 t = Im 32 t := by rw [u2_ne _ _ (Or.inr htk), u2_oth _ _ _ (by omega), u2_oth _ _ _ (by omega), u2_oth _ _ _ (by omega)]
      rw [e1, e2, g35, g31, g32]
      refine ⟨h7.1, h7.2.1, fun i hi => ?_⟩
      rw [h7.2.2 i hi, m4 _ (by omega)]
theorem le_iff32 {a b : Int32} : a ≤ b ↔ a.toInt ≤ b.toInt := Int32.le_iff_toInt_le
theorem lt_iff32 {a b : Int32} : a < b ↔ a.toInt < b.toInt := Int32.lt_iff_toInt_lt
theorem sc_tape : SC_tape INV := by
  intro Ic Jc Im Jm h x so n
  have hq := inv_q h
  have ct := c_isTape x Ic
  have mt := m_isTape x (u2 Im 0 29 0)
  by_cases c : x < 0 ∨ 6 ≤ x
  · rw [if_pos c] at ct mt
    refine ⟨(-1, Ic, Jc), (-1, u2 Im 0 29 0, Jm), ?_, ?_, rfl, hq⟩
    · rw [f_X7_tape, ct, some_bind, if_pos rfl]
    · rw [f_X8_tape, mt, some_bind, if_pos rfl]
  · rw [if_neg c] at ct mt
    obtain ⟨k, hk, rfl⟩ := ix_of (n := 6) (by omega) c
    have ck : okI (nI k) 6 = true := okI_nI hk (by omega)
    have mF : ¬ ((-1 : Int32) ≤ so ∧ so ≤ 4) → f_X8_in so.toInt64 (-1 : Int64) (4 : Int64) = some 0 := m_inF so (-1) 4
    have mT : ((-1 : Int32) ≤ so ∧ so ≤ 4) → f_X8_in so.toInt64 (-1 : Int64) (4 : Int64) = some 1 := m_inT so (-1) 4
    have t0 : (0 : Int32).toInt = 0 := rfl
    have t1 : (-1 : Int32).toInt = -1 := rfl
    have t4 : (4 : Int32).toInt = 4 := rfl
    have t60 : (60 : Int32).toInt = 60 := rfl
    by_cases c1 : so = -1
    · obtain ⟨q, q', k1, k2, k3, k4⟩ := tape_set h hk (-1) 0 (by omega) 0 (Or.inl ⟨rfl, rfl, rfl⟩)
      have k1 : f_X3_becomeRow (-1) 0 (zI (gTap k) Ic) (zI (gTap k) Jc) = some q := k1
      have k2 : f_X8_tape_b93 LF (nI k) 0 (u2 (u2 (u2 (u2 Im 0 29 0) 35 k 0) 31 k (-1)) 32 k 0) Jm = some q' := k2
      have n0 : (-1 : Int32) < 0 := by decide
      have n0' : ¬ (0 : Int32) ≤ -1 := by decide
      refine ⟨(1, gI (gTap k) 2 q.1 Ic, gI (gTap k) 2 q.2 Jc), q', ?_, ?_, k3.symm, k4⟩
      · rw [f_X7_tape, ct, some_bind, if_neg z10, c1, if_pos rfl, if_pos ck, nI_clamp (by omega), k1, some_bind]
      · rw [f_X8_tape, mt, some_bind, if_neg z10, mT (by rw [c1]; decide), some_bind, if_neg z10, c1, if_pos n0, f_X8_tape_b42, if_pos n0, f_X8_tape_b53, if_pos n0, f_X8_tape_b67, if_pos ck, if_pos okZ0, if_pos ck, if_neg n0', f_X8_tape_b89, if_pos ck, nI_clamp (by omega), k2]
    · by_cases c2 : so < 0
      · refine ⟨(-2, Ic, Jc), (-2, u2 Im 0 29 0, Jm), ?_, ?_, rfl, hq⟩
        · rw [f_X7_tape, ct, some_bind, if_neg z10, if_neg c1, if_pos c2, f_X7_tape_b43]
        · have : ¬ ((-1 : Int32) ≤ so ∧ so ≤ 4) := fun q => c1 (by
            rw [le_iff32, le_iff32] at q
            rw [lt_iff32] at c2
            have e : so.toInt = (-1 : Int32).toInt := by omega
            exact Int32.toInt.inj e)
          rw [f_X8_tape, mt, some_bind, if_neg z10, mF this, some_bind, if_pos rfl, f_X8_tape_b39]
      · by_cases c3 : 4 < so
        · refine ⟨(-2, Ic, Jc), (-2, u2 Im 0 29 0, Jm), ?_, ?_, rfl, hq⟩
          · rw [f_X7_tape, ct, some_bind, if_neg z10, if_neg c1, if_neg c2, if_pos c3, f_X7_tape_b43]
          · rw [f_X8_tape, mt, some_bind, if_neg z10, mF (fun q => not_le_lt c3 q.2), some_bind, if_pos rfl, f_X8_tape_b39]
        · have c4 : so ≤ 4 := by
            rw [lt_iff32] at c3
            rw [le_iff32]
            omega
          have cm : (-1 : Int32) ≤ so ∧ so ≤ 4 := ⟨by
            rw [lt_iff32] at c2
            rw [le_iff32]
            omega, c4⟩
          by_cases d1 : n ≤ 60
          · by_cases d2 : 0 ≤ n
            · obtain ⟨w, hw, rfl⟩ := nI_up (n := 60) (by omega) (fun q => not_le_lt q d2) d1
              obtain ⟨q, q', k1, k2, k3, k4⟩ := tape_set h hk so w hw 1 (Or.inr ⟨⟨le0_of c2, c4⟩, rfl⟩)
              refine ⟨(1, gI (gTap k) 2 q.1 Ic, gI (gTap k) 2 q.2 Jc), q', ?_, ?_, k3.symm, k4⟩
              · rw [f_X7_tape, ct, some_bind, if_neg z10, if_neg c1, if_neg c2, if_neg c3, if_pos d1, if_pos d2, if_pos ck, nI_clamp (by omega), k1, some_bind]
              · rw [f_X8_tape, mt, some_bind, if_neg z10, mT cm, some_bind, if_neg z10, if_neg c2, if_pos d1, f_X8_tape_b42, if_neg c2, if_pos d2, f_X8_tape_b53, if_neg c2, f_X8_tape_b67, if_pos ck, if_pos okZ1, if_pos ck, if_pos (le0_of c2), f_X8_tape_b89, if_pos ck, nI_clamp (by omega), k2]
            · refine ⟨(-14, Ic, Jc), (-14, u2 Im 0 29 0, Jm), ?_, ?_, rfl, hq⟩
              · rw [f_X7_tape, ct, some_bind, if_neg z10, if_neg c1, if_neg c2, if_neg c3, if_pos d1, if_neg d2]
              · rw [f_X8_tape, mt, some_bind, if_neg z10, mT cm, some_bind, if_neg z10, if_neg c2, if_pos d1, f_X8_tape_b42, if_neg c2, if_neg d2]
          · refine ⟨(-2, Ic, Jc), (-2, u2 Im 0 29 0, Jm), ?_, ?_, rfl, hq⟩
            · rw [f_X7_tape, ct, some_bind, if_neg z10, if_neg c1, if_neg c2, if_neg c3, if_neg d1, f_X7_tape_b43]
            · rw [f_X8_tape, mt, some_bind, if_neg z10, mT cm, some_bind, if_neg z10, if_neg c2, if_neg d1, f_X8_tape_b39]
theorem cut_eq (w so : Int32) (v : Int64) {I : IS} (h : I 0 1 = so) : f_X3_cut v I = f_X8_narrowed v so := by
  unfold f_X3_cut f_X8_narrowed f_X3_cut_b63 f_X8_narrowed_b59
  rw [h]
theorem cut_some (so : Int32) (v : Int64) : ∃ r, f_X8_narrowed v so = some r := by
  unfold f_X8_narrowed f_X8_narrowed_b59
  by_cases c0 : so = 0
  · rw [if_pos c0]; exact ⟨_, rfl⟩
  · rw [if_neg c0]
    by_cases c1 : so = 1
    · rw [if_pos c1]; exact ⟨_, rfl⟩
    · rw [if_neg c1]
      by_cases c2 : so = 2
      · rw [if_pos c2]; exact ⟨_, rfl⟩
      · rw [if_neg c2]
        by_cases c3 : so = 3
        · rw [if_pos c3]; exact ⟨_, rfl⟩
        · rw [if_neg c3]
          by_cases c4 : lg_cmp v 0 = 0
          · rw [if_pos c4]; exact ⟨_, rfl⟩
          · rw [if_neg c4]; exact ⟨_, rfl⟩
theorem e60 (k i : Nat) : (60 : Int32) * nI k + nI i = nI (60 * k + i) := by rw [show (60 : Int32) * nI k = nI (60 * k) from nI_mul' 60 k, nI_add]
theorem sc_item : SC_item INV := by
  intro Ic Jc Im Jm h x i v
  have hq := inv_q h
  have ct := c_isTape x Ic
  have mt := m_isTape x (u2 Im 0 29 0)
  by_cases c : x < 0 ∨ 6 ≤ x
  · rw [if_pos c] at ct mt
    refine ⟨(-1, Jc), (-1, u2 Im 0 29 0, Jm), ?_, ?_, rfl, hq⟩
    · rw [f_X7_item, ct, some_bind, if_pos rfl]
    · rw [f_X8_item, mt, some_bind, if_pos rfl]
  · rw [if_neg c] at ct mt
    obtain ⟨k, hk, rfl⟩ := ix_of (n := 6) (by omega) c
    have ck : okI (nI k) 6 = true := okI_nI hk (by omega)
    have hp := h
    obtain ⟨_, _, _, _, _, _, _, _, h7⟩ := hp
    obtain ⟨p1, ⟨n, hn, p2, p3⟩, p4⟩ := h7 k hk
    have g : ∀ j, 1 ≤ j → u2 Im 0 29 0 j = Im j := fun j hj => u2_oth _ _ _ (by omega)
    rcases p1 with ⟨a1, a2, a3⟩ | ⟨⟨a0, a1⟩, a2, a3, a4⟩
    · refine ⟨(-11, Jc), (-11, u2 Im 0 29 0, Jm), ?_, ?_, rfl, hq⟩
      · rw [f_X7_item, ct, some_bind, if_neg z10, if_pos ck, nI_clamp (by omega), a1, if_pos rfl]
      · rw [f_X8_item, mt, some_bind, if_neg z10, if_pos ck, nI_clamp (by omega), g 35 (by omega), a2, if_pos rfl]
    · have ns : ¬ Ic (gTap k) 1 = -1 := fun q => by
        rw [q] at a0
        exact absurd a0 (by decide)
      have n35 : ¬ Im 35 k = 0 := by rw [a2]; exact z10
      have mi := m_in0 i (n := n) (by omega)
      rcases pk_ix i (n := n) (by omega) with d | d | ⟨j, hj, rfl⟩
      · rw [if_pos (Or.inl d)] at mi
        refine ⟨(-13, Jc), (-13, u2 Im 0 29 0, Jm), ?_, ?_, rfl, hq⟩
        · rw [f_X7_item, ct, some_bind, if_neg z10, if_pos ck, nI_clamp (by omega), if_neg ns, if_pos d, f_X7_item_b43]
        · rw [f_X8_item, mt, some_bind, if_neg z10, if_pos ck, nI_clamp (by omega), g 35 (by omega), if_neg n35, if_pos ck, g 32 (by omega), p3, mi, some_bind, if_pos rfl]
      · rw [if_pos (Or.inr d)] at mi
        have d1 : ¬ i < nI n := fun q => not_le_lt q d
        refine ⟨(-13, Jc), (-13, u2 Im 0 29 0, Jm), ?_, ?_, rfl, hq⟩
        · by_cases d0 : i < 0
          · rw [f_X7_item, ct, some_bind, if_neg z10, if_pos ck, nI_clamp (by omega), if_neg ns, if_pos d0, f_X7_item_b43]
          · rw [f_X7_item, ct, some_bind, if_neg z10, if_pos ck, nI_clamp (by omega), if_neg ns, if_neg d0, p2, if_neg d1, f_X7_item_b43]
        · rw [f_X8_item, mt, some_bind, if_neg z10, if_pos ck, nI_clamp (by omega), g 35 (by omega), if_neg n35, if_pos ck, g 32 (by omega), p3, mi, some_bind, if_pos rfl]
      · have d0 : ¬ nI j < 0 := nI_lt0 (by omega)
        rw [if_neg (fun q => q.elim d0 (nI_ge hj (by omega)))] at mi
        have d1 : nI j < nI n := (nI_ltI (by omega) (by omega)).mpr hj
        obtain ⟨r, hr⟩ := cut_some (Ic (gTap k) 1) v
        have hc : f_X3_cut v (zI (gTap k) Ic) = some r := by
          rw [cut_eq 0 (Ic (gTap k) 1) v (I := zI (gTap k) Ic) rfl]
          exact hr
        refine ⟨(1, u2 Jc (gTap k + 1) j r), (1, u2 Im 0 29 0, u2 Jm 33 (60 * k + j) r), ?_, ?_, rfl, inv_tp h (fun _ _ => rfl) (fun _ _ => rfl) (fun t ht => ?_)⟩
        · rw [f_X7_item, ct, some_bind, if_neg z10, if_pos ck, nI_clamp (by omega), if_neg ns, if_neg d0, p2, if_pos d1, hc, some_bind, if_pos (okI_nI (by omega) (by omega)), nI_clamp (by omega)]
        · rw [f_X8_item, mt, some_bind, if_neg z10, if_pos ck, nI_clamp (by omega), g 35 (by omega), if_neg n35, if_pos ck, g 32 (by omega), p3, mi, some_bind, if_neg z10, if_pos ck, g 31 (by omega), a3, hr, some_bind, e60, if_pos (okI_nI (by omega) (by omega)), nI_clamp (by omega)]
        · obtain ⟨b1, b2, b3⟩ := h7 t ht
          have gk := gTap_eq hk
          have gt := gTap_eq ht
          show ITp1 Ic (u2 Jc (gTap k + 1) j r) (u2 Im 0 29 0) (u2 Jm 33 (60 * k + j) r) t
          refine ⟨by rw [g 35 (by omega), g 31 (by omega), g 32 (by omega)]; exact b1, by rw [g 32 (by omega)]; exact b2, fun y hy => ?_⟩
          show u2 Jc (gTap k + 1) j r (gTap t + 1) y = u2 Jm 33 (60 * k + j) r 33 (60 * t + y)
          rw [u2_ap, u2_ap]
          by_cases cc : t = k ∧ y = j
          · rw [if_pos ⟨by rw [cc.1], cc.2⟩, if_pos ⟨rfl, by rw [cc.1, cc.2]⟩]
          · rw [if_neg (fun q => cc ⟨by omega, q.2⟩), if_neg (fun q => cc ⟨by omega, by omega⟩)]
            exact b3 y hy
theorem sc_read : SC_read INV := by
  intro Ic Jc Im Jm h x i
  have hq := inv_q h
  have ct := c_isTape x Ic
  have mt := m_isTape x (u2 Im 0 29 0)
  by_cases c : x < 0 ∨ 6 ≤ x
  · rw [if_pos c] at ct mt
    refine ⟨-9223372036854775808, (-9223372036854775808, u2 Im 0 29 0), ?_, ?_, rfl, hq⟩
    · rw [f_X7_read, ct, some_bind, if_pos rfl]
    · rw [f_X8_read, mt, some_bind, if_pos rfl, f_X8_read_b54, f_X8_read_b57]
  · rw [if_neg c] at ct mt
    obtain ⟨k, hk, rfl⟩ := ix_of (n := 6) (by omega) c
    have ck : okI (nI k) 6 = true := okI_nI hk (by omega)
    have hp := h
    obtain ⟨_, _, _, _, _, _, _, _, h7⟩ := hp
    obtain ⟨p1, ⟨n, hn, p2, p3⟩, p4⟩ := h7 k hk
    have g : ∀ j, 1 ≤ j → u2 Im 0 29 0 j = Im j := fun j hj => u2_oth _ _ _ (by omega)
    have mi := m_in0 i (n := n) (by omega)
    have cNo : (i < 0 ∨ nI n ≤ i) → f_X7_read (nI k) i Ic Jc = some (-9223372036854775808) := fun d => by
      by_cases d0 : i < 0
      · rw [f_X7_read, ct, some_bind, if_neg z10, if_pos ck, if_pos d0, f_X7_read_b31, f_X7_read_b43]
      · have d1 : ¬ i < nI n := fun q => d.elim d0 (not_le_lt q)
        rw [f_X7_read, ct, some_bind, if_neg z10, if_pos ck, if_neg d0, nI_clamp (by omega), p2, if_neg d1, f_X7_read_b31, f_X7_read_b43]
    rcases p1 with ⟨a1, a2, a3⟩ | ⟨⟨a0, a1⟩, a2, a3, a4⟩
    · have n0 : n = 0 := nIne (b := 0) (by omega) (by omega) (p2.symm.trans a3)
      refine ⟨-9223372036854775808, (-9223372036854775808, u2 Im 0 29 0), cNo ?_, ?_, rfl, hq⟩
      · by_cases d0 : i < 0
        · exact Or.inl d0
        · refine Or.inr ?_
          rw [n0]
          exact le0_of d0
      · rw [f_X8_read, mt, some_bind, if_neg z10, if_pos ck, nI_clamp (by omega), g 35 (by omega), a2, if_pos rfl, f_X8_read_b54, f_X8_read_b57]
    · have n35 : ¬ Im 35 k = 0 := by rw [a2]; exact z10
      by_cases d : i < 0 ∨ nI n ≤ i
      · rw [if_pos d] at mi
        refine ⟨-9223372036854775808, (-9223372036854775808, u2 Im 0 29 0), cNo d, ?_, rfl, hq⟩
        rw [f_X8_read, mt, some_bind, if_neg z10, if_pos ck, nI_clamp (by omega), g 35 (by omega), if_neg n35, if_pos ck, g 32 (by omega), p3, mi, some_bind, if_pos rfl, f_X8_read_b54, f_X8_read_b57]
      · rw [if_neg d] at mi
        obtain ⟨j, hj, rfl⟩ := ix_of (n := n) (by omega) d
        have d0 : ¬ nI j < 0 := nI_lt0 (by omega)
        have d1 : nI j < nI n := (nI_ltI (by omega) (by omega)).mpr hj
        refine ⟨Jc (gTap k + 1) j, (Jm 33 (60 * k + j), u2 Im 0 29 0), ?_, ?_, p4 j (by omega), hq⟩
        · rw [f_X7_read, ct, some_bind, if_neg z10, if_pos ck, if_neg d0, nI_clamp (by omega), p2, if_pos d1, if_pos (okI_nI (by omega) (by omega)), nI_clamp (by omega), f_X7_read_b43]
        · rw [f_X8_read, mt, some_bind, if_neg z10, if_pos ck, nI_clamp (by omega), g 35 (by omega), if_neg n35, if_pos ck, g 32 (by omega), p3, mi, some_bind, if_neg z10, e60, if_pos (okI_nI (by omega) (by omega)), nI_clamp (by omega), f_X8_read_b57]
