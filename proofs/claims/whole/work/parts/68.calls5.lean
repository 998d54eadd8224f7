/-! ===== the calls: shift, judge ===== -/
theorem sub32 {a b : Nat} (ha : a < 2 ^ 31) (hb : b < 2 ^ 31) : (nI a - nI b).toInt = (a : Int) - b := by
  rw [Int32.toInt_sub, tnI ha, tnI hb]
  exact Int.bmod_eq_of_le (by omega) (by omega)
theorem add64 (a b : Int32) : (a.toInt64 + b.toInt64).toInt = a.toInt + b.toInt := by
  have h1 := Int32.toInt_lt a
  have h2 := Int32.le_toInt a
  have h3 := Int32.toInt_lt b
  have h4 := Int32.le_toInt b
  rw [Int64.toInt_add, Int32.toInt_toInt64, Int32.toInt_toInt64]
  exact Int.bmod_eq_of_le (by omega) (by omega)
theorem m_copy1 {k i n : Nat} (hk : k < 6) (hn : i + n ≤ 60) (x3 x4 : Int32) (I : IS) (J : JS) : ∃ J', f_X8_shift_b117 LF (nI k) (nI i) x3 x4 (nI n) 0 I J = f_X8_shift_b154 LF x3 x4 (nI n) 0 I J' ∧ (∀ j, j ≠ 34 → J' j = J j) ∧ ∀ b, b < n → J' 34 b = J 33 (60 * k + i + b) := by
  have key := loop_to (fun fu j (X : JS) => f_X8_shift_b117 fu (nI k) (nI i) x3 x4 (nI n) (nI j) I X) (fun X => f_X8_shift_b154 LF x3 x4 (nI n) 0 I X) n (fun j X => (∀ i, i ≠ 34 → X i = J i) ∧ ∀ b, b < j → X 34 b = J 33 (60 * k + i + b)) (fun X => (∀ i, i ≠ 34 → X i = J i) ∧ ∀ b, b < n → X 34 b = J 33 (60 * k + i + b)) (fun fu X hX => by
    refine ⟨X, hX, ?_⟩
    show f_X8_shift_b117 (fu + 1) (nI k) (nI i) x3 x4 (nI n) (nI n) I X = _
    rw [f_X8_shift_b117, if_pos ((nI_leI (by omega) (by omega)).mpr (Nat.le_refl _))]) (fun fu j X hj hX => by
    refine ⟨u2 X 34 j (X 33 (60 * k + i + j)), ⟨fun i hi => by rw [u2_oth _ _ _ hi]; exact hX.1 i hi, fun b hb => ?_⟩, ?_⟩
    · by_cases hbj : b = j
      · rw [hbj, u2_eq, hX.1 33 (by omega)]
      · rw [u2_ne _ _ (Or.inr hbj)]
        exact hX.2 b (by omega)
    · show f_X8_shift_b117 (fu + 1) (nI k) (nI i) x3 x4 (nI n) (nI j) I X = _
      rw [f_X8_shift_b117, if_neg (nI_ge hj (by omega)), e60, nI_add, if_pos (okI_nI (by omega) (by omega)), if_pos (okI_nI (by omega) (by omega)), nI_clamp (by omega), nI_clamp (by omega), nI_1]) n 0 LF J (by omega) (by unfold LF; omega) ⟨fun _ _ => rfl, fun b hb => absurd hb (Nat.not_lt_zero b)⟩
  obtain ⟨X, x1, x2⟩ := key
  exact ⟨X, x2, x1⟩
theorem m_copy2 {k i n : Nat} (hk : k < 6) (hn : i + n ≤ 60) (I : IS) (J : JS) : ∃ J', f_X8_shift_b154 LF (nI k) (nI i) (nI n) 0 I J = some (nI n, I, J') ∧ ∀ b, J' 33 b = if 60 * k + i ≤ b ∧ b < 60 * k + i + n then J 34 (b - (60 * k + i)) else J 33 b := by
  have key := loop_inv (fun fu j (X : JS) => f_X8_shift_b154 fu (nI k) (nI i) (nI n) (nI j) I X) n (fun j X => X 34 = J 34 ∧ ∀ b, X 33 b = if 60 * k + i ≤ b ∧ b < 60 * k + i + j then J 34 (b - (60 * k + i)) else J 33 b) (fun q => ∃ J', q = (nI n, I, J') ∧ ∀ b, J' 33 b = if 60 * k + i ≤ b ∧ b < 60 * k + i + n then J 34 (b - (60 * k + i)) else J 33 b) (fun fu X hX => by
    refine ⟨(nI n, I, X), ?_, X, rfl, hX.2⟩
    show f_X8_shift_b154 (fu + 1) (nI k) (nI i) (nI n) (nI n) I X = _
    rw [f_X8_shift_b154, if_pos ((nI_leI (by omega) (by omega)).mpr (Nat.le_refl _))]) (fun fu j X hj hX => by
    refine ⟨u2 X 33 (60 * k + i + j) (X 34 j), ⟨by rw [u2_oth _ _ _ (by omega)]; exact hX.1, fun b => ?_⟩, ?_⟩
    · by_cases hbj : b = 60 * k + i + j
      · rw [hbj, u2_eq, if_pos (by omega), hX.1]
        congr 1
        omega
      · rw [u2_ne _ _ (Or.inr hbj), hX.2 b]
        by_cases c : 60 * k + i ≤ b ∧ b < 60 * k + i + j
        · rw [if_pos c, if_pos (by omega)]
        · rw [if_neg c, if_neg (by omega)]
    · show f_X8_shift_b154 (fu + 1) (nI k) (nI i) (nI n) (nI j) I X = _
      rw [f_X8_shift_b154, if_neg (nI_ge hj (by omega)), if_pos (okI_nI (by omega) (by omega)), e60, nI_add, if_pos (okI_nI (by omega) (by omega)), nI_clamp (by omega), nI_clamp (by omega), nI_1]) n 0 LF J (by omega) (by unfold LF; omega) ⟨rfl, fun b => by rw [if_neg (by omega)]⟩
  obtain ⟨q, k1, J', k2, k3⟩ := key
  exact ⟨J', by rw [← k2]; exact k1, k3⟩
theorem sc_shift : SC_shift INV := by
  intro Ic Jc Im Jm h x i y j n
  have hq := inv_q h
  have ct := c_isTape x Ic
  have mt := m_isTape x (u2 Im 0 29 0)
  have ct2 := c_isTape y Ic
  have mt2 := m_isTape y (u2 Im 0 29 0)
  have g : ∀ j, 1 ≤ j → u2 Im 0 29 0 j = Im j := fun j hj => u2_oth _ _ _ (by omega)
  by_cases c : x < 0 ∨ 6 ≤ x
  · rw [if_pos c] at ct mt
    refine ⟨(-1, Jc), (-1, u2 Im 0 29 0, Jm), ?_, ?_, rfl, hq⟩
    · rw [f_X7_shift, ct, some_bind, if_pos rfl, f_X7_shift_b16]
    · rw [f_X8_shift, mt, some_bind, if_pos rfl, f_X8_shift_b21]
  · rw [if_neg c] at ct mt
    by_cases c' : y < 0 ∨ 6 ≤ y
    · rw [if_pos c'] at ct2 mt2
      refine ⟨(-1, Jc), (-1, u2 Im 0 29 0, Jm), ?_, ?_, rfl, hq⟩
      · rw [f_X7_shift, ct, some_bind, if_neg z10, ct2, some_bind, if_pos rfl, f_X7_shift_b16]
      · rw [f_X8_shift, mt, some_bind, if_neg z10, mt2, some_bind, if_pos rfl, f_X8_shift_b21]
    · rw [if_neg c'] at ct2 mt2
      obtain ⟨k, hk, rfl⟩ := ix_of (n := 6) (by omega) c
      obtain ⟨k', hk', rfl⟩ := ix_of (n := 6) (by omega) c'
      have ck : okI (nI k) 6 = true := okI_nI hk (by omega)
      have ck' : okI (nI k') 6 = true := okI_nI hk' (by omega)
      have hp := h
      obtain ⟨_, _, _, _, _, _, _, _, h7⟩ := hp
      obtain ⟨p1, ⟨la, hla, p2, p3⟩, p4⟩ := h7 k hk
      obtain ⟨r1, ⟨lb, hlb, r2, r3⟩, r4⟩ := h7 k' hk'
      rcases p1 with ⟨a1, a2, a3⟩ | ⟨⟨a0, a1⟩, a2, a3, a4⟩
      · refine ⟨(-11, Jc), (-11, u2 Im 0 29 0, Jm), ?_, ?_, rfl, hq⟩
        · rw [f_X7_shift, ct, some_bind, if_neg z10, ct2, some_bind, if_neg z10, if_pos ck, if_pos ck', nI_clamp (by omega), a1, if_pos rfl, f_X7_shift_b52]
        · rw [f_X8_shift, mt, some_bind, if_neg z10, mt2, some_bind, if_neg z10, if_pos ck, nI_clamp (by omega), g 35 (by omega), a2, if_pos rfl, f_X8_shift_b41]
      · have ns : ¬ Ic (gTap k) 1 = -1 := fun q => by
          rw [q] at a0
          exact absurd a0 (by decide)
        have n35 : ¬ Im 35 k = 0 := by rw [a2]; exact z10
        rcases r1 with ⟨b1, b2, b3⟩ | ⟨⟨b0, b1⟩, b2, b3, b4⟩
        · refine ⟨(-11, Jc), (-11, u2 Im 0 29 0, Jm), ?_, ?_, rfl, hq⟩
          · rw [f_X7_shift, ct, some_bind, if_neg z10, ct2, some_bind, if_neg z10, if_pos ck, if_pos ck', nI_clamp (by omega), if_neg ns, nI_clamp (by omega), b1, if_pos rfl, f_X7_shift_b52]
          · rw [f_X8_shift, mt, some_bind, if_neg z10, mt2, some_bind, if_neg z10, if_pos ck, nI_clamp (by omega), g 35 (by omega), if_neg n35, if_pos ck', nI_clamp (by omega), b2, if_pos rfl, f_X8_shift_b41]
        · have ns' : ¬ Ic (gTap k') 1 = -1 := fun q => by
            rw [q] at b0
            exact absurd b0 (by decide)
          have n35' : ¬ Im 35 k' = 0 := by rw [b2]; exact z10
          have hc : f_X7_shift (nI k) i (nI k') j n Ic Jc = (if Ic (gTap k) 1 = Ic (gTap k') 1 then (if n < 0 then some (-13, Jc) else (if i < 0 then some (-13, Jc) else (if j < 0 then some (-13, Jc) else (if nI la - i < n then some (-13, Jc) else (if n ≤ nI lb - j then (if okC i j n 60 60 = true then some (n, u1 Jc (gTap k' + 1) (va_cpy (Jc (gTap k + 1)) (Jc (gTap k' + 1)) i.toNatClampNeg j.toNatClampNeg n.toNatClampNeg)) else none) else some (-13, Jc)))))) else some (-12, Jc)) := by
            rw [f_X7_shift, ct, some_bind, if_neg z10, ct2, some_bind, if_neg z10, if_pos ck, if_pos ck', nI_clamp (by omega), if_neg ns, nI_clamp (by omega), if_neg ns', p2, r2]
            rfl
          have hm : f_X8_shift (nI k) i (nI k') j n Im Jm = (if Ic (gTap k) 1 = Ic (gTap k') 1 then (if n < 0 then some (-13, u2 Im 0 29 0, Jm) else (if i < 0 then some (-13, u2 Im 0 29 0, Jm) else (if j < 0 then some (-13, u2 Im 0 29 0, Jm) else (if 0 < lg_cmp (i.toInt64 + n.toInt64) (nI la).toInt64 then some (-13, u2 Im 0 29 0, Jm) else (if lg_cmp (j.toInt64 + n.toInt64) (nI lb).toInt64 ≤ 0 then f_X8_shift_b117 LF (nI k) i (nI k') j n 0 (u2 Im 0 29 0) Jm else some (-13, u2 Im 0 29 0, Jm)))))) else some (-12, u2 Im 0 29 0, Jm)) := by
            rw [f_X8_shift, mt, some_bind, if_neg z10, mt2, some_bind, if_neg z10, if_pos ck, nI_clamp (by omega), g 35 (by omega), if_neg n35, if_pos ck', nI_clamp (by omega), if_neg n35', if_pos ck, if_pos ck', g 31 (by omega), a3, b3, if_pos ck, g 32 (by omega), p3, r3, if_pos ck']
            rfl
          rw [hc, hm]
          by_cases cs : Ic (gTap k) 1 = Ic (gTap k') 1
          · rw [if_pos cs, if_pos cs]
            by_cases d1 : n < 0
            · rw [if_pos d1, if_pos d1]
              exact ⟨_, _, rfl, rfl, rfl, hq⟩
            · rw [if_neg d1, if_neg d1]
              by_cases d2 : i < 0
              · rw [if_pos d2, if_pos d2]
                exact ⟨_, _, rfl, rfl, rfl, hq⟩
              · rw [if_neg d2, if_neg d2]
                by_cases d3 : j < 0
                · rw [if_pos d3, if_pos d3]
                  exact ⟨_, _, rfl, rfl, rfl, hq⟩
                · rw [if_neg d3, if_neg d3]
                  obtain ⟨n', hn', rfl⟩ := nI_of d1
                  obtain ⟨i', hi', rfl⟩ := nI_of d2
                  obtain ⟨j', hj', rfl⟩ := nI_of d3
                  have e1 : nI la - nI i' < nI n' ↔ la < i' + n' := by
                    rw [lt_iff32, sub32 (by omega) hi', tnI hn']
                    omega
                  have e2 : 0 < lg_cmp ((nI i').toInt64 + (nI n').toInt64) (nI la).toInt64 ↔ la < i' + n' := by
                    rw [lg_cmp_gt, Int64.lt_iff_toInt_lt, add64, Int32.toInt_toInt64, tnI hi', tnI hn', tnI (by omega)]
                    omega
                  have e3 : nI n' ≤ nI lb - nI j' ↔ j' + n' ≤ lb := by
                    rw [le_iff32, sub32 (by omega) hj', tnI hn']
                    omega
                  have e4 : lg_cmp ((nI j').toInt64 + (nI n').toInt64) (nI lb).toInt64 ≤ 0 ↔ j' + n' ≤ lb := by
                    rw [lg_cmp_le, Int64.le_iff_toInt_le, add64, Int32.toInt_toInt64, tnI hj', tnI hn', tnI (by omega)]
                    omega
                  by_cases d4 : la < i' + n'
                  · rw [if_pos (e1.mpr d4), if_pos (e2.mpr d4)]
                    exact ⟨_, _, rfl, rfl, rfl, hq⟩
                  · rw [if_neg (fun q => d4 (e1.mp q)), if_neg (fun q => d4 (e2.mp q))]
                    by_cases d5 : j' + n' ≤ lb
                    · have co : okC (nI i') (nI j') (nI n') 60 60 = true := by
                        unfold okC
                        refine decide_eq_true ⟨d2, d3, d1, ?_, ?_⟩ <;> rw [nI_clamp (by omega), nI_clamp (by omega)] <;> omega
                      rw [if_pos (e3.mpr d5), if_pos (e4.mpr d5), if_pos co, nI_clamp hi', nI_clamp hj', nI_clamp hn']
                      obtain ⟨J1, k1, k2, k3⟩ := m_copy1 hk (show i' + n' ≤ 60 by omega) (nI k') (nI j') (u2 Im 0 29 0) Jm
                      obtain ⟨J2, w1, w2⟩ := m_copy2 hk' (show j' + n' ≤ 60 by omega) (u2 Im 0 29 0) J1
                      rw [k1, w1]
                      refine ⟨_, _, rfl, rfl, rfl, inv_tp h (fun _ _ => rfl) (fun _ _ => rfl) (fun t ht => ?_)⟩
                      obtain ⟨t1, t2, t3⟩ := h7 t ht
                      have gk' := gTap_eq hk'
                      have gt := gTap_eq ht
                      show ITp1 Ic (u1 Jc (gTap k' + 1) (va_cpy (Jc (gTap k + 1)) (Jc (gTap k' + 1)) i' j' n')) (u2 Im 0 29 0) J2 t
                      refine ⟨by rw [g 35 (by omega), g 31 (by omega), g 32 (by omega)]; exact t1, by rw [g 32 (by omega)]; exact t2, fun z hz => ?_⟩
                      rw [w2, u1_ap]
                      by_cases htk : t = k'
                      · rw [if_pos (by rw [htk])]
                        unfold va_cpy
                        by_cases cz : j' ≤ z ∧ z < j' + n'
                        · rw [if_pos cz, if_pos (by omega), k3 _ (by omega), p4 _ (by omega)]
                          congr 1
                          omega
                        · rw [if_neg cz, if_neg (by omega), k2 33 (by omega), ← htk]
                          exact t3 z hz
                      · rw [if_neg (by omega), if_neg (by omega), k2 33 (by omega)]
                        exact t3 z hz
                    · rw [if_neg (fun q => d5 (e3.mp q)), if_neg (fun q => d5 (e4.mp q))]
                      exact ⟨_, _, rfl, rfl, rfl, hq⟩
          · rw [if_neg cs, if_neg cs]
            exact ⟨_, _, rfl, rfl, rfl, hq⟩
