/-! ===== the Model: out of the rows, cancels ===== -/
theorem mo_filter {I : IS} {a : Nat} (ha : a < 4) {l : List Int32} (h1 : I 1 a = nI l.length) (hl : l.length ≤ 32) (hr : ∀ k, k < l.length → l[k]? = some (I 2 (32 * a + k))) (k2 : Int32 → Int32 → IS → Option IS) (x : Int32) : ∃ J, f_X8_leavesRows_b39 k2 LF x (nI a) 0 0 I = k2 x (nI (a + 1)) J ∧ (∀ i, i ≠ 1 → i ≠ 2 → J i = I i) ∧ (∀ b, b ≠ a → J 1 b = I 1 b) ∧ J 1 a = nI (l.filter (fun y => y != x)).length ∧ (∀ k, k < (l.filter (fun y => y != x)).length → (l.filter (fun y => y != x))[k]? = some (J 2 (32 * a + k))) ∧ ∀ b, b < 32 * a ∨ 32 * a + 32 ≤ b → J 2 b = I 2 b := by
  have ca : okI (nI a) 4 = true := okI_nI ha (by omega)
  have key := loop_to (fun fu j (q : Int32 × IS) => f_X8_leavesRows_b39 k2 fu x (nI a) q.1 (nI j) q.2) (fun J => k2 x (nI (a + 1)) J) l.length (fun j q => q.1 = nI ((l.take j).filter (fun y => y != x)).length ∧ (∀ i, i ≠ 2 → q.2 i = I i) ∧ (∀ k, k < ((l.take j).filter (fun y => y != x)).length → ((l.take j).filter (fun y => y != x))[k]? = some (q.2 2 (32 * a + k))) ∧ (∀ k, j ≤ k → k < l.length → l[k]? = some (q.2 2 (32 * a + k))) ∧ ∀ b, b < 32 * a ∨ 32 * a + 32 ≤ b → q.2 2 b = I 2 b)
    (fun J => (∀ i, i ≠ 1 → i ≠ 2 → J i = I i) ∧ (∀ b, b ≠ a → J 1 b = I 1 b) ∧ J 1 a = nI (l.filter (fun y => y != x)).length ∧ (∀ k, k < (l.filter (fun y => y != x)).length → (l.filter (fun y => y != x))[k]? = some (J 2 (32 * a + k))) ∧ ∀ b, b < 32 * a ∨ 32 * a + 32 ≤ b → J 2 b = I 2 b) ?_ ?_ l.length 0 LF (0, I) (by omega) (by unfold LF; omega) ⟨rfl, fun _ _ => rfl, fun k hk => absurd hk (Nat.not_lt_zero k), fun k _ hk => hr k hk, fun _ _ => rfl⟩
  · obtain ⟨J, j1, j2⟩ := key
    exact ⟨J, j2, j1⟩
  · rintro fu ⟨to, J⟩ ⟨g1, g2, g3, g4, g5⟩
    rw [List.take_length] at g1 g3
    have g1 : to = nI (l.filter (fun y => y != x)).length := g1
    have g2 : ∀ i, i ≠ 2 → J i = I i := g2
    have o2 : ∀ v : Int32, u2 J 1 a v 2 = J 2 := fun v => u2_oth _ _ _ (by omega)
    refine ⟨u2 J 1 a to, ⟨fun i h1 h2 => by rw [u2_oth _ _ _ h1]; exact g2 i h2, fun b hb => by rw [u2_ne _ _ (Or.inr hb), g2 1 (by omega)], by rw [u2_eq]; exact g1, fun k hk => by rw [o2]; exact g3 k hk, fun b hb => by rw [o2]; exact g5 b hb⟩, ?_⟩
    show f_X8_leavesRows_b39 k2 (fu + 1) x (nI a) to (nI l.length) J = _
    rw [f_X8_leavesRows_b39, if_pos ca, nI_clamp (by omega), g2 1 (by omega), h1, if_pos ((nI_leI (by omega) (by omega)).mpr (Nat.le_refl _)), if_pos ca, nI_1]
  · rintro fu j ⟨to, J⟩ hj ⟨g1, g2, g3, g4, g5⟩
    have g1 : to = nI ((l.take j).filter (fun y => y != x)).length := g1
    have g2 : ∀ i, i ≠ 2 → J i = I i := g2
    have hlen : ((l.take j).filter (fun y => y != x)).length ≤ j := Nat.le_trans (List.length_filter_le _ _) (by rw [List.length_take]; omega)
    have hjx : l[j]? = some (J 2 (32 * a + j)) := g4 j (Nat.le_refl _) hj
    have htk : l.take (j + 1) = l.take j ++ [J 2 (32 * a + j)] := by
      rw [List.take_succ, hjx]
      rfl
    generalize hm : ((l.take j).filter (fun y => y != x)).length = m at g1 g3 hlen
    have ej : (32 : Int32) * nI a + nI j = nI (32 * a + j) := by rw [nI_32m, nI_add]
    have em : (32 : Int32) * nI a + to = nI (32 * a + m) := by rw [g1, nI_32m, nI_add]
    have ov : okI (nI (32 * a + j)) 128 = true := okI_nI (by omega) (by omega)
    have om : okI (nI (32 * a + m)) 128 = true := okI_nI (by omega) (by omega)
    have ev : u2 J 2 (32 * a + m) (J 2 (32 * a + j)) 2 (32 * a + j) = J 2 (32 * a + j) := by
      rw [u2_ap]
      by_cases c : (2 : Nat) = 2 ∧ 32 * a + j = 32 * a + m
      · rw [if_pos c]
      · rw [if_neg c]
    have c1 : ¬ nI l.length ≤ nI j := nI_ge hj (by omega)
    have hd : f_X8_leavesRows_b39 k2 (fu + 1) x (nI a) to (nI j) J = if J 2 (32 * a + j) = x then f_X8_leavesRows_b39 k2 fu x (nI a) to (nI (j + 1)) (u2 J 2 (32 * a + m) (J 2 (32 * a + j))) else f_X8_leavesRows_b39 k2 fu x (nI a) (to + 1) (nI (j + 1)) (u2 J 2 (32 * a + m) (J 2 (32 * a + j))) := by
      rw [f_X8_leavesRows_b39, if_pos ca, nI_clamp (by omega), g2 1 (by omega), h1, if_neg c1, ej, if_pos ov, em, if_pos om, if_pos ov, nI_clamp (by omega), nI_clamp (by omega), ev]
      by_cases hx : J 2 (32 * a + j) = x
      · rw [if_pos hx, if_pos hx, f_X8_leavesRows_b95, nI_1, Int32.add_zero]
      · rw [if_neg hx, if_neg hx, f_X8_leavesRows_b95, nI_1]
    have rest : ∀ k, j + 1 ≤ k → k < l.length → l[k]? = some (u2 J 2 (32 * a + m) (J 2 (32 * a + j)) 2 (32 * a + k)) := fun k k1 k2 => by
      rw [u2_ne _ _ (Or.inr (by omega))]
      exact g4 k (by omega) k2
    have out : ∀ b, b < 32 * a ∨ 32 * a + 32 ≤ b → u2 J 2 (32 * a + m) (J 2 (32 * a + j)) 2 b = I 2 b := fun b hb => by
      rw [u2_ne _ _ (Or.inr (by omega))]
      exact g5 b hb
    have oth' : ∀ i, i ≠ 2 → u2 J 2 (32 * a + m) (J 2 (32 * a + j)) i = I i := fun i hi => by
      rw [u2_oth _ _ _ hi]
      exact g2 i hi
    by_cases hx : J 2 (32 * a + j) = x
    · have hf : (l.take (j + 1)).filter (fun y => y != x) = (l.take j).filter (fun y => y != x) := by
        rw [htk, List.filter_append]
        simp [hx]
      refine ⟨(to, u2 J 2 (32 * a + m) (J 2 (32 * a + j))), ⟨?_, oth', ?_, rest, out⟩, ?_⟩
      · show to = _
        rw [hf, hm]
        exact g1
      · intro k hk
        rw [hf] at hk ⊢
        rw [hm] at hk
        show _ = some (u2 J 2 (32 * a + m) (J 2 (32 * a + j)) 2 (32 * a + k))
        rw [u2_ne _ _ (Or.inr (by omega))]
        exact g3 k hk
      · show f_X8_leavesRows_b39 k2 (fu + 1) x (nI a) to (nI j) J = f_X8_leavesRows_b39 k2 fu x (nI a) to (nI (j + 1)) _
        rw [hd, if_pos hx]
    · have hf : (l.take (j + 1)).filter (fun y => y != x) = (l.take j).filter (fun y => y != x) ++ [J 2 (32 * a + j)] := by
        rw [htk, List.filter_append]
        simp [hx]
      refine ⟨(to + 1, u2 J 2 (32 * a + m) (J 2 (32 * a + j))), ⟨?_, oth', ?_, rest, out⟩, ?_⟩
      · show to + 1 = _
        rw [g1, hf, List.length_append, hm, nI_1]
        rfl
      · intro k hk
        rw [hf] at hk ⊢
        rw [List.length_append, List.length_singleton, hm] at hk
        show _ = some (u2 J 2 (32 * a + m) (J 2 (32 * a + j)) 2 (32 * a + k))
        by_cases hk2 : k < m
        · rw [List.getElem?_append_left (by omega), g3 k hk2, u2_ne _ _ (Or.inr (by omega))]
        · have : k = m := by omega
          subst this
          rw [u2_eq, List.getElem?_append_right (by omega), hm, Nat.sub_self]
          rfl
      · show f_X8_leavesRows_b39 k2 (fu + 1) x (nI a) to (nI j) J = f_X8_leavesRows_b39 k2 fu x (nI a) (to + 1) (nI (j + 1)) _
        rw [hd, if_neg hx]
theorem mo_dA {W : Prop} {B : BS} {I : IS} {s : SP} (h : RMo W B I s) (hn : na s ≤ 4) {a : Nat} (ha : a < 4) (x : Int32) (k2 : Int32 → Int32 → IS → Option IS) : ∃ J, f_X8_leavesRows_b33 k2 x (nI a) (nI a) (if af s 0 a = x then -5 else af s 0 a) I = k2 x (nI (a + 1)) J ∧ RMo W B J (dA s x a) := by
  obtain ⟨r1, r2, r3⟩ := h.1 a ha
  have ca : okI (nI a) 4 = true := okI_nI ha (by omega)
  have o : ∀ v : Int32, ∀ i, i ≠ 3 → u2 I 3 a v i = I i := fun v i hi => u2_oth _ _ _ hi
  generalize hv : (if af s 0 a = x then (-5 : Int32) else af s 0 a) = v
  obtain ⟨J, j1, j2, j3, j4, j5, j6⟩ := mo_filter (I := u2 I 3 a v) ha (l := rw_ s a) (by rw [o v 1 (by omega)]; exact r1) r2 (fun k hk => by rw [o v 2 (by omega)]; exact r3 k hk) k2 x
  refine ⟨J, by rw [f_X8_leavesRows_b33, if_pos ca, nI_clamp (by omega), j1], ?_⟩
  unfold dA
  rw [hv]
  have hlf := List.length_filter_le (fun y => y != x) (rw_ s a)
  refine mo_uA h (fun y hy => by rw [j2 y (by omega) (by omega), o v y (by omega)]) (fun _ => ⟨j4, by omega, j5⟩) (fun _ => by rw [j2 3 (by omega) (by omega), u2_eq]) (fun hb => ?_) (fun b hb hba => ?_) hn
  · rw [j2 4 (by omega) (by omega), j2 5 (by omega) (by omega), o v 4 (by omega), o v 5 (by omega)]
    exact h.2.1.2 a hb
  · rw [j3 b hba, j2 3 (by omega) (by omega), j2 4 (by omega) (by omega), j2 5 (by omega) (by omega), o v 1 (by omega), o v 4 (by omega), o v 5 (by omega)]
    refine ⟨rfl, fun k hk => ?_, u2_ne _ _ (Or.inr hba), rfl, rfl⟩
    rw [j6 (32 * b + k) (by omega), o v 2 (by omega)]
theorem mo_leaves {W : Prop} {B : BS} {I : IS} {s : SP} (h : RMo W B I s) (hn : na s ≤ 4) (x : Int32) : ∃ J, f_X8_leavesRows x I = some J ∧ RMo W B J (dAll s x 4) := by
  have key := loop_inv (fun fu j (J : IS) => f_X8_leavesRows_b2 fu x (nI j) J) 4 (fun j J => RMo W B J (dAll s x j)) (fun J => RMo W B J (dAll s x 4)) (fun fu J hJ => by
    refine ⟨J, ?_, hJ⟩
    show f_X8_leavesRows_b2 (fu + 1) x (nI 4) J = _
    rw [f_X8_leavesRows_b2, if_pos (by decide)]) (fun fu j J hj hJ => by
    have c4 : ¬ (4 : Int32) ≤ nI j := nI_ge (b := 4) hj (by omega)
    have co : okI (nI j) 4 = true := okI_nI hj (by omega)
    obtain ⟨J', g1, g2⟩ := mo_dA hJ (by rw [(dAll_k s x j).2.2.1]; exact hn) hj x (f_X8_leavesRows_b2 fu)
    have e3 : J 3 j = af (dAll s x j) 0 j := hJ.2.1.1 j hj
    refine ⟨J', g2, ?_⟩
    show f_X8_leavesRows_b2 (fu + 1) x (nI j) J = f_X8_leavesRows_b2 fu x (nI (j + 1)) J'
    rw [f_X8_leavesRows_b2, if_neg c4, if_pos co, nI_clamp (by omega), e3]
    by_cases c : af (dAll s x j) 0 j = x
    · rw [if_pos c] at g1 ⊢
      exact g1
    · rw [if_neg c] at g1 ⊢
      rw [if_pos co]
      exact g1) 4 0 LF I (by omega) (by unfold LF; omega) h
  exact key
/-- a quiet arm holds nothing to be dropped -/
theorem dA_quiet {s : SP} (x : Int32) {a : Nat} (h1 : rw_ s a = []) (h2 : af s 0 a = -5) : dA s x a = s := by
  unfold dA
  have e := uA_self s a
  rw [h1, h2] at e ⊢
  by_cases h : (-5 : Int32) = x
  · rw [if_pos h]
    exact e
  · rw [if_neg h]
    exact e
theorem dAll_quiet {s : SP} (hA : WArm s) (x : Int32) : ∀ d, dAll s x (na s + d) = eDrop s x := by
  intro d
  induction d with
  | zero => rfl
  | succ d ih =>
    show dA (dAll s x (na s + d)) x (na s + d) = _
    rw [ih]
    obtain ⟨q1, q2, -⟩ := hA.2.2.2 (na s + d) (by omega)
    refine dA_quiet x ?_ ?_
    · rw [drop_rw hA, q1]
      rfl
    · rw [drop_a0 hA, q2]
      by_cases h : (-5 : Int32) = x
      · rw [if_pos h]
      · rw [if_neg h]
theorem mo_drop {W : Prop} {B : BS} {I : IS} {s : SP} (h : RMo W B I s) (hA : WArm s) (hn : na s ≤ 4) (x : Int32) : ∃ J, f_X8_leavesRows x I = some J ∧ RMo W B J (eDrop s x) := by
  obtain ⟨J, j1, j2⟩ := mo_leaves h hn x
  refine ⟨J, j1, ?_⟩
  rw [← dAll_quiet hA x (4 - na s), show na s + (4 - na s) = 4 by omega]
  exact j2
theorem mt_isEnded {I : IS} {s : SP} (h : RMt I s) {t : Nat} (ht : t < nT s) : f_X8_isEnded (nI t) I = some (if tf s 3 t < 3 then 0 else 1) := by
  have hT := h.2.1
  have e : I 6 t = tf s 3 t := h.2.2 3 (by omega) t ht
  rw [f_X8_isEnded, if_pos (okI_nI (by omega) (by omega)), nI_clamp (by omega), e]
  by_cases c : tf s 3 t < 3
  · rw [if_pos c, if_pos c, f_X8_isEnded_b15, if_pos okZ0]
  · rw [if_neg c, if_neg c, f_X8_isEnded_b15, if_pos okZ1]
theorem mo_can {W : Prop} {B : BS} {I : IS} {s : SP} (h : RMo W B I s) (hA : WArm s) (hn : na s ≤ 4) {t : Nat} (ht : t < nT s) : ∃ q8 J, f_X8_leavesRows (nI t) I = some q8 ∧ f_X8_entry (-5) 5 (nI t) (u2 q8 6 t 5) = some J ∧ RMo W B J (eCan s t) := by
  obtain ⟨q8, e1, e2⟩ := mo_drop h hA hn (nI t)
  have g := mo_set e2 (f := 3) (by omega) t 5
  obtain ⟨J, j1, j2⟩ := mo_ent g (-5) 5 (nI t)
  exact ⟨q8, J, e1, j1, j2⟩
