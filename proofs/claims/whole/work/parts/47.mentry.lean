/-! ===== the Model: an entry ===== -/
theorem z01 : ¬ (0 : Int32) = 1 := by decide
theorem z10 : ¬ (1 : Int32) = 0 := by decide
theorem okZ0 : okZ (0 : Int32) = true := by decide
theorem okZ1 : okZ (1 : Int32) = true := by decide
theorem mo_looks1 {I : IS} {sn : List (Int32 × Int32)} (hs : RPm 5 (I 0 18) (I 14) (I 15) sn) (h28 : I 0 28 = 0 ∨ I 0 28 = 1) (x : Int32) : ∃ J, f_X8_looksAt x I = some J ∧ (∀ i, i ≠ 0 → J i = I i) ∧ (∀ b, b ≠ 27 → b ≠ 28 → J 0 b = I 0 b) ∧ J 0 27 = I 0 27 + 1 ∧ (J 0 28 = 0 ∨ J 0 28 = 1) ∧ (J 0 28 = 1 ↔ (I 0 28 = 1 ∨ ∃ k, k < sn.length ∧ I 15 k = I 0 27 ∧ I 14 k ≠ x)) := by
  obtain ⟨s1, s2, s3⟩ := hs
  have key := loop_inv (fun fu j (J : IS) => f_X8_looksAt_b2 fu x (nI j) J) sn.length (fun j J => (∀ i, i ≠ 0 → J i = I i) ∧ (∀ b, b ≠ 28 → J 0 b = I 0 b) ∧ (J 0 28 = 0 ∨ J 0 28 = 1) ∧ (J 0 28 = 1 ↔ (I 0 28 = 1 ∨ ∃ k, k < j ∧ I 15 k = I 0 27 ∧ I 14 k ≠ x))) (fun J => (∀ i, i ≠ 0 → J i = I i) ∧ (∀ b, b ≠ 27 → b ≠ 28 → J 0 b = I 0 b) ∧ J 0 27 = I 0 27 + 1 ∧ (J 0 28 = 0 ∨ J 0 28 = 1) ∧ (J 0 28 = 1 ↔ (I 0 28 = 1 ∨ ∃ k, k < sn.length ∧ I 15 k = I 0 27 ∧ I 14 k ≠ x))) (fun fu J hJ => by
    obtain ⟨j1, j2, j3, j4⟩ := hJ
    refine ⟨u2 J 0 27 (J 0 27 + 1), ?_, fun i hi => by rw [u2_oth _ _ _ hi]; exact j1 i hi, fun b hb hb2 => by rw [u2_ne _ _ (Or.inr hb)]; exact j2 b hb2, by rw [u2_eq, j2 27 (by omega)], by rw [u2_ne _ _ (Or.inr (by omega))]; exact j3, by rw [u2_ne _ _ (Or.inr (by omega))]; exact j4⟩
    show f_X8_looksAt_b2 (fu + 1) x (nI sn.length) J = _
    rw [f_X8_looksAt_b2, j2 18 (by omega), s1, if_pos ((nI_leI (by omega) (by omega)).mpr (Nat.le_refl _))]) (fun fu j J hj hJ => by
    obtain ⟨j1, j2, j3, j4⟩ := hJ
    have c1 : ¬ nI sn.length ≤ nI j := nI_ge hj (by omega)
    have co : okI (nI j) 5 = true := okI_nI (by omega) (by omega)
    have set : ∀ v : Int32, (v = 0 ∨ v = 1) → (v = 1 ↔ (I 0 28 = 1 ∨ ∃ k, k < j + 1 ∧ I 15 k = I 0 27 ∧ I 14 k ≠ x)) → (∀ i, i ≠ 0 → u2 J 0 28 v i = I i) ∧ (∀ b, b ≠ 28 → u2 J 0 28 v 0 b = I 0 b) ∧ (u2 J 0 28 v 0 28 = 0 ∨ u2 J 0 28 v 0 28 = 1) ∧ (u2 J 0 28 v 0 28 = 1 ↔ (I 0 28 = 1 ∨ ∃ k, k < j + 1 ∧ I 15 k = I 0 27 ∧ I 14 k ≠ x)) := fun v hv hiff => ⟨fun i hi => by rw [u2_oth _ _ _ hi]; exact j1 i hi, fun b hb => by rw [u2_ne _ _ (Or.inr hb)]; exact j2 b hb, by rw [u2_eq]; exact hv, by rw [u2_eq]; exact hiff⟩
    show ∃ J', _ ∧ f_X8_looksAt_b2 (fu + 1) x (nI j) J = f_X8_looksAt_b2 fu x (nI (j + 1)) J'
    by_cases c0 : J 0 28 = 0
    · have hno : ¬ (I 0 28 = 1 ∨ ∃ k, k < j ∧ I 15 k = I 0 27 ∧ I 14 k ≠ x) := fun q => by
        have := j4.mpr q
        rw [c0] at this
        exact z01 this
      by_cases c15 : I 15 j = I 0 27
      · by_cases c14 : I 14 j = x
        · refine ⟨u2 J 0 28 0, set 0 (Or.inl rfl) ⟨fun q => absurd q z01, fun q => ?_⟩, ?_⟩
          · exfalso
            rcases q with q | ⟨k, k1, k2, k3⟩
            · exact hno (Or.inl q)
            · by_cases hkj : k = j
              · rw [hkj] at k3
                exact k3 c14
              · exact hno (Or.inr ⟨k, by omega, k2, k3⟩)
          · rw [f_X8_looksAt_b2, j2 18 (by omega), s1, if_neg c1, if_pos c0, if_pos co, nI_clamp (by omega), j1 15 (by omega), j2 27 (by omega), if_pos c15, if_pos co, j1 14 (by omega), if_pos c14, f_X8_looksAt_b45, f_X8_looksAt_b46, if_pos okZ0, nI_1]
        · refine ⟨u2 J 0 28 1, set 1 (Or.inr rfl) ⟨fun _ => Or.inr ⟨j, by omega, c15, c14⟩, fun _ => rfl⟩, ?_⟩
          rw [f_X8_looksAt_b2, j2 18 (by omega), s1, if_neg c1, if_pos c0, if_pos co, nI_clamp (by omega), j1 15 (by omega), j2 27 (by omega), if_pos c15, if_pos co, j1 14 (by omega), if_neg c14, f_X8_looksAt_b41, f_X8_looksAt_b46, if_pos okZ1, nI_1]
      · refine ⟨u2 J 0 28 0, set 0 (Or.inl rfl) ⟨fun q => absurd q z01, fun q => ?_⟩, ?_⟩
        · exfalso
          rcases q with q | ⟨k, k1, k2, k3⟩
          · exact hno (Or.inl q)
          · by_cases hkj : k = j
            · rw [hkj] at k2
              exact c15 k2
            · exact hno (Or.inr ⟨k, by omega, k2, k3⟩)
        · rw [f_X8_looksAt_b2, j2 18 (by omega), s1, if_neg c1, if_pos c0, if_pos co, nI_clamp (by omega), j1 15 (by omega), j2 27 (by omega), if_neg c15, f_X8_looksAt_b45, f_X8_looksAt_b46, if_pos okZ0, nI_1]
    · have c1' : J 0 28 = 1 := j3.resolve_left c0
      refine ⟨u2 J 0 28 1, set 1 (Or.inr rfl) ⟨fun _ => ?_, fun _ => rfl⟩, ?_⟩
      · rcases j4.mp c1' with q | ⟨k, k1, k2, k3⟩
        · exact Or.inl q
        · exact Or.inr ⟨k, by omega, k2, k3⟩
      · rw [f_X8_looksAt_b2, j2 18 (by omega), s1, if_neg c1, if_neg c0, f_X8_looksAt_b41, f_X8_looksAt_b46, if_pos okZ1, nI_1]) sn.length 0 LF I (by omega) (by unfold LF; omega) ⟨fun _ _ => rfl, fun _ _ => rfl, h28, ⟨fun q => Or.inl q, fun q => q.elim (fun q => q) (fun ⟨k, k1, _⟩ => absurd k1 (Nat.not_lt_zero k))⟩⟩
  exact key
theorem mo_looks {W : Prop} {B : BS} {I : IS} {s : SP} (h : RMo W B I s) (x : Int32) : ∃ J, f_X8_looksAt x I = some J ∧ RMo W B J (wLg s (lg s ++ [x])) := by
  obtain ⟨h1, h2, h3, h4, h5, h6, h7, h8⟩ := h
  obtain ⟨J, e1, e2, e3, e4, e5, e6⟩ := mo_looks1 h5.1 h7.1 x
  refine ⟨J, e1, rmr_c h1 (e2 _ (by omega)) (e2 _ (by omega)) rfl, rma_c h2 (e2 _ (by omega)) (e2 _ (by omega)) (e2 _ (by omega)) rfl rfl, rmt_c h3 (e3 _ (by omega) (by omega)) (fun i _ _ => e2 i (by omega)) rfl rfl, rme_c h4 (e3 _ (by omega) (by omega)) (e2 _ (by omega)) rfl, rmp_c h5 ⟨e3 _ (by omega) (by omega), e3 _ (by omega) (by omega), e3 _ (by omega) (by omega)⟩ (fun i _ _ => e2 i (by omega)) rfl, rmn_c h6 ⟨e3 _ (by omega) (by omega), e3 _ (by omega) (by omega), e3 _ (by omega) (by omega)⟩ rfl rfl rfl, ⟨e5, fun w => ?_⟩, keep_c h8 (fun i _ => e2 i (by omega)) ⟨e3 _ (by omega) (by omega), e3 _ (by omega) (by omega)⟩⟩
  obtain ⟨g1, g2⟩ := h7.2 w
  have el : lg (wLg s (lg s ++ [x])) = lg s ++ [x] := rfl
  have eo : tol (wLg s (lg s ++ [x])) = tol s := rfl
  rw [el, eo]
  refine ⟨by rw [e4, g1, nI_1, List.length_append]; rfl, e6.trans ?_⟩
  rw [g2]
  obtain ⟨p1, p2, p3⟩ := h5.1
  constructor
  · rintro (⟨q, q1, j, q2, q3, q4⟩ | ⟨k, k1, k2, k3⟩)
    · exact ⟨q, q1, j, by rw [List.length_append]; omega, q3, by rw [List.getElem?_append_left q2]; exact q4⟩
    · refine ⟨(I 14 k, I 15 k), List.mem_of_getElem? (p3 k k1), (lg s).length, by rw [List.length_append]; simp, by rw [k2, g1], ?_⟩
      simp only [List.getElem?_append_right (Nat.le_refl _), Nat.sub_self]
      exact fun q => k3 (Option.some.inj q).symm
  · rintro ⟨q, q1, j, q2, q3, q4⟩
    rw [List.length_append, List.length_singleton] at q2
    by_cases hj : j < (lg s).length
    · exact Or.inl ⟨q, q1, j, hj, q3, by rw [List.getElem?_append_left hj] at q4; exact q4⟩
    · have hj : j = (lg s).length := by omega
      subst hj
      simp only [List.getElem?_append_right (Nat.le_refl _), Nat.sub_self] at q4
      obtain ⟨k, hk⟩ := List.getElem?_of_mem q1
      have hkl := (List.getElem?_eq_some_iff.mp hk).1
      rw [p3 k hkl] at hk
      have hk := Option.some.inj hk
      refine Or.inr ⟨k, hkl, ?_, fun q5 => q4 ?_⟩
      · rw [g1, q3, ← hk]
      · rw [← hk, q5]
        rfl
theorem mo_trace {W : Prop} {B : BS} {I J : IS} {s : SP} (h : RMo W B I s) {l : List EN} (e : ∀ i, i ≠ 0 → i ≠ 13 → J i = I i) (e0 : ∀ b, b ≠ 16 → J 0 b = I 0 b) (hl : J 0 16 = nI l.length ∧ l.length ≤ 40 ∧ ∀ k, k < l.length → l[k]? = some (en4 J k)) : RMo W B J (wTr s l (lg s)) := by
  obtain ⟨h1, h2, h3, h4, h5, h6, h7, h8⟩ := h
  exact ⟨rmr_c h1 (e _ (by omega) (by omega)) (e _ (by omega) (by omega)) rfl, rma_c h2 (e _ (by omega) (by omega)) (e _ (by omega) (by omega)) (e _ (by omega) (by omega)) rfl rfl, rmt_c h3 (e0 _ (by omega)) (fun i _ _ => e i (by omega) (by omega)) rfl rfl, hl, rmp_c h5 ⟨e0 _ (by omega), e0 _ (by omega), e0 _ (by omega)⟩ (fun i _ _ => e i (by omega) (by omega)) rfl, rmn_c h6 ⟨e0 _ (by omega), e0 _ (by omega), e0 _ (by omega)⟩ rfl rfl rfl, rml_c h7 ⟨e0 _ (by omega), e0 _ (by omega)⟩ rfl rfl, keep_c h8 (fun i _ => e i (by omega) (by omega)) ⟨e0 _ (by omega), e0 _ (by omega)⟩⟩
theorem mo_ent52 {W : Prop} {B : BS} {I : IS} {s : SP} (h : RMo W B I s) (hl : (tr_ s).length < 40) (a k t : Int32) : ∃ J, f_X8_entry_b52 a k t I = some J ∧ RMo W B J (wTr s (tr_ s ++ [(rd s, a, k, t)]) (lg s ++ [t])) := by
  have h16 : I 0 16 = nI (tr_ s).length := h.2.2.2.1.1
  have h15 : I 0 15 = rd s := h.2.2.2.2.2.1.2.2
  have ht := h.2.2.2.1.2.2
  have o : ∀ j, j < 160 → okI (nI j) 160 = true := fun j hj => okI_nI hj (by omega)
  have z0 : ∀ (X : IS) (b : Nat) (v : Int32), u2 X 13 b v 0 = X 0 := fun X b v => u2_oth _ _ _ (by omega)
  generalize hX : u2 (u2 (u2 (u2 (u2 I 13 (4 * (tr_ s).length) (rd s)) 13 (4 * (tr_ s).length + 1) a) 13 (4 * (tr_ s).length + 2) k) 13 (4 * (tr_ s).length + 3) t) 0 16 (nI ((tr_ s).length + 1)) = X
  have eX : ∀ b, X 13 b = if b = 4 * (tr_ s).length then rd s else if b = 4 * (tr_ s).length + 1 then a else if b = 4 * (tr_ s).length + 2 then k else if b = 4 * (tr_ s).length + 3 then t else I 13 b := fun b => by
    rw [← hX, u2_ne _ _ (Or.inl (by omega))]
    simp only [u2_ap]
    by_cases c0 : b = 4 * (tr_ s).length
    · subst c0
      simp
    · by_cases c1 : b = 4 * (tr_ s).length + 1
      · subst c1
        simp
      · by_cases c2 : b = 4 * (tr_ s).length + 2
        · subst c2
          simp
        · simp [c0, c1, c2]
  have e : ∀ i, i ≠ 0 → i ≠ 13 → X i = I i := fun i h0 h13 => by
    rw [← hX, u2_oth _ _ _ h0, u2_oth _ _ _ h13, u2_oth _ _ _ h13, u2_oth _ _ _ h13, u2_oth _ _ _ h13]
  have e0 : ∀ b, b ≠ 16 → X 0 b = I 0 b := fun b hb => by
    rw [← hX, u2_ne _ _ (Or.inr hb), z0, z0, z0, z0]
  have g := mo_trace (J := X) (l := tr_ s ++ [(rd s, a, k, t)]) h e e0 ⟨by rw [← hX, u2_eq, List.length_append]; rfl, by rw [List.length_append, List.length_singleton]; omega, fun j hj => by
    rw [List.length_append, List.length_singleton] at hj
    unfold en4
    by_cases hjl : j < (tr_ s).length
    · rw [List.getElem?_append_left hjl, ht j hjl]
      unfold en4
      rw [eX, eX, eX, eX]
      simp only [show ¬ 4 * j = 4 * (tr_ s).length by omega, show ¬ 4 * j = 4 * (tr_ s).length + 1 by omega, show ¬ 4 * j = 4 * (tr_ s).length + 2 by omega, show ¬ 4 * j = 4 * (tr_ s).length + 3 by omega, show ¬ 4 * j + 1 = 4 * (tr_ s).length by omega, show ¬ 4 * j + 1 = 4 * (tr_ s).length + 1 by omega, show ¬ 4 * j + 1 = 4 * (tr_ s).length + 2 by omega, show ¬ 4 * j + 1 = 4 * (tr_ s).length + 3 by omega, show ¬ 4 * j + 2 = 4 * (tr_ s).length by omega, show ¬ 4 * j + 2 = 4 * (tr_ s).length + 1 by omega, show ¬ 4 * j + 2 = 4 * (tr_ s).length + 2 by omega, show ¬ 4 * j + 2 = 4 * (tr_ s).length + 3 by omega, show ¬ 4 * j + 3 = 4 * (tr_ s).length by omega, show ¬ 4 * j + 3 = 4 * (tr_ s).length + 1 by omega, show ¬ 4 * j + 3 = 4 * (tr_ s).length + 2 by omega, show ¬ 4 * j + 3 = 4 * (tr_ s).length + 3 by omega, if_false]
    · have hj : j = (tr_ s).length := by omega
      subst hj
      rw [eX, eX, eX, eX]
      simp⟩
  obtain ⟨J, l1, l2⟩ := mo_looks g t
  refine ⟨J, ?_, l2⟩
  have w1 : u2 (u2 I 13 (4 * (tr_ s).length) (rd s)) 13 (4 * (tr_ s).length + 1) a 0 16 = nI (tr_ s).length := by rw [z0, z0, h16]
  rw [f_X8_entry_b52, h16, nI_4m, if_pos (o _ (by omega)), nI_clamp (by omega), h15, z0, h16, nI_4m, nI_a1, if_pos (o _ (by omega)), some_bind, nI_clamp (by omega), w1, nI_4m, nI_a2, if_pos (o _ (by omega)), z0, w1, nI_4m, nI_a3, nI_clamp (by omega), if_pos (o _ (by omega)), nI_clamp (by omega), some_bind]
  rw [z0, z0, w1, nI_1, hX, l1, some_bind]
theorem mo_ent {W : Prop} {B : BS} {I : IS} {s : SP} (h : RMo W B I s) (a k t : Int32) : ∃ J, f_X8_entry a k t I = some J ∧ RMo W B J (eEnt s a k t) := by
  have h16 : I 0 16 = nI (tr_ s).length := h.2.2.2.1.1
  have hlen : (tr_ s).length ≤ 40 := h.2.2.2.1.2.1
  have ht := h.2.2.2.1.2.2
  unfold eEnt trAdd
  by_cases hl : (tr_ s).length < 40
  · rw [if_pos hl]
    obtain ⟨J, j1, j2⟩ := mo_ent52 h hl a k t
    refine ⟨J, ?_, j2⟩
    have c40 : ¬ nI (tr_ s).length = (40 : Int32) := fun q => by
      have := (nI_eq (by omega) (show 40 < 2 ^ 31 by omega)).mp q
      omega
    rw [f_X8_entry, h16, if_neg c40, j1]
  · rw [if_neg hl]
    have h40 : (tr_ s).length = 40 := by omega
    have key := loop_to (fun fu j (J : IS) => f_X8_entry_b12 fu a k t (nI (j + 4)) J) (fun J => f_X8_entry_b52 a k t J) 156 (fun j J => (∀ i, i ≠ 13 → J i = I i) ∧ ∀ b, J 13 b = if b < j then I 13 (b + 4) else I 13 b) (fun J => RMo W B J (wTr s (tr_ s).tail (lg s))) (fun fu J hJ => by
      obtain ⟨j1, j2⟩ := hJ
      have j0 : J 0 = I 0 := j1 0 (by omega)
      have z0 : ∀ v : Int32, u2 J 0 16 v 13 = J 13 := fun v => u2_oth _ _ _ (by omega)
      refine ⟨u2 J 0 16 (J 0 16 - 1), mo_trace h (fun i h0 h13 => by rw [u2_oth _ _ _ h0]; exact j1 i h13) (fun b hb => by rw [u2_ne _ _ (Or.inr hb), j0]) ⟨?_, by rw [List.length_tail]; omega, fun q hq => ?_⟩, ?_⟩
      · rw [u2_eq, j0, h16, List.length_tail, h40]
        rfl
      · rw [List.length_tail] at hq
        rw [List.getElem?_tail, ht (q + 1) (by omega)]
        unfold en4
        rw [z0, j2, j2, j2, j2, if_pos (by omega), if_pos (by omega), if_pos (by omega), if_pos (by omega)]
        rw [show 4 * (q + 1) = 4 * q + 4 by omega]
      · show f_X8_entry_b12 (fu + 1) a k t (nI (156 + 4)) J = _
        rw [f_X8_entry_b12, if_pos (by decide)]) (fun fu j J hj hJ => by
      obtain ⟨j1, j2⟩ := hJ
      refine ⟨u2 J 13 j (J 13 (j + 4)), ⟨fun i hi => by rw [u2_oth _ _ _ hi]; exact j1 i hi, fun b => ?_⟩, ?_⟩
      · rw [u2_ap]
        by_cases hb : b = j
        · rw [if_pos ⟨rfl, hb⟩, j2, if_neg (by omega), if_pos (by omega), hb]
        · rw [if_neg (fun q => hb q.2), j2]
          by_cases hbj : b < j
          · rw [if_pos hbj, if_pos (by omega)]
          · rw [if_neg hbj, if_neg (by omega)]
      · have c : ¬ (160 : Int32) ≤ nI (j + 4) := nI_ge (b := 160) (by omega) (by omega)
        show f_X8_entry_b12 (fu + 1) a k t (nI (j + 4)) J = f_X8_entry_b12 fu a k t (nI (j + 1 + 4)) _
        rw [f_X8_entry_b12, if_neg c, if_pos (okI_nI (by omega) (by omega)), nI_s4, if_pos (okI_nI (by omega) (by omega)), nI_clamp (by omega), nI_clamp (by omega), nI_1, show j + 4 + 1 = j + 1 + 4 by omega]) 156 0 LF I (by omega) (by unfold LF; omega) ⟨fun _ _ => rfl, fun b => by rw [if_neg (Nat.not_lt_zero b)]⟩
    obtain ⟨X, x1, x2⟩ := key
    obtain ⟨J, j1, j2⟩ := mo_ent52 x1 (by show (tr_ s).tail.length < 40; rw [List.length_tail]; omega) a k t
    refine ⟨J, ?_, j2⟩
    have c40 : nI (tr_ s).length = (40 : Int32) := by rw [h40]; rfl
    rw [f_X8_entry, h16, if_pos c40]
    rw [← j1]
    exact x2
