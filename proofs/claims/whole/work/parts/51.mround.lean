/-! ===== the Model: what an arm takes ===== -/
theorem i32_sub1 (a b : Int32) : a - b - 1 = a - (b + 1) := by
  rw [Int32.sub_eq_add_neg, Int32.sub_eq_add_neg, Int32.sub_eq_add_neg, Int32.neg_add, Int32.add_assoc, Int32.sub_eq_add_neg]
theorem mn_na {I : IS} {s : SP} (h : RMn I s) : I 0 0 = nI (na s) := h.1
theorem fl_congr {s s' : SP} (h : rw_ s' = rw_ s) (a : Nat) : ∀ n, fl s' a n = fl s a n := by
  intro n
  induction n with
  | zero => rfl
  | succ n ih =>
    unfold fl full
    rw [ih, h]
theorem mo_full {W : Prop} {B : BS} {I : IS} {s : SP} (h : RMo W B I s) (hn : na s ≤ 4) {a : Nat} (ha : a < na s) : f_X8_fullOthers (nI a) I = some (nI (fl s a (na s)).length) := by
  have e0 : I 0 0 = nI (na s) := h.2.2.2.2.2.1.1
  exact loop_up (fun fu j (x : Int32) => f_X8_fullOthers_b4 fu (nI a) x (nI j) I) (na s) (fun j => nI (fl s a j).length) (fun fu => by
    show f_X8_fullOthers_b4 (fu + 1) (nI a) _ (nI (na s)) I = _
    rw [f_X8_fullOthers_b4, e0, if_pos ((nI_leI (by omega) (by omega)).mpr (Nat.le_refl _))]) (fun fu j hj => by
    have c1 : ¬ nI (na s) ≤ nI j := nI_ge hj (by omega)
    have c2 : okI (nI j) 4 = true := okI_nI (by omega) (by omega)
    obtain ⟨g1, g2, -⟩ := h.1 j (by omega)
    have ef : fl s a (j + 1) = if full s a j = true then fl s a j ++ [j] else fl s a j := rfl
    show f_X8_fullOthers_b4 (fu + 1) (nI a) (nI (fl s a j).length) (nI j) I = f_X8_fullOthers_b4 fu (nI a) (nI (fl s a (j + 1)).length) (nI (j + 1)) I
    by_cases hja : j = a
    · rw [f_X8_fullOthers_b4, e0, if_neg c1, if_pos (by rw [hja]), f_X8_fullOthers_b31, f_X8_fullOthers_b32, nI_1, Int32.add_zero, ef, if_neg (fun q => (full_iff.mp q).1 hja)]
    · have cja : ¬ nI j = nI a := fun q => hja ((nI_eq (by omega) (by omega)).mp q)
      by_cases h0 : (rw_ s j).length = 0
      · rw [f_X8_fullOthers_b4, e0, if_neg c1, if_neg cja, if_pos c2, nI_clamp (by omega), g1, if_pos ((dr_le0 g2).mpr h0), f_X8_fullOthers_b31, f_X8_fullOthers_b32, nI_1, Int32.add_zero, ef, if_neg (fun q => (full_iff.mp q).2 h0)]
      · have ee : nI (fl s a j ++ [j]).length = nI ((fl s a j).length + 1) := by rw [List.length_append]; rfl
        rw [f_X8_fullOthers_b4, e0, if_neg c1, if_neg cja, if_pos c2, nI_clamp (by omega), g1, if_neg (fun q => h0 ((dr_le0 g2).mp q)), f_X8_fullOthers_b32, nI_1, nI_1, ef, if_pos (full_iff.mpr ⟨hja, h0⟩), ee]) (na s) 0 LF (by omega) (by unfold LF; omega)
theorem mo_works {W : Prop} {B : BS} {I : IS} {s : SP} (h : RMo W B I s) (hn : na s ≤ 4) {a : Nat} (ha : a < 4) (k : Int32) {t : Nat} (ht : t < nT s) : ∃ J, f_X8_worksOn (nI a) (nI t) k I = some J ∧ RMo W B J (eWk s a k t) := by
  have hT : nT s ≤ 32 := h.2.2.1.2.1
  have h1 := mo_u3 h hn (a := a) (nI t)
  have h2 := mo_set h1 (f := 3) (by omega) t 1
  obtain ⟨q, e1, e2⟩ := mo_ent h2 (nI a) k (nI t)
  have e1 : f_X8_entry (nI a) k (nI t) (u2 (u2 I 3 a (nI t)) 6 t 1) = some q := e1
  refine ⟨q, ?_, e2⟩
  rw [f_X8_worksOn, if_pos (okI_nI ha (by omega)), if_pos (okI_nI (by omega) (by omega)), nI_clamp (by omega), nI_clamp (by omega), e1, some_bind]
theorem dA_noop {s : SP} {x : Int32} {b : Nat} (h1 : x ∉ rw_ s b) (h2 : af s 0 b ≠ x) : dA s x b = s := by
  unfold dA
  rw [if_neg h2, filter_notin h1]
  exact uA_self s b
theorem dAll_one {s : SP} (hw : WF s) {o t : Nat} (ht : t < nT s) (ho : nI t ∈ rw_ s o) (hs : tf s 3 t = 0) : ∀ n, dAll s (nI t) n = if o < n then dA s (nI t) o else s := by
  intro n
  induction n with
  | zero => rw [if_neg (Nat.not_lt_zero o)]; rfl
  | succ n ih =>
    show dA (dAll s (nI t) n) (nI t) n = _
    rw [ih]
    by_cases hon : o < n
    · rw [if_pos hon, if_pos (by omega)]
      refine dA_noop (fun q => ?_) ?_
      · rw [dA_r hw.2.1 ho] at q
        have := (List.mem_filter.mp q).1
        have := hw.2.1.2.1 n o _ this ho
        omega
      · rw [dA_f0 s _ o n (wf_notArm hw ht hs o)]
        exact wf_notArm hw ht hs n
    · rw [if_neg hon]
      by_cases hno : n = o
      · rw [hno, if_pos (by omega)]
      · rw [if_neg (by omega)]
        exact dA_noop (fun q => hno (hw.2.1.2.1 n o _ q ho)) (wf_notArm hw ht hs n)
theorem mo_stealsE {W : Prop} {B : BS} {I : IS} {s : SP} (h : RMo W B I s) (hw : WF s) {a o : Nat} (ha : a < na s) (ho : o < na s) (hf : (rw_ s o).length ≠ 0) : ∃ q3 J, f_X8_leavesRows (I 2 (32 * o)) I = some q3 ∧ f_X8_worksOn (nI a) (I 2 (32 * o)) 1 (u2 q3 5 a (q3 5 a + 1)) = some J ∧ RMo W B J (eStl s a o ((rw_ s o).headD (-5))) := by
  have hn : na s ≤ 4 := hw.1.2.1
  have hT : nT s ≤ 32 := hw.1.2.2
  cases hr : rw_ s o with
  | nil => exact absurd (by rw [hr]; rfl) hf
  | cons x l =>
    have hx : x ∈ rw_ s o := by rw [hr]; exact List.mem_cons_self
    obtain ⟨t, ht, e, hs, -⟩ := hw.2.1.2.2 o x hx
    have hv : I 2 (32 * o) = nI t := by
      have := (h.1 o (by omega)).2.2 0 (by rw [hr]; simp)
      rw [hr, e] at this
      exact (Option.some.inj this).symm
    rw [List.headD_cons, e, hv]
    obtain ⟨q3, j1, j2⟩ := mo_leaves h hn (nI t)
    rw [dAll_one hw ht (by rw [← e]; exact hx) hs 4, if_pos (by omega)] at j2
    have e5 : q3 5 a = af (dA s (nI t) o) 2 a := (j2.2.1.2 a ha).2
    have g := mo_u5 j2 hn (a := a) (q3 5 a + 1)
    rw [e5] at g
    obtain ⟨J, k1, k2⟩ := mo_works g hn (a := a) (by omega) 1 (t := t) ht
    refine ⟨q3, J, j1, by rw [e5]; exact k1, ?_⟩
    unfold eStl
    rw [nI_clamp (by omega)]
    exact k2
theorem mo_stealsL {W : Prop} {B : BS} {I : IS} {s : SP} (h : RMo W B I s) (hw : WF s) {a idx o : Nat} (ha : a < na s) (hidx : idx < (fl s a (na s)).length) (ho : (fl s a (na s))[idx]? = some o) : ∃ J, f_X8_steals_b12 LF (nI a) (nI idx) (-1) 0 I = some J ∧ RMo W B J (eStl s a o ((rw_ s o).headD (-5))) := by
  have hn : na s ≤ 4 := hw.1.2.1
  have e0 : I 0 0 = nI (na s) := h.2.2.2.2.2.1.1
  have hN : (fl s a (na s)).length ≤ 4 := Nat.le_trans (fl_len s a _) hn
  obtain ⟨ho1, ho2⟩ := fl_mem s a (na s) o (List.mem_of_getElem? ho)
  have key := loop_inv (fun fu j (q : Int32 × Int32) => f_X8_steals_b12 fu (nI a) q.1 q.2 (nI j) I) (na s) (fun j q => q.1 = nI idx - nI (fl s a j).length ∧ (idx < (fl s a j).length → q.2 = nI o)) (fun J => RMo W B J (eStl s a o ((rw_ s o).headD (-5)))) ?_ ?_ (na s) 0 LF (nI idx, -1) (by omega) (by unfold LF; omega) ⟨by show nI idx = nI idx - 0; rw [Int32.sub_zero], fun q => absurd q (Nat.not_lt_zero idx)⟩
  · exact key
  · rintro fu ⟨x3, x4⟩ ⟨g1, g2⟩
    have g2 : x4 = nI o := g2 hidx
    obtain ⟨q3, J, j1, j2, j3⟩ := mo_stealsE h hw ha ho1 (full_iff.mp ho2).2
    refine ⟨J, ?_, j3⟩
    have ca : okI (nI a) 4 = true := okI_nI (by omega) (by omega)
    have ez : (32 : Int32) * nI o = nI (32 * o) := nI_32m o
    show f_X8_steals_b12 (fu + 1) (nI a) x3 x4 (nI (na s)) I = _
    rw [f_X8_steals_b12, e0, if_pos ((nI_leI (by omega) (by omega)).mpr (Nat.le_refl _)), g2, ez, if_pos (okI_nI (by omega) (by omega)), nI_clamp (by omega), j1, some_bind, if_pos ca, if_pos ca, nI_clamp (by omega), j2, some_bind]
  · rintro fu j ⟨x3, x4⟩ hj ⟨g1, g2⟩
    have g1 : x3 = nI idx - nI (fl s a j).length := g1
    have g2 : idx < (fl s a j).length → x4 = nI o := g2
    have c1 : ¬ nI (na s) ≤ nI j := nI_ge hj (by omega)
    have c2 : okI (nI j) 4 = true := okI_nI (by omega) (by omega)
    obtain ⟨m1, m2, -⟩ := h.1 j (by omega)
    have hlj := fl_len s a j
    have ef : fl s a (j + 1) = if full s a j = true then fl s a j ++ [j] else fl s a j := rfl
    show ∃ q' : Int32 × Int32, _ ∧ f_X8_steals_b12 (fu + 1) (nI a) x3 x4 (nI j) I = f_X8_steals_b12 fu (nI a) q'.1 q'.2 (nI (j + 1)) I
    have no : f_X8_steals_b41 (f_X8_steals_b12 fu) (nI a) x3 x4 (nI j) I = f_X8_steals_b12 fu (nI a) x3 x4 (nI (j + 1)) I := by
      rw [f_X8_steals_b41, f_X8_steals_b42, if_pos rfl, f_X8_steals_b58, f_X8_steals_b60, if_pos rfl, f_X8_steals_b73, nI_1, Int32.sub_zero]
    by_cases hja : j = a
    · refine ⟨(x3, x4), by rw [ef, if_neg (fun q => (full_iff.mp q).1 hja)]; exact ⟨g1, g2⟩, ?_⟩
      rw [f_X8_steals_b12, e0, if_neg c1, if_pos (by rw [hja]), no]
    · have cja : ¬ nI j = nI a := fun q => hja ((nI_eq (by omega) (by omega)).mp q)
      by_cases h0 : (rw_ s j).length = 0
      · refine ⟨(x3, x4), by rw [ef, if_neg (fun q => (full_iff.mp q).2 h0)]; exact ⟨g1, g2⟩, ?_⟩
        rw [f_X8_steals_b12, e0, if_neg c1, if_neg cja, if_pos c2, nI_clamp (by omega), m1, if_pos ((dr_le0 m2).mpr h0), no]
      · have hf := full_iff.mpr ⟨hja, h0⟩
        have el : (fl s a (j + 1)).length = (fl s a j).length + 1 := by rw [ef, if_pos hf, List.length_append]; rfl
        have hd : f_X8_steals_b12 (fu + 1) (nI a) x3 x4 (nI j) I = f_X8_steals_b42 (f_X8_steals_b12 fu) (nI a) x3 x4 (nI j) 1 I := by
          rw [f_X8_steals_b12, e0, if_neg c1, if_neg cja, if_pos c2, nI_clamp (by omega), m1, if_neg (fun q => h0 ((dr_le0 m2).mp q))]
        have ex : x3 - 1 = nI idx - nI (fl s a (j + 1)).length := by
          rw [g1, el, i32_sub1, nI_1]
        by_cases hx : idx = (fl s a j).length
        · have hx0 : x3 = 0 := by rw [g1, hx]; exact Int32.sub_self _
          have hxo : some j = some o := by
            have e1 : (fl s a (j + 1))[idx]? = some j := by
              rw [ef, if_pos hf, hx]
              simp
            have e2 := fl_pre s a (na s - (j + 1)) (j + 1) idx (by omega)
            rw [show j + 1 + (na s - (j + 1)) = na s by omega, ho, e1] at e2
            exact e2.symm
          refine ⟨(x3 - 1, nI j), ⟨ex, fun _ => by rw [Option.some.inj hxo]⟩, ?_⟩
          rw [hd, f_X8_steals_b42, if_neg z10, if_pos hx0, f_X8_steals_b60, if_neg z10, f_X8_steals_b73, nI_1]
        · have hx0 : ¬ x3 = 0 := fun q => by
            rw [g1] at q
            have : nI idx = nI (fl s a j).length := by
              have e := congrArg (fun z => z + nI (fl s a j).length) q
              simpa using e
            exact hx (nIne (by omega) (by omega) this)
          refine ⟨(x3 - 1, x4), ⟨ex, fun q => g2 (by omega)⟩, ?_⟩
          rw [hd, f_X8_steals_b42, if_neg z10, if_neg hx0, f_X8_steals_b58, f_X8_steals_b60, if_neg z10, f_X8_steals_b73, nI_1]
theorem mo_drawBelow {W : Prop} {B : BS} {I : IS} {s : SP} (h : RMo W B I s) {N : Nat} (h0 : N ≠ 0) (hN : N ≤ 4) : f_X8_drawBelow (nI N) I = some (nI (shN (sdN (sd s)) % N), u2 I 0 14 (sdN (sd s))) := by
  have e14 : I 0 14 = sd s := h.2.2.2.2.2.1.2.1
  have es : I 0 14 * (1103515245 : Int32) + (12345 : Int32) = sdN (sd s) := by rw [e14, sdN]
  have od : okD (nI N) = true := by
    unfold okD
    exact decide_eq_true (fun q => h0 ((dr_e0 (by omega)).mp q))
  generalize sdN (sd s) = d at es ⊢
  have ei : nI (shN d) - nI (shN d) / nI N * nI N = nI (shN d % N) := pk_rem (by have := shN_lt d; omega) (by omega) (by omega)
  rw [f_X8_drawBelow, if_pos od, es, u2_eq, sh_eq, ei]
theorem mo_steals {W : Prop} {B : BS} {I : IS} {s : SP} (h : RMo W B I s) (hw : WF s) {a : Nat} (ha : a < na s) (hl : (rw_ s a).getLast? = none) (h0 : (fl s a (na s)).length ≠ 0) : ∃ J, f_X8_steals (nI a) (nI (fl s a (na s)).length) I = some J ∧ RMo W B J (eTake s a) := by
  have hn : na s ≤ 4 := hw.1.2.1
  have hN : (fl s a (na s)).length ≤ 4 := Nat.le_trans (fl_len s a _) hn
  have hd := mo_drawBelow h h0 hN
  have gd := mo_sd h (sdN (sd s))
  rcases eDr_cases s a with e | ⟨o, s', e, hf, -, k1, k2, k3, k4, k5, -⟩
  · unfold eDr at e
    rw [if_neg h0] at e
    exfalso
    have hidx : shN (sdN (sd s)) % (fl s a (na s)).length < (fl s a (na s)).length := Nat.mod_lt _ (by omega)
    rw [List.getElem?_eq_getElem hidx] at e
    cases (congrArg Prod.fst e)
  · have e' := e
    unfold eDr at e'
    rw [if_neg h0] at e'
    have hidx : shN (sdN (sd s)) % (fl s a (na s)).length < (fl s a (na s)).length := Nat.mod_lt _ (by omega)
    have e1 : (fl s a (na s))[shN (sdN (sd s)) % (fl s a (na s)).length]? = some o := congrArg Prod.fst e'
    have e2 : wSd s (sdN (sd s)) = s' := congrArg Prod.snd e'
    rw [e2] at gd
    rw [eTake_far hl e]
    clear e e' e2
    generalize shN (sdN (sd s)) % (fl s a (na s)).length = idx at hd hidx e1
    obtain ⟨J, j1, j2⟩ := mo_stealsL gd (k5 hw) (a := a) (idx := idx) (o := o) (by omega) (by rw [k3, fl_congr k1]; exact hidx) (by rw [k3, fl_congr k1]; exact e1)
    refine ⟨J, ?_, j2⟩
    rw [f_X8_steals, hd, some_bind]
    exact j1
theorem mo_pop {W : Prop} {B : BS} {I : IS} {s : SP} (h : RMo W B I s) (hn : na s ≤ 4) {a : Nat} (ha : a < 4) : RMo W B (u2 I 1 a (nI ((rw_ s a).length - 1))) (ePop s a) := by
  obtain ⟨r1, r2, r3⟩ := h.1 a ha
  have o : ∀ i, i ≠ 1 → u2 I 1 a (nI ((rw_ s a).length - 1)) i = I i := fun i hi => u2_oth _ _ _ hi
  refine mo_uA h (fun y hy => o y (by omega)) (fun _ => ⟨by rw [u2_eq, List.length_dropLast], by rw [List.length_dropLast]; omega, fun k hk => ?_⟩) (fun _ => by rw [o 3 (by omega)]; exact h.2.1.1 a ha) (fun hb => by rw [o 4 (by omega), o 5 (by omega)]; exact h.2.1.2 a hb) (fun b hb hba => by
    rw [o 2 (by omega), o 3 (by omega), o 4 (by omega), o 5 (by omega)]
    exact ⟨u2_ne _ _ (Or.inr hba), fun _ _ => rfl, rfl, rfl, rfl⟩) hn
  rw [List.length_dropLast] at hk
  rw [o 2 (by omega), List.getElem?_dropLast, if_pos hk]
  exact r3 k (by omega)
