/-! ===== the Model: what goes up; a task that is through ===== -/
theorem u2_self {α : Type} (f : Nat → Nat → α) (i k : Nat) {v : α} (h : f i k = v) : u2 f i k v = f := by
  funext j b
  rw [u2_ap]
  by_cases c : j = i ∧ b = k
  · rw [if_pos c, c.1, c.2, h]
  · rw [if_neg c]
theorem eSet_self (s : SP) (f t : Nat) {v : Int32} (h : tf s f t = v) : eSet s f t v = s := by
  show wTf s (u2 (tf s) f t v) = s
  rw [u2_self _ _ _ h]
  rfl
theorem mo_fin {W : Prop} {B : BS} {I : IS} {s : SP} (h : RMo W B I s) (hw : WFp (nT s) (tf s)) {p : Nat} (hp : p < nT s) : f_X8_worthIn (nI p) (u2 I 6 p 3) = some (smW (tf s) p (nT s)) ∧ RMo W B (u2 (u2 I 6 p 3) 9 p (smW (tf s) p (nT s))) (eFin s p) := by
  have hT : nT s ≤ 32 := h.2.2.1.2.1
  have g1 := mo_set h (f := 3) (by omega) p 3
  have e : smW (tf (eSet s 3 p 3)) p (nT s) = smW (tf s) p (nT s) := smW_air hw hT (fun x hx => by rw [eSet_fs, if_neg hx]) (eSet_fo _ _ _ (by omega)) (eSet_fo _ _ _ (by omega)) (eSet_fo _ _ _ (by omega)) hp _ (Nat.le_refl _)
  have w := mt_worthIn g1.2.2.1 (p := p) hp
  have eT : nT (eSet s 3 p 3) = nT s := rfl
  rw [eT, e] at w
  exact ⟨w, mo_set g1 (f := 2) (by omega) p (smW (tf s) p (nT s))⟩
theorem mo_up {W : Prop} {B : BS} (b1 : B 22 = none) (b2 : B 29 = none) (b3 : B 30 = none) : ∀ (k fu : Nat) (I : IS) (s : SP) (t : Nat), k + 2 ≤ fu → RMo W B I s → WF s → t < nT s → anc (tf s) (k + 1) t = none → ∃ J, f_X8_goesUp_b2 fu (nI t) I = some J ∧ RMo W B J (eUp k s t) := by
  have stop : ∀ (f : Nat) (I : IS), 1 ≤ f → f_X8_goesUp_b131 (f_X8_goesUp_b2 f) I = some I := fun f I hf => by
    obtain ⟨f', rfl⟩ : ∃ f', f = f' + 1 := ⟨f - 1, by omega⟩
    rw [f_X8_goesUp_b131, f_X8_goesUp_b133, f_X8_goesUp_b2, if_pos (by decide)]
  intro k
  induction k with
  | zero =>
    intro fu I s t hf h hw ht ha
    obtain ⟨f, rfl⟩ : ∃ f, fu = f + 1 := ⟨fu - 1, by omega⟩
    have hT : nT s ≤ 32 := hw.1.2.2
    have co : okI (nI t) 32 = true := okI_nI (by omega) (by omega)
    have hp : prn (tf s) t = none := by
      have ha : (prn (tf s) t).bind (anc (tf s) 0) = none := ha
      cases hq : prn (tf s) t with
      | none => rfl
      | some q => rw [hq] at ha; cases ha
    have e10 : I 10 t = -5 := by
      have e : I 10 t = tf s 4 t := h.2.2.1.2.2 4 (by omega) t ht
      rw [e, (prn_enc (wf_p hw) hT ht).1, hp]
      rfl
    refine ⟨I, ?_, h⟩
    rw [f_X8_goesUp_b2, if_neg (nI_lt0 (by omega)), if_pos co, nI_clamp (by omega), e10, if_pos (by decide), f_X8_goesUp_b31, f_X8_goesUp_b32, if_pos rfl, f_X8_goesUp_b89, if_pos rfl]
    exact stop f I (by omega)
  | succ k ih =>
    intro fu I s t hf h hw ht ha
    obtain ⟨f, rfl⟩ : ∃ f, fu = f + 1 := ⟨fu - 1, by omega⟩
    have hT : nT s ≤ 32 := hw.1.2.2
    have co : okI (nI t) 32 = true := okI_nI (by omega) (by omega)
    have e10 : I 10 t = tf s 4 t := h.2.2.1.2.2 4 (by omega) t ht
    have hp4 := prn_enc (wf_p hw) hT ht
    unfold eUp
    cases hpr : prn (tf s) t with
    | none =>
      refine ⟨I, ?_, h⟩
      rw [f_X8_goesUp_b2, if_neg (nI_lt0 (by omega)), if_pos co, nI_clamp (by omega), e10, hp4.1, hpr, show encO none = -5 from rfl, if_pos (by decide), f_X8_goesUp_b31, f_X8_goesUp_b32, if_pos rfl, f_X8_goesUp_b89, if_pos rfl]
      exact stop f I (by omega)
    | some p =>
      dsimp only
      have hpt := hp4.2 p hpr
      have hpT : p < nT s := by omega
      have cp : okI (nI p) 32 = true := okI_nI (by omega) (by omega)
      have e6p : I 6 p = tf s 3 p := h.2.2.1.2.2 3 (by omega) p hpT
      have e6t : I 6 t = tf s 3 t := h.2.2.1.2.2 3 (by omega) t ht
      have e11 : I 11 p = tf s 5 p := h.2.2.1.2.2 5 (by omega) p hpT
      have ha' : anc (tf s) (k + 1) p = none := by
        have ha : (prn (tf s) t).bind (anc (tf s) (k + 1)) = none := ha
        rw [hpr] at ha
        exact ha
      have hd : f_X8_goesUp_b2 (f + 1) (nI t) I = if tf s 3 p = 2 then f_X8_goesUp_b32 (f_X8_goesUp_b2 f) (nI t) (nI p) 1 I else f_X8_goesUp_b31 (f_X8_goesUp_b2 f) (nI t) (nI p) I := by
        rw [f_X8_goesUp_b2, if_neg (nI_lt0 (by omega)), if_pos co, nI_clamp (by omega), e10, hp4.1, hpr, show encO (some p) = nI p from rfl, if_neg (nI_lt0 (by omega)), if_pos cp, nI_clamp (by omega), e6p]
      by_cases h2 : tf s 3 p = 2
      · rw [if_pos h2] at hd ⊢
        have tail89 : ∀ _ : ¬ (tf s 3 t = 4 ∧ tf s 5 p ≠ 2), ∃ J, f_X8_goesUp_b89 (f_X8_goesUp_b2 f) (nI p) 1 I = some J ∧ RMo W B J (if pB (allE (nT s) (tf s) p) = true then eUp k (eEnt (eFin s p) (-5) 3 (nI p)) p else s) := fun _ => by
          obtain ⟨r, r1, r2⟩ := mt_allEnded h.2.2.1 (p := p)
          rw [f_X8_goesUp_b89, if_neg z10, r1, some_bind]
          rcases r2 with ⟨rfl, r2⟩ | ⟨rfl, r2⟩
          · rw [if_pos (pB_iff.mpr r2), if_neg z10, if_pos cp, nI_clamp (by omega)]
            obtain ⟨w1, w2⟩ := mo_fin h (wf_p hw) hpT
            obtain ⟨J, j1, j2⟩ := mo_ent w2 (-5) 3 (nI p)
            rw [w1, some_bind, if_pos cp, j1, some_bind, f_X8_goesUp_b133]
            have wf1 := wf_ent (wf_fin hw hpT h2 r2) (-5) 3 (nI p)
            refine ih f J _ p (by omega) j2 wf1 hpT ?_
            have e4 : tf (eEnt (eFin s p) (-5) 3 (nI p)) 4 = tf s 4 := (eFin_k s p).2.2
            rw [anc_congr_all e4]
            exact ha'
          · rw [if_neg (fun q => r2 (pB_iff.mp q)), if_pos rfl, stop f I (by omega)]
            exact ⟨I, rfl, h⟩
        rw [hd, f_X8_goesUp_b32, if_neg z10, if_pos co, nI_clamp (by omega), e6t]
        by_cases h4 : tf s 3 t = 4
        · rw [if_pos h4, if_pos cp, nI_clamp (by omega), e11]
          by_cases h5 : tf s 5 p = 2
          · rw [if_pos h5, if_neg (fun q => q.2 h5)]
            exact tail89 (fun q => q.2 h5)
          · rw [if_neg h5, if_pos ⟨h4, h5⟩]
            obtain ⟨q6, k1, k2⟩ := mo_cancelIn h b1 b2 b3 hw hpT
            have g1 := mo_set k2 (f := 3) (by omega) p 4
            have g2 := mo_set g1 (f := 6) (by omega) p (nI t)
            obtain ⟨J, j1, j2⟩ := mo_ent g2 (-5) 4 (nI p)
            have j1 : f_X8_entry (-5) 4 (nI p) (u2 (u2 q6 6 p 4) 12 p (nI t)) = some J := j1
            have j2 : RMo W B J (eFail s t p) := j2
            rw [k1, some_bind, if_pos cp, if_pos cp, j1, some_bind, f_X8_goesUp_b133]
            have wf1 := wf_fail hw ht hpt h2
            obtain ⟨f1, f2, f3⟩ := eFail_k s t p
            refine ih f J _ p (by omega) j2 wf1 (by omega) ?_
            rw [anc_congr_all f3]
            exact ha'
        · rw [if_neg h4, if_neg (fun q => h4 q.1)]
          exact tail89 (fun q => h4 q.1)
      · rw [if_neg h2] at hd ⊢
        refine ⟨I, ?_, h⟩
        rw [hd, f_X8_goesUp_b31, f_X8_goesUp_b32, if_pos rfl, f_X8_goesUp_b89, if_pos rfl]
        exact stop f I (by omega)
theorem mo_goesUp {W : Prop} {B : BS} {I : IS} {s : SP} (h : RMo W B I s) (b1 : B 22 = none) (b2 : B 29 = none) (b3 : B 30 = none) (hw : WF s) {t : Nat} (ht : t < nT s) : ∃ J, f_X8_goesUp (nI t) I = some J ∧ RMo W B J (eUp 4 s t) := by
  rw [f_X8_goesUp]
  exact mo_up b1 b2 b3 4 LF I s t (by unfold LF; omega) h hw ht (wf_d hw t ht)
theorem mo_comes {W : Prop} {B : BS} {I : IS} {s : SP} (h : RMo W B I s) (hn : na s ≤ 4) {a : Nat} (ha : a < 4) (hl : (rw_ s a).length < 32) (x : Int32) : ∃ J, f_X8_comesTo (nI a) x I = some J ∧ RMo W B J (uA s a (rw_ s a ++ [x]) (af s 0 a) (af s 1 a) (af s 2 a)) := by
  obtain ⟨r1, r2, r3⟩ := h.1 a ha
  have ca : okI (nI a) 4 = true := okI_nI ha (by omega)
  have e1 : (32 : Int32) * nI a + nI (rw_ s a).length = nI (32 * a + (rw_ s a).length) := by rw [nI_32m, nI_add]
  have c2 : okI (nI (32 * a + (rw_ s a).length)) 128 = true := okI_nI (by omega) (by omega)
  have o : ∀ i, i ≠ 1 → i ≠ 2 → u2 (u2 I 2 (32 * a + (rw_ s a).length) x) 1 a (nI ((rw_ s a).length + 1)) i = I i := fun i h1 h2 => by rw [u2_oth _ _ _ h1, u2_oth _ _ _ h2]
  have o2 : u2 (u2 I 2 (32 * a + (rw_ s a).length) x) 1 a (nI ((rw_ s a).length + 1)) 2 = u2 I 2 (32 * a + (rw_ s a).length) x 2 := u2_oth _ _ _ (by omega)
  refine ⟨u2 (u2 I 2 (32 * a + (rw_ s a).length) x) 1 a (nI ((rw_ s a).length + 1)), ?_, ?_⟩
  · rw [f_X8_comesTo, if_pos ca, nI_clamp (by omega), r1, e1, if_pos c2, if_pos ca, if_pos ca, nI_clamp (by omega), u2_ne _ _ (Or.inl (by omega)), r1, nI_1, some_bind]
  · refine mo_uA h (fun y hy => o y (by omega) (by omega)) (fun _ => ⟨?_, ?_, fun k hk => ?_⟩) (fun _ => by rw [o 3 (by omega) (by omega)]; exact h.2.1.1 a ha) (fun hb => by rw [o 4 (by omega) (by omega), o 5 (by omega) (by omega)]; exact h.2.1.2 a hb) (fun b hb hba => ⟨?_, fun k hk => ?_, ?_, ?_, ?_⟩) hn
    · rw [u2_eq, List.length_append]
      rfl
    · rw [List.length_append, List.length_singleton]
      omega
    · rw [List.length_append, List.length_singleton] at hk
      rw [o2]
      by_cases hkl : k < (rw_ s a).length
      · rw [List.getElem?_append_left hkl, r3 k hkl, u2_ne _ _ (Or.inr (by omega))]
      · have : k = (rw_ s a).length := by omega
        subst this
        rw [u2_eq, List.getElem?_append_right (Nat.le_refl _), Nat.sub_self]
        rfl
    · rw [u2_ne _ _ (Or.inr hba), u2_oth _ _ _ (by omega)]
    · rw [o2, u2_ne _ _ (Or.inr (by omega))]
    · rw [o 3 (by omega) (by omega)]
    · rw [o 4 (by omega) (by omega)]
    · rw [o 5 (by omega) (by omega)]
theorem mo_fork {W : Prop} {B : BS} {I : IS} {s : SP} (h : RMo W B I s) (hn : na s ≤ 4) {t a : Nat} (ht : t < nT s) (ha : a < 4) (r1 : (rw_ s a).Nodup) (r2 : ∀ x ∈ rw_ s a, ∃ t, t < nT s ∧ x = nI t) (r3 : ∀ k, k < nT s → tf s 4 k = nI t → nI k ∉ rw_ s a) : ∃ J, f_X8_isThrough_b57 LF (nI a) (nI t) 0 I = some J ∧ RMo W B J (eFk s t a (nT s)) := by
  have hT : nT s ≤ 32 := h.2.2.1.2.1
  have key := loop_inv (fun fu j (I : IS) => f_X8_isThrough_b57 fu (nI a) (nI t) (nI j) I) (nT s) (fun j I => RMo W B I (eFk s t a j)) (fun J => RMo W B J (eFk s t a (nT s))) (fun fu I hI => by
    have e6 : I 0 6 = nI (nT s) := hI.2.2.1.1
    refine ⟨I, ?_, hI⟩
    show f_X8_isThrough_b57 (fu + 1) (nI a) (nI t) (nI (nT s)) I = _
    rw [f_X8_isThrough_b57, e6, if_pos ((nI_leI (by omega) (by omega)).mpr (Nat.le_refl _))]) (fun fu j I hj hI => by
    have c1 : ¬ nI (nT s) ≤ nI j := nI_ge hj (by omega)
    have c2 : okI (nI j) 32 = true := okI_nI (by omega) (by omega)
    have e6 : I 0 6 = nI (nT s) := hI.2.2.1.1
    have e10 : I 10 j = tf s 4 j := hI.2.2.1.2.2 4 (by omega) j hj
    have eE := mt_isEnded hI.2.2.1 (t := j) hj
    have et : tf (eFk s t a j) = tf s := rfl
    rw [et] at eE
    have ek : kids s t (j + 1) = if tf s 4 j = nI t ∧ tf s 3 j < 3 then kids s t j ++ [nI j] else kids s t j := rfl
    show ∃ I', _ ∧ f_X8_isThrough_b57 (fu + 1) (nI a) (nI t) (nI j) I = f_X8_isThrough_b57 fu (nI a) (nI t) (nI (j + 1)) I'
    by_cases h4 : tf s 4 j = nI t
    · by_cases h3 : tf s 3 j < 3
      · have e1 : rw_ (eFk s t a j) a = rw_ s a ++ kids s t j := uA_rs _ _ _ _ _ _
        have hlen : (rw_ s a ++ kids s t j).length < 32 := by
          have hk : nI j ∉ rw_ s a ++ kids s t j := by
            intro hm
            rcases List.mem_append.mp hm with hm | hm
            · exact r3 j hj h4 hm
            · obtain ⟨k, h1, h2, -⟩ := kids_mem s t j _ hm
              have := (nI_eq (by omega) (by omega)).mp h2
              omega
          have := nodup_lt (T := nT s) (l := rw_ s a ++ kids s t j) (List.nodup_append.mpr ⟨r1, kids_nodup s t j (by omega), fun x hx y hy hxy => by
            obtain ⟨k, h1, h2, h5, -⟩ := kids_mem s t j y hy
            rw [hxy, h2] at hx
            exact r3 k (by omega) h5 hx⟩) (fun x hx => by
            rcases List.mem_append.mp hx with hx | hx
            · exact r2 x hx
            · obtain ⟨k, h1, h2, -⟩ := kids_mem s t j x hx
              exact ⟨k, by omega, h2⟩) hj hk
          omega
        obtain ⟨q, p1, p2⟩ := mo_comes hI (show na (eFk s t a j) ≤ 4 from hn) ha (by rw [e1]; exact hlen) (nI j)
        rw [e1] at p2
        refine ⟨q, ?_, ?_⟩
        · unfold eFk at p2 ⊢
          rw [uA_uA, uA_a0, uA_a1, uA_a2] at p2
          rw [ek, if_pos ⟨h4, h3⟩, ← List.append_assoc]
          exact p2
        · rw [f_X8_isThrough_b57, e6, if_neg c1, if_pos c2, nI_clamp (by omega), e10, if_pos h4, eE, if_pos h3, some_bind, if_pos rfl, p1, some_bind, f_X8_isThrough_b89, nI_1]
      · refine ⟨I, ?_, ?_⟩
        · unfold eFk
          rw [ek, if_neg (fun q => h3 q.2)]
          exact hI
        · rw [f_X8_isThrough_b57, e6, if_neg c1, if_pos c2, nI_clamp (by omega), e10, if_pos h4, eE, if_neg h3, some_bind, if_neg z10, f_X8_isThrough_b89, nI_1]
    · refine ⟨I, ?_, ?_⟩
      · unfold eFk
        rw [ek, if_neg (fun q => h4 q.1)]
        exact hI
      · rw [f_X8_isThrough_b57, e6, if_neg c1, if_pos c2, nI_clamp (by omega), e10, if_neg h4, f_X8_isThrough_b89, nI_1]) (nT s) 0 LF I (by omega) (by unfold LF; omega) (by
    show RMo W B I (eFk s t a 0)
    unfold eFk kids
    rw [List.append_nil, uA_self]
    exact h)
  exact key
theorem mo_through {W : Prop} {B : BS} {I : IS} {s : SP} (h : RMo W B I s) (b1 : B 22 = none) (b2 : B 29 = none) (b3 : B 30 = none) (hn : na s ≤ 4) (hw : WFp (nT s) (tf s)) {t a : Nat} (ht : t < nT s) (ha : a < 4) (hc : tf s 6 t = -5) (hwe : WF (eEnds s t a).2) (r1 : (rw_ s a).Nodup) (r2 : ∀ x ∈ rw_ s a, ∃ t, t < nT s ∧ x = nI t) (r3 : ∀ k, k < nT s → tf s 4 k = nI t → nI k ∉ rw_ s a) : ∃ J, f_X8_isThrough (nI a) (nI t) I = some J ∧ RMo W B J (if (eEnds s t a).1 = true then eUp 4 (eEnds s t a).2 t else (eEnds s t a).2) := by
  have hT : nT s ≤ 32 := h.2.2.1.2.1
  have ct : okI (nI t) 32 = true := okI_nI (by omega) (by omega)
  have e11 : I 11 t = tf s 5 t := h.2.2.1.2.2 5 (by omega) t ht
  by_cases h5 : tf s 5 t = 1
  · have ee : eEnds s t a = (true, eEnt (eSet s 3 t 4) (nI a) 4 (nI t)) := by
      unfold eEnds
      rw [if_pos h5]
    rw [ee] at hwe ⊢
    have g := mo_set h (f := 3) (by omega) t 4
    have g2 := mo_set g (f := 6) (by omega) t (-5)
    rw [eSet_self (eSet s 3 t 4) 6 t (v := -5) (by rw [eSet_fo s t 4 (by omega)]; exact hc)] at g2
    obtain ⟨q, e1, e2⟩ := mo_ent g2 (nI a) 4 (nI t)
    have e1 : f_X8_entry (nI a) 4 (nI t) (u2 (u2 I 6 t 4) 12 t (-5)) = some q := e1
    obtain ⟨J, j1, j2⟩ := mo_goesUp e2 b1 b2 b3 hwe (t := t) ht
    refine ⟨J, ?_, ?_⟩
    · rw [f_X8_isThrough, if_pos ct, nI_clamp (by omega), e11, if_pos h5, if_pos ct, if_pos ct, e1, some_bind, j1, some_bind]
    · show RMo W B J (if true = true then _ else _)
      rw [if_pos rfl]
      exact j2
  · obtain ⟨r, a1, a2⟩ := mt_allEnded h.2.2.1 (p := t)
    rcases a2 with ⟨rfl, hall⟩ | ⟨rfl, hall⟩
    · have ee : eEnds s t a = (true, eEnt (eFin s t) (nI a) 3 (nI t)) := by
        unfold eEnds
        rw [if_neg h5, if_pos (pB_iff.mpr hall)]
      rw [ee] at hwe ⊢
      obtain ⟨w1, w2⟩ := mo_fin h hw ht
      obtain ⟨q, e1, e2⟩ := mo_ent w2 (nI a) 3 (nI t)
      obtain ⟨J, j1, j2⟩ := mo_goesUp e2 b1 b2 b3 hwe (t := t) ht
      refine ⟨J, ?_, ?_⟩
      · rw [f_X8_isThrough, if_pos ct, nI_clamp (by omega), e11, if_neg h5, a1, some_bind, if_neg z10, if_pos ct, w1, some_bind, if_pos ct, e1, some_bind, j1, some_bind]
      · show RMo W B J (if true = true then _ else _)
        rw [if_pos rfl]
        exact j2
    · have ee : eEnds s t a = (false, eFk (eSet s 3 t 2) t a (nT s)) := by
        unfold eEnds
        rw [if_neg h5, if_neg (fun q => hall (pB_iff.mp q))]
      rw [ee]
      have g := mo_set h (f := 3) (by omega) t 2
      obtain ⟨k1, k2, k3⟩ := eSet_k s 3 t 2 (by omega)
      obtain ⟨J, f1, f2⟩ := mo_fork g (show na (eSet s 3 t 2) ≤ 4 from hn) (t := t) ht ha r1 r2 (fun k hk hk4 => r3 k hk (by rw [← k3]; exact hk4))
      have f1 : f_X8_isThrough_b57 LF (nI a) (nI t) 0 (u2 I 6 t 2) = some J := f1
      refine ⟨J, ?_, ?_⟩
      · rw [f_X8_isThrough, if_pos ct, nI_clamp (by omega), e11, if_neg h5, a1, some_bind, if_pos rfl, if_pos ct]
        exact f1
      · show RMo W B J (if false = true then _ else _)
        rw [if_neg Bool.false_ne_true]
        exact f2
