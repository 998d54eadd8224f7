/-! ===== the Model: cancels, what goes up ===== -/
theorem mo_marked {W : Prop} {B : BS} {I : IS} {s : SP} (h : RMo W B I s) (b1 : B 22 = none) (b2 : B 29 = none) (b3 : B 30 = none) (hw : WF s) {P : Nat → Bool} (hc : clP s P) {M : Nat → Prop} (hM : ∀ x, x < nT s → (I 22 x = 0 ∧ ¬ M x) ∨ (I 22 x = 1 ∧ M x)) (hP : ∀ x, x < nT s → (P x = true ↔ (M x ∨ ∃ p, prn (tf s) x = some p ∧ P p = true))) : ∃ J, f_X8_cancelMarked I = some (nI (eCl P s (nT s)).1, J) ∧ RMo W B J (eCl P s (nT s)).2 := by
  have hT : nT s ≤ 32 := hw.1.2.2
  have hn : na s ≤ 4 := hw.1.2.1
  have key := loop_inv (fun fu j (q : Int32 × IS) => f_X8_cancelMarked_b4 fu q.1 (nI j) q.2) (nT s) (fun j q => q.1 = nI (eCl P s j).1 ∧ RMo W B q.2 (eCl P s j).2 ∧ (∀ x, x < j → (q.2 22 x = 0 ∧ P x = false) ∨ (q.2 22 x = 1 ∧ P x = true)) ∧ ∀ x, j ≤ x → x < nT s → q.2 22 x = I 22 x) (fun r => ∃ J, r = (nI (eCl P s (nT s)).1, J) ∧ RMo W B J (eCl P s (nT s)).2) ?_ ?_ (nT s) 0 LF (0, I) (by omega) (by unfold LF; omega) ⟨rfl, h, fun x hx => absurd hx (Nat.not_lt_zero x), fun _ _ _ => rfl⟩
  · obtain ⟨r, k1, J, k2, k3⟩ := key
    exact ⟨J, by rw [← k2]; exact k1, k3⟩
  · rintro fu ⟨x1, J⟩ ⟨g1, g2, -, -⟩
    have g1 : x1 = _ := g1
    have g2 : RMo W B J _ := g2
    have e6 : J 0 6 = nI (nT s) := by
      have := g2.2.2.1.1
      rw [(eCl_k P s (nT s)).1] at this
      exact this
    refine ⟨(x1, J), ?_, J, by rw [g1], g2⟩
    show f_X8_cancelMarked_b4 (fu + 1) x1 (nI (nT s)) J = _
    rw [f_X8_cancelMarked_b4, e6, if_pos ((nI_leI (by omega) (by omega)).mpr (Nat.le_refl _))]
  · rintro fu j ⟨x1, J⟩ hj ⟨g1, g2, g3, g4⟩
    have g1 : x1 = nI (eCl P s j).1 := g1
    have g2 : RMo W B J (eCl P s j).2 := g2
    have g3 : ∀ x, x < j → (J 22 x = 0 ∧ P x = false) ∨ (J 22 x = 1 ∧ P x = true) := g3
    have g4 : ∀ x, j ≤ x → x < nT s → J 22 x = I 22 x := g4
    obtain ⟨k1, k2, k3⟩ := eCl_k P s j
    have hwf := wf_cl hw hc j (by omega)
    have e6 : J 0 6 = nI (nT s) := by
      have := g2.2.2.1.1
      rw [k1] at this
      exact this
    have c1 : ¬ nI (nT s) ≤ nI j := nI_ge hj (by omega)
    have co : okI (nI j) 32 = true := okI_nI (by omega) (by omega)
    have e10 : J 10 j = tf s 4 j := by
      have := g2.2.2.1.2.2 4 (by omega) j (by rw [k1]; exact hj)
      rw [k3] at this
      exact this
    have hp4 := prn_enc (wf_p hw) hT hj
    -- marked or not, by what is known so far
    have mark : f_X8_cancelMarked_b4 (fu + 1) x1 (nI j) J = f_X8_cancelMarked_b54 (f_X8_cancelMarked_b4 fu) x1 (nI j) (nI j) (if P j = true then 1 else 0) J := by
      rw [f_X8_cancelMarked_b4, e6, if_neg c1, if_pos co, nI_clamp (by omega), g4 j (Nat.le_refl _) hj]
      rcases hM j hj with ⟨m1, m2⟩ | ⟨m1, m2⟩
      · rw [m1, if_pos rfl, if_pos co, e10]
        cases hpr : prn (tf s) j with
        | none =>
          have e5 : tf s 4 j = -5 := by rw [hp4.1, hpr]; rfl
          have hPf : ¬ P j = true := fun q => by
            rcases (hP j hj).mp q with q | ⟨p, q, -⟩
            · exact m2 q
            · rw [hpr] at q
              cases q
          rw [e5, if_pos (by decide), if_neg hPf, f_X8_cancelMarked_b53]
        | some p =>
          have ep : tf s 4 j = nI p := by rw [hp4.1, hpr]; rfl
          have hpj := hp4.2 p hpr
          rw [ep, if_neg (nI_lt0 (by omega)), if_pos co, if_pos (okI_nI (by omega) (by omega)), nI_clamp (by omega)]
          rcases g3 p hpj with ⟨n1, n2⟩ | ⟨n1, n2⟩
          · have hPf : ¬ P j = true := fun q => by
              rcases (hP j hj).mp q with q | ⟨p', q, q'⟩
              · exact m2 q
              · rw [hpr] at q
                cases q
                rw [n2] at q'
                cases q'
            rw [n1, if_pos rfl, if_neg hPf, f_X8_cancelMarked_b53]
          · have hPt : P j = true := (hP j hj).mpr (Or.inr ⟨p, hpr, n2⟩)
            rw [n1, if_neg z10, if_pos hPt, f_X8_cancelMarked_b49]
      · have hPt : P j = true := (hP j hj).mpr (Or.inl m2)
        rw [m1, if_neg z10, if_pos hPt, f_X8_cancelMarked_b49]
    generalize hX : u2 J 22 j (if P j = true then 1 else 0) = X
    have x22 : X 22 j = if P j = true then 1 else 0 := by rw [← hX, u2_eq]
    have xo : ∀ i, i ≠ 22 → X i = J i := fun i hi => by rw [← hX, u2_oth _ _ _ hi]
    have x2o : ∀ b, b ≠ j → X 22 b = J 22 b := fun b hb => by rw [← hX, u2_ne _ _ (Or.inr hb)]
    have gX : RMo W B X (eCl P s j).2 := mo_below g2 b1 b2 b3 (fun i hi _ _ => xo i hi)
    have inv22 : ∀ Y : IS, Y 22 = X 22 → (∀ x, x < j + 1 → (Y 22 x = 0 ∧ P x = false) ∨ (Y 22 x = 1 ∧ P x = true)) ∧ ∀ x, j + 1 ≤ x → x < nT s → Y 22 x = I 22 x := fun Y hY => by
      refine ⟨fun x hx => ?_, fun x h1 h2 => ?_⟩
      · rw [hY]
        by_cases hxj : x = j
        · rw [hxj, x22]
          cases hb : P j with
          | true => exact Or.inr ⟨rfl, rfl⟩
          | false => exact Or.inl ⟨rfl, rfl⟩
        · rw [x2o x hxj]
          exact g3 x (by omega)
      · rw [hY, x2o x (by omega)]
        exact g4 x (by omega) h2
    have cok : okZ (if P j = true then (1 : Int32) else 0) = true := by
      by_cases hb : P j = true
      · rw [if_pos hb]; rfl
      · rw [if_neg hb]; rfl
    have eC : eCl P s (j + 1) = if P j = true ∧ tf (eCl P s j).2 3 j < 3 then ((eCl P s j).1 + 1, eCan (eCl P s j).2 j) else eCl P s j := rfl
    show ∃ q' : Int32 × IS, _ ∧ f_X8_cancelMarked_b4 (fu + 1) x1 (nI j) J = f_X8_cancelMarked_b4 fu q'.1 (nI (j + 1)) q'.2
    rw [mark, f_X8_cancelMarked_b54, if_pos co, if_pos cok, if_pos co, nI_clamp (by omega), hX, x22]
    by_cases hb : P j = true
    · rw [if_pos hb, if_neg z10, mt_isEnded gX.2.2.1 (t := j) (by rw [k1]; exact hj)]
      by_cases h3 : tf (eCl P s j).2 3 j < 3
      · rw [if_pos h3, some_bind, if_pos rfl]
        obtain ⟨q8, Y, y1, y2, y3⟩ := mo_can (mo_in gX) hwf.2.2.1 (by rw [k2]; exact hn) (t := j) (by rw [k1]; exact hj)
        refine ⟨(x1 + 1, Y), ⟨?_, ?_, inv22 Y (mo_stays y3 (by omega))⟩, ?_⟩
        · show x1 + 1 = _
          rw [eC, if_pos ⟨hb, h3⟩, g1, nI_1]
        · show RMo W B Y _
          rw [eC, if_pos ⟨hb, h3⟩]
          exact mo_out gX y3
        · rw [y1, some_bind, if_pos co, y2, some_bind, f_X8_cancelMarked_b95, nI_1]
      · rw [if_neg h3, some_bind, if_neg z10]
        refine ⟨(x1, X), ⟨?_, ?_, inv22 X rfl⟩, ?_⟩
        · show x1 = _
          rw [eC, if_neg (fun q => h3 q.2), g1]
        · show RMo W B X _
          rw [eC, if_neg (fun q => h3 q.2)]
          exact gX
        · rw [f_X8_cancelMarked_b95, nI_1]
    · rw [if_neg hb, if_pos rfl]
      refine ⟨(x1, X), ⟨?_, ?_, inv22 X rfl⟩, ?_⟩
      · show x1 = _
        rw [eC, if_neg (fun q => hb q.1), g1]
      · show RMo W B X _
        rw [eC, if_neg (fun q => hb q.1)]
        exact gX
      · rw [f_X8_cancelMarked_b95, nI_1]
theorem bel_step (s : SP) (p x : Nat) : bel s p x = true ↔ (prn (tf s) x = some p ∨ ∃ q, prn (tf s) x = some q ∧ bel s p q = true) := by
  rw [bel_iff]
  constructor
  · rintro ⟨k, hk⟩
    have hk : (prn (tf s) x).bind (anc (tf s) k) = some p := hk
    cases hx : prn (tf s) x with
    | none => rw [hx] at hk; cases hk
    | some q =>
      rw [hx] at hk
      cases k with
      | zero =>
        have hk : some q = some p := hk
        cases hk
        exact Or.inl rfl
      | succ k => exact Or.inr ⟨q, rfl, bel_iff.mpr ⟨k, hk⟩⟩
  · rintro (hx | ⟨q, hx, hq⟩)
    · refine ⟨0, ?_⟩
      show (prn (tf s) x).bind (anc (tf s) 0) = _
      rw [hx]
      rfl
    · obtain ⟨k, hk⟩ := bel_iff.mp hq
      refine ⟨k + 1, ?_⟩
      show (prn (tf s) x).bind (anc (tf s) (k + 1)) = _
      rw [hx]
      exact hk
theorem belE_step (s : SP) (p x : Nat) : belE s p x = true ↔ (x = p ∨ ∃ q, prn (tf s) x = some q ∧ belE s p q = true) := by
  rw [belE_iff]
  constructor
  · rintro ⟨k, hk⟩
    cases k with
    | zero =>
      have hk : some x = some p := hk
      cases hk
      exact Or.inl rfl
    | succ k =>
      have hk : (prn (tf s) x).bind (anc (tf s) k) = some p := hk
      cases hx : prn (tf s) x with
      | none => rw [hx] at hk; cases hk
      | some q =>
        rw [hx] at hk
        exact Or.inr ⟨q, rfl, belE_iff.mpr ⟨k, hk⟩⟩
  · rintro (hx | ⟨q, hx, hq⟩)
    · exact ⟨0, by rw [hx]; rfl⟩
    · obtain ⟨k, hk⟩ := belE_iff.mp hq
      refine ⟨k + 1, ?_⟩
      show (prn (tf s) x).bind (anc (tf s) k) = _
      rw [hx]
      exact hk
theorem mo_cancelIn {W : Prop} {B : BS} {I : IS} {s : SP} (h : RMo W B I s) (b1 : B 22 = none) (b2 : B 29 = none) (b3 : B 30 = none) (hw : WF s) {p : Nat} (hp : p < nT s) : ∃ J, f_X8_cancelIn (nI p) I = some J ∧ RMo W B J (eCl (bel s p) s (nT s)).2 := by
  have hT : nT s ≤ 32 := hw.1.2.2
  have key := loop_inv (fun fu j (J : IS) => f_X8_cancelIn_b2 fu (nI p) (nI j) J) (nT s) (fun j J => (∀ i, i ≠ 22 → J i = I i) ∧ ∀ x, x < j → (J 22 x = 0 ∧ ¬ prn (tf s) x = some p) ∨ (J 22 x = 1 ∧ prn (tf s) x = some p)) (fun J => RMo W B J (eCl (bel s p) s (nT s)).2) (fun fu J hJ => by
    obtain ⟨j1, j2⟩ := hJ
    have e6 : J 0 6 = nI (nT s) := by rw [j1 0 (by omega)]; exact h.2.2.1.1
    have gJ : RMo W B J s := mo_below h b1 b2 b3 (fun i hi _ _ => j1 i hi)
    obtain ⟨J', k1, k2⟩ := mo_marked gJ b1 b2 b3 hw (bel_cl s p) (M := fun x => prn (tf s) x = some p) j2 (fun x _ => bel_step s p x)
    refine ⟨J', ?_, k2⟩
    show f_X8_cancelIn_b2 (fu + 1) (nI p) (nI (nT s)) J = _
    rw [f_X8_cancelIn_b2, e6, if_pos ((nI_leI (by omega) (by omega)).mpr (Nat.le_refl _)), k1, some_bind]) (fun fu j J hj hJ => by
    obtain ⟨j1, j2⟩ := hJ
    have e6 : J 0 6 = nI (nT s) := by rw [j1 0 (by omega)]; exact h.2.2.1.1
    have e10 : J 10 j = tf s 4 j := by rw [j1 10 (by omega)]; exact h.2.2.1.2.2 4 (by omega) j hj
    have co : okI (nI j) 32 = true := okI_nI (by omega) (by omega)
    have c1 : ¬ nI (nT s) ≤ nI j := nI_ge hj (by omega)
    have stp : ∀ v : Int32, ((v = 0 ∧ ¬ prn (tf s) j = some p) ∨ (v = 1 ∧ prn (tf s) j = some p)) → (∀ i, i ≠ 22 → u2 J 22 j v i = I i) ∧ ∀ x, x < j + 1 → (u2 J 22 j v 22 x = 0 ∧ ¬ prn (tf s) x = some p) ∨ (u2 J 22 j v 22 x = 1 ∧ prn (tf s) x = some p) := fun v hv => ⟨fun i hi => by rw [u2_oth _ _ _ hi]; exact j1 i hi, fun x hx => by
      by_cases hxj : x = j
      · rw [hxj, u2_eq]
        exact hv
      · rw [u2_ne _ _ (Or.inr hxj)]
        exact j2 x (by omega)⟩
    show ∃ J', _ ∧ f_X8_cancelIn_b2 (fu + 1) (nI p) (nI j) J = f_X8_cancelIn_b2 fu (nI p) (nI (j + 1)) J'
    have hp4 := (prn_enc (wf_p hw) hT hj).1
    by_cases c : tf s 4 j = nI p
    · have hc : prn (tf s) j = some p := prn_of (by omega) c
      refine ⟨_, stp 1 (Or.inr ⟨rfl, hc⟩), ?_⟩
      rw [f_X8_cancelIn_b2, e6, if_neg c1, if_pos co, nI_clamp (by omega), e10, if_pos c, f_X8_cancelIn_b30, if_pos co, if_pos okZ1, nI_1, nI_clamp (by omega)]
    · have hc : ¬ prn (tf s) j = some p := fun q => c (by rw [hp4, q]; rfl)
      refine ⟨_, stp 0 (Or.inl ⟨rfl, hc⟩), ?_⟩
      rw [f_X8_cancelIn_b2, e6, if_neg c1, if_pos co, nI_clamp (by omega), e10, if_neg c, f_X8_cancelIn_b30, if_pos co, if_pos okZ0, nI_1, nI_clamp (by omega)]) (nT s) 0 LF I (by omega) (by unfold LF; omega) ⟨fun _ _ => rfl, fun x hx => absurd hx (Nat.not_lt_zero x)⟩
  exact key
theorem mo_cancelOne {W : Prop} {B : BS} {I : IS} {s : SP} (h : RMo W B I s) (b1 : B 22 = none) (b2 : B 29 = none) (b3 : B 30 = none) (hw : WF s) {p : Nat} (hp : p < nT s) : ∃ J, f_X8_cancelOne (nI p) I = some (nI (eCl (belE s p) s (nT s)).1, J) ∧ RMo W B J (eCl (belE s p) s (nT s)).2 := by
  have hT : nT s ≤ 32 := hw.1.2.2
  have key := loop_inv (fun fu j (J : IS) => f_X8_cancelOne_b2 fu (nI p) (nI j) J) (nT s) (fun j J => (∀ i, i ≠ 22 → J i = I i) ∧ ∀ x, x < j → (J 22 x = 0 ∧ ¬ x = p) ∨ (J 22 x = 1 ∧ x = p)) (fun r => ∃ J, r = (nI (eCl (belE s p) s (nT s)).1, J) ∧ RMo W B J (eCl (belE s p) s (nT s)).2) (fun fu J hJ => by
    obtain ⟨j1, j2⟩ := hJ
    have e6 : J 0 6 = nI (nT s) := by rw [j1 0 (by omega)]; exact h.2.2.1.1
    have gJ : RMo W B J s := mo_below h b1 b2 b3 (fun i hi _ _ => j1 i hi)
    obtain ⟨J', k1, k2⟩ := mo_marked gJ b1 b2 b3 hw (belE_cl s p) (M := fun x => x = p) j2 (fun x _ => belE_step s p x)
    refine ⟨_, ?_, J', rfl, k2⟩
    show f_X8_cancelOne_b2 (fu + 1) (nI p) (nI (nT s)) J = _
    rw [f_X8_cancelOne_b2, e6, if_pos ((nI_leI (by omega) (by omega)).mpr (Nat.le_refl _)), k1, some_bind]) (fun fu j J hj hJ => by
    obtain ⟨j1, j2⟩ := hJ
    have e6 : J 0 6 = nI (nT s) := by rw [j1 0 (by omega)]; exact h.2.2.1.1
    have co : okI (nI j) 32 = true := okI_nI (by omega) (by omega)
    have c1 : ¬ nI (nT s) ≤ nI j := nI_ge hj (by omega)
    have stp : ∀ v : Int32, ((v = 0 ∧ ¬ j = p) ∨ (v = 1 ∧ j = p)) → (∀ i, i ≠ 22 → u2 J 22 j v i = I i) ∧ ∀ x, x < j + 1 → (u2 J 22 j v 22 x = 0 ∧ ¬ x = p) ∨ (u2 J 22 j v 22 x = 1 ∧ x = p) := fun v hv => ⟨fun i hi => by rw [u2_oth _ _ _ hi]; exact j1 i hi, fun x hx => by
      by_cases hxj : x = j
      · rw [hxj, u2_eq]
        exact hv
      · rw [u2_ne _ _ (Or.inr hxj)]
        exact j2 x (by omega)⟩
    show ∃ J', _ ∧ f_X8_cancelOne_b2 (fu + 1) (nI p) (nI j) J = f_X8_cancelOne_b2 fu (nI p) (nI (j + 1)) J'
    by_cases c : j = p
    · refine ⟨_, stp 1 (Or.inr ⟨rfl, c⟩), ?_⟩
      rw [f_X8_cancelOne_b2, e6, if_neg c1, if_pos (by rw [c]), f_X8_cancelOne_b25, if_pos co, if_pos okZ1, nI_1, nI_clamp (by omega)]
    · refine ⟨_, stp 0 (Or.inl ⟨rfl, c⟩), ?_⟩
      rw [f_X8_cancelOne_b2, e6, if_neg c1, if_neg (fun q => c (nIne (by omega) (by omega) q)), f_X8_cancelOne_b25, if_pos co, if_pos okZ0, nI_1, nI_clamp (by omega)]) (nT s) 0 LF I (by omega) (by unfold LF; omega) ⟨fun _ _ => rfl, fun x hx => absurd hx (Nat.not_lt_zero x)⟩
  obtain ⟨r, k1, J, k2, k3⟩ := key
  exact ⟨J, by rw [← k2]; exact k1, k3⟩
/-! the Model: what is asked of those in one -/
theorem mt_allEnded {I : IS} {s : SP} (h : RMt I s) {p : Nat} : ∃ r, f_X8_allEnded (nI p) I = some r ∧ (r = 1 ∧ allE (nT s) (tf s) p ∨ r = 0 ∧ ¬ allE (nT s) (tf s) p) := by
  have hT := h.2.1
  have key := loop_inv (fun fu j (v : Int32) => f_X8_allEnded_b4 fu (nI p) v (nI j) I) (nT s) (fun j v => (v = 1 ∧ ∀ t, t < j → tf s 4 t = nI p → ¬ tf s 3 t < 3) ∨ (v = 0 ∧ ¬ allE (nT s) (tf s) p)) (fun r => r = 1 ∧ allE (nT s) (tf s) p ∨ r = 0 ∧ ¬ allE (nT s) (tf s) p) (fun fu v hv => by
    refine ⟨v, ?_, hv⟩
    have cz : okZ v = true := by
      rcases hv with ⟨rfl, -⟩ | ⟨rfl, -⟩ <;> rfl
    show f_X8_allEnded_b4 (fu + 1) (nI p) v (nI (nT s)) I = _
    rw [f_X8_allEnded_b4, h.1, if_pos ((nI_leI (by omega) (by omega)).mpr (Nat.le_refl _)), if_pos cz]) (fun fu j v hj hv => by
    have c1 : ¬ nI (nT s) ≤ nI j := nI_ge hj (by omega)
    have co : okI (nI j) 32 = true := okI_nI (by omega) (by omega)
    have e10 : I 10 j = tf s 4 j := h.2.2 4 (by omega) j hj
    show ∃ v', _ ∧ f_X8_allEnded_b4 (fu + 1) (nI p) v (nI j) I = f_X8_allEnded_b4 fu (nI p) v' (nI (j + 1)) I
    rcases hv with ⟨rfl, hv⟩ | ⟨rfl, hv⟩
    · by_cases c4 : tf s 4 j = nI p
      · have eE := mt_isEnded h hj
        by_cases c3 : tf s 3 j < 3
        · rw [if_pos c3] at eE
          refine ⟨0, Or.inr ⟨rfl, fun q => q j hj c4 c3⟩, ?_⟩
          rw [f_X8_allEnded_b4, h.1, if_neg c1, if_neg z10, if_pos co, nI_clamp (by omega), e10, if_pos c4, eE, some_bind, if_pos rfl, f_X8_allEnded_b38, f_X8_allEnded_b39, nI_1]
        · rw [if_neg c3] at eE
          refine ⟨1, Or.inl ⟨rfl, fun t ht e => ?_⟩, ?_⟩
          · by_cases htj : t = j
            · rw [htj]
              exact c3
            · exact hv t (by omega) e
          · rw [f_X8_allEnded_b4, h.1, if_neg c1, if_neg z10, if_pos co, nI_clamp (by omega), e10, if_pos c4, eE, some_bind, if_neg z10, f_X8_allEnded_b34, f_X8_allEnded_b39, nI_1]
      · refine ⟨1, Or.inl ⟨rfl, fun t ht e => ?_⟩, ?_⟩
        · by_cases htj : t = j
          · rw [htj] at e
            exact absurd e c4
          · exact hv t (by omega) e
        · rw [f_X8_allEnded_b4, h.1, if_neg c1, if_neg z10, if_pos co, nI_clamp (by omega), e10, if_neg c4, f_X8_allEnded_b34, f_X8_allEnded_b39, nI_1]
    · refine ⟨0, Or.inr ⟨rfl, hv⟩, ?_⟩
      rw [f_X8_allEnded_b4, h.1, if_neg c1, if_pos rfl, f_X8_allEnded_b38, f_X8_allEnded_b39, nI_1]) (nT s) 0 LF 1 (by omega) (by unfold LF; omega) (Or.inl ⟨rfl, fun t ht => absurd ht (Nat.not_lt_zero t)⟩)
  exact key
theorem mt_worthIn {I : IS} {s : SP} (h : RMt I s) {p : Nat} (hp : p < nT s) : f_X8_worthIn (nI p) I = some (smW (tf s) p (nT s)) := by
  have hT := h.2.1
  have e7 : I 7 p = tf s 0 p := h.2.2 0 (by omega) p hp
  have key := loop_up (fun fu j (x : Int32) => f_X8_worthIn_b9 fu (nI p) x (nI j) I) (nT s) (fun j => smW (tf s) p j) (r := some (smW (tf s) p (nT s))) (fun fu => by
    show f_X8_worthIn_b9 (fu + 1) (nI p) _ (nI (nT s)) I = _
    rw [f_X8_worthIn_b9, h.1, if_pos ((nI_leI (by omega) (by omega)).mpr (Nat.le_refl _))]) (fun fu j hj => by
    have c1 : ¬ nI (nT s) ≤ nI j := nI_ge hj (by omega)
    have co : okI (nI j) 32 = true := okI_nI (by omega) (by omega)
    have e10 : I 10 j = tf s 4 j := h.2.2 4 (by omega) j hj
    have e6 : I 6 j = tf s 3 j := h.2.2 3 (by omega) j hj
    have e9 : I 9 j = tf s 2 j := h.2.2 2 (by omega) j hj
    show f_X8_worthIn_b9 (fu + 1) (nI p) _ (nI j) I = f_X8_worthIn_b9 fu (nI p) (smW (tf s) p (j + 1)) (nI (j + 1)) I
    by_cases c4 : tf s 4 j = nI p
    · by_cases c3 : tf s 3 j = 3
      · rw [f_X8_worthIn_b9, h.1, if_neg c1, if_pos co, nI_clamp (by omega), e10, if_pos c4, if_pos co, e6, if_pos c3, if_pos co, e9, f_X8_worthIn_b48, nI_1, smW, if_pos ⟨c4, c3⟩]
      · rw [f_X8_worthIn_b9, h.1, if_neg c1, if_pos co, nI_clamp (by omega), e10, if_pos c4, if_pos co, e6, if_neg c3, f_X8_worthIn_b47, f_X8_worthIn_b48, nI_1, smW, if_neg (fun q => c3 q.2), Int32.add_zero]
    · rw [f_X8_worthIn_b9, h.1, if_neg c1, if_pos co, nI_clamp (by omega), e10, if_neg c4, f_X8_worthIn_b47, f_X8_worthIn_b48, nI_1, smW, if_neg (fun q => c4 q.1), Int32.add_zero]) (nT s) 0 LF (by omega) (by unfold LF; omega)
  rw [f_X8_worthIn, if_pos (okI_nI (by omega) (by omega)), nI_clamp (by omega), e7]
  exact key
