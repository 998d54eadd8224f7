/-! ===== looked; what is told and what came, through the steps ===== -/
theorem loop2r {σ τ R S : Type} (L1 : Nat → Nat → σ → Option R) (L2 : Nat → Nat → τ → Option S) (e : Nat) (P : Nat → σ → τ → Prop) (Q : R → S → Prop) (hx : ∀ fu fv s t, P e s t → ∃ r q, L1 (fu + 1) e s = some r ∧ L2 (fv + 1) e t = some q ∧ Q r q) (hs : ∀ fu fv j s t, j < e → P j s t → (∃ r q, L1 (fu + 1) j s = some r ∧ L2 (fv + 1) j t = some q ∧ Q r q) ∨ ∃ s' t', P (j + 1) s' t' ∧ L1 (fu + 1) j s = L1 fu (j + 1) s' ∧ L2 (fv + 1) j t = L2 fv (j + 1) t') : ∀ (k j fu fv : Nat) (s : σ) (t : τ), j + k = e → k < fu → k < fv → P j s t → ∃ r q, L1 fu j s = some r ∧ L2 fv j t = some q ∧ Q r q := by
  intro k
  induction k with
  | zero =>
    intro j fu fv s t hj hf hg hP
    obtain ⟨f, rfl⟩ : ∃ f, fu = f + 1 := ⟨fu - 1, by omega⟩
    obtain ⟨g, rfl⟩ : ∃ g, fv = g + 1 := ⟨fv - 1, by omega⟩
    have : j = e := by omega
    subst this
    exact hx f g s t hP
  | succ k ih =>
    intro j fu fv s t hj hf hg hP
    obtain ⟨f, rfl⟩ : ∃ f, fu = f + 1 := ⟨fu - 1, by omega⟩
    obtain ⟨g, rfl⟩ : ∃ g, fv = g + 1 := ⟨fv - 1, by omega⟩
    rcases hs f g j s t (by omega) hP with h | ⟨s', t', hP', e1, e2⟩
    · exact h
    · rw [e1, e2]
      exact ih (j + 1) f g s' t' (by omega) (by omega) (by omega) hP'
theorem sc_looked : SC_looked INV := by
  intro Ic Jc Im Jm h _
  have hq := inv_q h
  obtain ⟨s, si, h1, h2, h3, h4, h5, h6, h7⟩ := h
  have hT : nT s ≤ 32 := h2.1.2.2
  have g3 := mo_29 (mo_b0 h3) 0
  have hTa := c_tas h1
  obtain ⟨b1, b2, b3⟩ := g3.2.2.2.2.1.2.2
  obtain ⟨p1, p2, p3⟩ := h1.2.2.2.2.2.2.2.2.2
  have p1 : Ic 32 2 = nI (tol s).2.2.length := p1
  have p3 : ∀ k, k < (tol s).2.2.length → (tol s).2.2[k]? = some (Ic 33 k, Ic 34 k) := p3
  have t3 := h2.2.2.2.2.2.2.2.2
  have key := loop2r (fun fu j (_ : Unit) => f_X7_looked_b2 fu (nI j) Ic) (fun fu j (_ : Unit) => f_X8_looked_b7 fu (nI j) (u2 Im 0 29 0)) (tol s).2.2.length (fun _ _ _ => True) (fun r q => r = q.1 ∧ q.2 = u2 Im 0 29 0) (fun fu fv _ _ _ => by
    refine ⟨-5, (-5, u2 Im 0 29 0), ?_, ?_, rfl, rfl⟩
    · show f_X7_looked_b2 (fu + 1) (nI _) Ic = _
      rw [f_X7_looked_b2, p1, if_pos ((nI_leI (by omega) (by omega)).mpr (Nat.le_refl _))]
    · show f_X8_looked_b7 (fv + 1) (nI _) (u2 Im 0 29 0) = _
      rw [f_X8_looked_b7, b1, if_pos ((nI_leI (by omega) (by omega)).mpr (Nat.le_refl _))]) (fun fu fv j _ _ hj _ => by
    have e1 := p3 j hj
    have e2 := b3 j hj
    rw [e1] at e2
    have e3 := Option.some.inj e2
    have e18 : u2 Im 0 29 0 18 j = Ic 33 j := (congrArg Prod.fst e3).symm
    have e19 : u2 Im 0 29 0 19 j = Ic 34 j := (congrArg Prod.snd e3).symm
    obtain ⟨t, ht, et⟩ := t3 (Ic 33 j, Ic 34 j) (List.mem_of_getElem? e1)
    have et : Ic 33 j = nI t := et
    have c1 : ¬ nI (tol s).2.2.length ≤ nI j := nI_ge hj (by omega)
    have co : okI (nI j) 8 = true := okI_nI (by omega) (by omega)
    have ct : okI (nI t) 32 = true := okI_nI (by omega) (by omega)
    have e15 : Ic 15 t = tf s 3 t := rta_get hTa ht 3 (by omega)
    have e6 : u2 Im 0 29 0 6 t = tf s 3 t := g3.2.2.1.2.2 3 (by omega) t ht
    by_cases c : tf s 3 t = Ic 34 j
    · right
      refine ⟨(), (), trivial, ?_, ?_⟩
      · show f_X7_looked_b2 (fu + 1) (nI j) Ic = f_X7_looked_b2 fu (nI (j + 1)) Ic
        rw [f_X7_looked_b2, p1, if_neg c1, if_pos co, nI_clamp (by omega), et, tas_has_in hTa ht, some_bind, if_neg z10, if_pos ct, if_pos co, nI_clamp (by omega), e15, if_pos c, f_X7_looked_b72, nI_1]
      · show f_X8_looked_b7 (fv + 1) (nI j) (u2 Im 0 29 0) = f_X8_looked_b7 fv (nI (j + 1)) (u2 Im 0 29 0)
        rw [f_X8_looked_b7, b1, if_neg c1, if_pos co, nI_clamp (by omega), e18, et, if_pos ct, if_pos co, nI_clamp (by omega), e6, e19, if_pos c, nI_1]
    · left
      refine ⟨nI j, (nI j, u2 Im 0 29 0), ?_, ?_, rfl, rfl⟩
      · show f_X7_looked_b2 (fu + 1) (nI j) Ic = _
        rw [f_X7_looked_b2, p1, if_neg c1, if_pos co, nI_clamp (by omega), et, tas_has_in hTa ht, some_bind, if_neg z10, if_pos ct, if_pos co, nI_clamp (by omega), e15, if_neg c]
      · show f_X8_looked_b7 (fv + 1) (nI j) (u2 Im 0 29 0) = _
        rw [f_X8_looked_b7, b1, if_neg c1, if_pos co, nI_clamp (by omega), e18, et, if_pos ct, if_pos co, nI_clamp (by omega), e6, e19, if_neg c]) (tol s).2.2.length 0 LF LF () () (by omega) (by unfold LF; omega) (by unfold LF; omega) trivial
  obtain ⟨r, ⟨q1, q2⟩, k1, k2, k3, k4⟩ := key
  have k4 : q2 = u2 Im 0 29 0 := k4
  refine ⟨r, (q1, q2), k1, k2, k3, ?_⟩
  show INV Ic Jc q2 Jm
  rw [k4]
  exact hq
/-- what is told by hand stays; what came goes on, by no more than c -/
def LGX (c : Nat) (s s' : SP) : Prop := tol s' = tol s ∧ ∃ l, lg s' = lg s ++ l ∧ l.length ≤ c
theorem lgx_0 {s s' : SP} (h1 : tol s' = tol s) (h2 : lg s' = lg s) : LGX 0 s s' := ⟨h1, [], by rw [h2, List.append_nil], Nat.le_refl _⟩
theorem lgx_t {c d : Nat} {s s' s'' : SP} (h : LGX c s s') (g : LGX d s' s'') : LGX (c + d) s s'' := by
  obtain ⟨h1, l, h2, h3⟩ := h
  obtain ⟨g1, k, g2, g3⟩ := g
  exact ⟨g1.trans h1, l ++ k, by rw [g2, h2, List.append_assoc], by rw [List.length_append]; omega⟩
theorem lgx_le {c d : Nat} {s s' : SP} (h : LGX c s s') (hc : c ≤ d) : LGX d s s' := by
  obtain ⟨h1, l, h2, h3⟩ := h
  exact ⟨h1, l, h2, by omega⟩
theorem lgx_ent (s : SP) (a k t : Int32) : LGX 1 s (eEnt s a k t) := ⟨rfl, [t], rfl, Nat.le_refl _⟩
theorem lgx_set (s : SP) (f t : Nat) (v : Int32) : LGX 0 s (eSet s f t v) := lgx_0 rfl rfl
theorem lgx_uA (s : SP) (a : Nat) (l : List Int32) (w i t : Int32) : LGX 0 s (uA s a l w i t) := lgx_0 rfl rfl
theorem lgx_can (s : SP) (t : Nat) : LGX 1 s (eCan s t) := by
  have e := dAll_k s (nI t) (na s)
  have h : LGX 0 s (eDrop s (nI t)) := lgx_0 e.2.2.2.2.2.2.2 e.2.2.2.2.2.2.1
  exact lgx_t (lgx_t h (lgx_set _ 3 t 5)) (lgx_ent _ _ _ _)
theorem lgx_cl (P : Nat → Bool) (s : SP) : ∀ n, LGX n s (eCl P s n).2 := by
  intro n
  induction n with
  | zero => exact lgx_0 rfl rfl
  | succ n ih =>
    show LGX (n + 1) s (if P n = true ∧ tf (eCl P s n).2 3 n < 3 then ((eCl P s n).1 + 1, eCan (eCl P s n).2 n) else eCl P s n).2
    by_cases c : P n = true ∧ tf (eCl P s n).2 3 n < 3
    · rw [if_pos c]
      exact lgx_t ih (lgx_can _ _)
    · rw [if_neg c]
      exact lgx_le ih (by omega)
theorem lgx_fail (s : SP) (t p : Nat) : LGX (nT s + 1) s (eFail s t p) :=
  lgx_t (lgx_t (lgx_t (lgx_cl (bel s p) s (nT s)) (lgx_set _ 3 p 4)) (lgx_set _ 6 p (nI t))) (lgx_ent _ _ _ _)
theorem lgx_up : ∀ (k : Nat) (s : SP) (t : Nat), nT s ≤ 32 → LGX (33 * k) s (eUp k s t) := by
  intro k
  induction k with
  | zero => exact fun s t _ => lgx_0 rfl rfl
  | succ k ih =>
    intro s t hT
    unfold eUp
    cases prn (tf s) t with
    | none => exact lgx_le (lgx_0 rfl rfl) (by omega)
    | some p =>
      dsimp only
      by_cases h2 : tf s 3 p = 2
      · rw [if_pos h2]
        by_cases h4 : tf s 3 t = 4 ∧ tf s 5 p ≠ 2
        · rw [if_pos h4]
          exact lgx_le (lgx_t (lgx_fail s t p) (ih _ p (by rw [(eFail_k s t p).1]; exact hT))) (by omega)
        · rw [if_neg h4]
          by_cases ha : pB (allE (nT s) (tf s) p) = true
          · rw [if_pos ha]
            have g : LGX 0 s (eFin s p) := lgx_0 rfl rfl
            exact lgx_le (lgx_t (lgx_t g (lgx_ent _ (-5) 3 (nI p))) (ih _ p (by show nT (eFin s p) ≤ 32; rw [(eFin_k s p).1]; exact hT))) (by omega)
          · rw [if_neg ha]
            exact lgx_le (lgx_0 rfl rfl) (by omega)
      · rw [if_neg h2]
        exact lgx_le (lgx_0 rfl rfl) (by omega)
theorem lgx_ends (s : SP) (t a : Nat) : LGX 1 s (eEnds s t a).2 := by
  unfold eEnds
  by_cases h5 : tf s 5 t = 1
  · rw [if_pos h5]
    exact lgx_t (lgx_set s 3 t 4) (lgx_ent _ _ _ _)
  · rw [if_neg h5]
    by_cases hall : pB (allE (nT s) (tf s) t) = true
    · rw [if_pos hall]
      have g : LGX 0 s (eFin s t) := lgx_0 rfl rfl
      exact lgx_t g (lgx_ent _ _ _ _)
    · rw [if_neg hall]
      exact lgx_le (lgx_t (lgx_set s 3 t 2) (lgx_uA _ _ _ _ _ _)) (by omega)
theorem lgx_wk (s : SP) (a : Nat) (k : Int32) (t : Nat) : LGX 1 s (eWk s a k t) :=
  lgx_t (lgx_t (lgx_uA s a _ _ _ _) (lgx_set _ 3 t 1)) (lgx_ent _ _ _ _)
theorem lgx_stl (s : SP) (a o : Nat) (x : Int32) : LGX 1 s (eStl s a o x) := by
  have g1 : LGX 0 s (dA s x o) := lgx_uA _ _ _ _ _ _
  have g2 : LGX 0 (dA s x o) (eInc (dA s x o) a) := lgx_uA _ _ _ _ _ _
  exact lgx_t (lgx_t g1 g2) (lgx_wk _ _ _ _)
theorem lgx_sd (s : SP) (d : Int32) : LGX 0 s (wSd s d) := lgx_0 rfl rfl
theorem eDr_lg (s : SP) (a : Nat) {o : Nat} {s' : SP} (h : eDr s a = (some o, s')) : LGX 0 s s' := by
  unfold eDr at h
  by_cases hz : (fl s a (na s)).length = 0
  · rw [if_pos hz] at h
    cases h
  · rw [if_neg hz] at h
    have hd := lgx_sd s (sdN (sd s))
    generalize sdN (sd s) = d at h hd
    generalize wSd s d = s2 at h hd
    have e : s2 = s' := congrArg Prod.snd h
    rw [← e]
    exact hd
theorem lgx_take (s : SP) (a : Nat) : LGX 1 s (eTake s a) := by
  cases hl : (rw_ s a).getLast? with
  | some x =>
    rw [eTake_near hl]
    have g1 : LGX 0 s (ePop s a) := lgx_uA _ _ _ _ _ _
    exact lgx_t g1 (lgx_wk _ _ _ _)
  | none =>
    rcases eDr_cases s a with hd | ⟨o, s', hd, -⟩
    · rw [eTake_idle hl hd]
      exact lgx_le (lgx_uA _ _ _ _ _ _) (by omega)
    · rw [eTake_far hl hd]
      exact lgx_t (eDr_lg s a hd) (lgx_stl _ _ _ _)
theorem lgx_step (s : SP) (a t : Nat) (hT : nT s ≤ 32) : LGX 133 s (eStep s a t) := by
  unfold eStep
  have g0 : LGX 0 s (eSet s 1 t (tf s 1 t - 1)) := lgx_set _ _ _ _
  have q2 : nT (eSet s 1 t (tf s 1 t - 1)) = nT s := rfl
  by_cases hz : tf s 1 t - 1 = 0
  · rw [if_pos hz]
    generalize eSet s 1 t (tf s 1 t - 1) = s1 at g0 q2 ⊢
    have g1 := lgx_t g0 (lgx_uA s1 a (rw_ s a) (-5) (af s 1 a) (af s 2 a))
    have k3 : nT (uA s1 a (rw_ s a) (-5) (af s 1 a) (af s 2 a)) = nT s1 := rfl
    generalize uA s1 a (rw_ s a) (-5) (af s 1 a) (af s 2 a) = s2 at g1 k3 ⊢
    have g2 := lgx_t g1 (lgx_ends s2 t a)
    have k1 := (eEnds_k s2 t a).1
    by_cases hb : (eEnds s2 t a).1 = true
    · rw [if_pos hb]
      exact lgx_le (lgx_t g2 (lgx_up 4 _ t (by omega))) (by omega)
    · rw [if_neg hb]
      exact lgx_le g2 (by omega)
  · rw [if_neg hz]
    exact lgx_le g0 (by omega)
theorem lgx_arm (s : SP) (a : Nat) (hT : nT s ≤ 32) : LGX 133 s (eArm s a) := by
  unfold eArm
  by_cases h0 : af s 0 a = -5
  · rw [if_pos h0]
    exact lgx_le (lgx_take s a) (by omega)
  · rw [if_neg h0]
    exact lgx_step s a _ hT
theorem lgx_arms {s : SP} (h : WF s) : ∀ n, n ≤ na s → LGX (133 * n) s (eArms s n) := by
  intro n
  induction n with
  | zero => intro _; exact lgx_0 rfl rfl
  | succ n ih =>
    intro hn
    obtain ⟨i1, i2, i3⟩ := wf_arms h n (by omega)
    exact lgx_le (lgx_t (ih (by omega)) (lgx_arm (eArms s n) n i1.1.2.2)) (by omega)
theorem lgx_round {s : SP} (h : WF s) : LGX 532 s (eRound s) := by
  have g := lgx_arms h (na s) (Nat.le_refl _)
  have hn := h.1.2.1
  unfold eRound
  generalize eArms s (na s) = s2 at g ⊢
  have g2 : LGX 0 s2 (wRd s2 (rd s2 + 1)) := lgx_0 rfl rfl
  exact lgx_le (lgx_t g g2) (by omega)
theorem lgx_rounds {s : SP} (h : WF s) : ∀ n, LGX (532 * n) s (eRounds s n) := by
  intro n
  induction n with
  | zero => exact lgx_0 rfl rfl
  | succ n ih => exact lgx_le (lgx_t ih (lgx_round (wf_rounds h n).1)) (by omega)
theorem lgx_hand {s : SP} (h : WF s) (t : Nat) : LGX 164 s (eHand s t) := by
  have hT := h.1.2.2
  exact lgx_le (lgx_t (lgx_cl (belE s t) s (nT s)) (lgx_up 4 _ t (by rw [(eCl_k (belE s t) s (nT s)).1]; exact hT))) (by omega)
theorem tol_plan {s : SP} (h : WF s) (what n : Int32) : tol (ePlan s what n) = tol s := by
  unfold ePlan
  by_cases h0 : what = 0
  · rw [if_pos h0]
    exact (lgx_round h).1
  · rw [if_neg h0]
    by_cases h2 : what = 2
    · rw [if_pos h2]
      rfl
    · rw [if_neg h2]
      by_cases h3 : n < 0 ∨ nI (nT s) ≤ n
      · rw [if_pos h3]
      · rw [if_neg h3]
        by_cases h4 : tf s 3 n.toNatClampNeg < 3
        · rw [if_pos h4]
          exact (lgx_hand h _).1
        · rw [if_neg h4]
