/-! ===== the World: cancels ===== -/
/-- a loop that hands on to a continuation -/
theorem loop_to {σ τ R : Type} (Lp : Nat → Nat → σ → Option R) (K : τ → Option R) (e : Nat) (P : Nat → σ → Prop) (Q : τ → Prop) (hx : ∀ fu s, P e s → ∃ t, Q t ∧ Lp (fu + 1) e s = K t) (hs : ∀ fu j s, j < e → P j s → ∃ s', P (j + 1) s' ∧ Lp (fu + 1) j s = Lp fu (j + 1) s') : ∀ (k j fu : Nat) (s : σ), j + k = e → k < fu → P j s → ∃ t, Q t ∧ Lp fu j s = K t := by
  intro k
  induction k with
  | zero =>
    intro j fu s hj hf hP
    obtain ⟨f, rfl⟩ : ∃ f, fu = f + 1 := ⟨fu - 1, by omega⟩
    have : j = e := by omega
    subst this
    exact hx f s hP
  | succ k ih =>
    intro j fu s hj hf hP
    obtain ⟨f, rfl⟩ : ∃ f, fu = f + 1 := ⟨fu - 1, by omega⟩
    obtain ⟨s', hP', e1⟩ := hs f j s (by omega) hP
    rw [e1]
    exact ih (j + 1) f s' (by omega) (by omega) hP'
theorem prn_congr {f g : Nat → Nat → Int32} (h : f 4 = g 4) : prn f = prn g := by
  funext t
  unfold prn
  rw [h]
theorem anc_congr {f g : Nat → Nat → Int32} (h : f 4 = g 4) : ∀ k, anc f k = anc g k := by
  intro k
  induction k with
  | zero => rfl
  | succ k ih =>
    funext t
    show (prn f t).bind (anc f k) = (prn g t).bind (anc g k)
    rw [prn_congr h, ih]
theorem anc_congr_all {f g : Nat → Nat → Int32} (h : f 4 = g 4) : anc f = anc g := by
  funext k
  exact anc_congr h k
theorem wfp_congr {T : Nat} {f g : Nat → Nat → Int32} (h : f 4 = g 4) (hw : WFp T f) : WFp T g := by
  unfold WFp at *
  rw [← h]
  exact hw
theorem wfd_congr {T : Nat} {f g : Nat → Nat → Int32} (h : f 4 = g 4) (hw : WFd T f) : WFd T g := by
  unfold WFd at *
  rw [← anc_congr h]
  exact hw
theorem u2_row_o {α : Type} (I : Nat → Nat → α) {i j : Nat} (k : Nat) (v : α) (h : j ≠ i) : u2 I i k v j = I j := u2_oth I k v h
/-- what the steps leave alone -/
theorem dAll_k (s : SP) (x : Int32) : ∀ n, nT (dAll s x n) = nT s ∧ tf (dAll s x n) = tf s ∧ na (dAll s x n) = na s ∧ sd (dAll s x n) = sd s ∧ rd (dAll s x n) = rd s ∧ tr_ (dAll s x n) = tr_ s ∧ lg (dAll s x n) = lg s ∧ tol (dAll s x n) = tol s := by
  intro n
  induction n with
  | zero => exact ⟨rfl, rfl, rfl, rfl, rfl, rfl, rfl, rfl⟩
  | succ n ih => exact ih
theorem eCan_T (s : SP) (t : Nat) : nT (eCan s t) = nT s := (dAll_k s (nI t) (na s)).1
theorem eCan_na (s : SP) (t : Nat) : na (eCan s t) = na s := (dAll_k s (nI t) (na s)).2.2.1
theorem eCan_tf (s : SP) (t : Nat) : tf (eCan s t) = u2 (tf s) 3 t 5 := by
  show u2 (tf (eDrop s (nI t))) 3 t 5 = _
  rw [show tf (eDrop s (nI t)) = tf s from (dAll_k s (nI t) (na s)).2.1]
theorem eCan_tf4 (s : SP) (t : Nat) : tf (eCan s t) 4 = tf s 4 := by
  rw [eCan_tf]
  exact u2_oth _ _ _ (by omega)
theorem eCl_k (P : Nat → Bool) (s : SP) : ∀ n, nT (eCl P s n).2 = nT s ∧ na (eCl P s n).2 = na s ∧ tf (eCl P s n).2 4 = tf s 4 := by
  intro n
  induction n with
  | zero => exact ⟨rfl, rfl, rfl⟩
  | succ n ih =>
    show nT (if P n = true ∧ tf (eCl P s n).2 3 n < 3 then ((eCl P s n).1 + 1, eCan (eCl P s n).2 n) else eCl P s n).2 = nT s ∧ na (if P n = true ∧ tf (eCl P s n).2 3 n < 3 then ((eCl P s n).1 + 1, eCan (eCl P s n).2 n) else eCl P s n).2 = na s ∧ tf (if P n = true ∧ tf (eCl P s n).2 3 n < 3 then ((eCl P s n).1 + 1, eCan (eCl P s n).2 n) else eCl P s n).2 4 = tf s 4
    by_cases h : P n = true ∧ tf (eCl P s n).2 3 n < 3
    · rw [if_pos h]
      exact ⟨(eCan_T _ _).trans ih.1, (eCan_na _ _).trans ih.2.1, (eCan_tf4 _ _).trans ih.2.2⟩
    · rw [if_neg h]
      exact ih
theorem eCl_low (P : Nat → Bool) (s : SP) : ∀ n, (∀ j, j < n → P j = false) → eCl P s n = (0, s) := by
  intro n
  induction n with
  | zero => intro _; rfl
  | succ n ih =>
    intro h
    show (if P n = true ∧ tf (eCl P s n).2 3 n < 3 then ((eCl P s n).1 + 1, eCan (eCl P s n).2 n) else eCl P s n) = _
    rw [if_neg (fun q => by rw [h n (by omega)] at q; exact absurd q.1 (by decide)), ih (fun j hj => h j (by omega))]
/-- one is cancelled: out of all rows, its state, the entry -/
theorem wor_can1 {I : IS} {s : SP} (h : RWo I s) (hn : na s ≤ 4) {t : Nat} (ht : t < nT s) {k5 : Int32 → Int32 → Int32 → IS → Option (Int32 × IS)} (x2 x3 : Int32) : ∃ J, RWo J (eCan s t) ∧ f_X6_cancelFrom_b53 k5 LF x2 x3 (nI t) 0 I = k5 x2 (x3 + 1) (nI (t + 1)) J := by
  have hT := h.2.1.2.1
  have key := loop_to (fun fu j (J : IS) => f_X6_cancelFrom_b53 k5 fu x2 x3 (nI t) (nI j) J) (fun J => k5 x2 (x3 + 1) (nI (t + 1)) J) (na s) (fun j J => RWo J (dAll s (nI t) j)) (fun J => RWo J (eCan s t)) (fun fu J hJ => by
    have e6 : J 0 6 = nI (na s) := by rw [hJ.2.2.2.2.1, (dAll_k s (nI t) (na s)).2.2.1]
    have hJ2 := rwo_eSet hJ (f := 3) (by omega) t 5
    obtain ⟨q, h1, h2⟩ := rwo_eEnt hJ2 (-5) 5 (nI t)
    refine ⟨_, h2, ?_⟩
    show f_X6_cancelFrom_b53 k5 (fu + 1) x2 x3 (nI t) (nI (na s)) J = _
    rw [f_X6_cancelFrom_b53, e6, if_pos ((nI_leI (by omega) (by omega)).mpr (Nat.le_refl _)), if_pos (okI_nI (by omega) (by omega)), nI_clamp (by omega)]
    rw [h1, some_bind, f_X6_cancelFrom_b110, nI_1]) (fun fu j J hj hJ => by
    have e6 : J 0 6 = nI (na s) := by rw [hJ.2.2.2.2.1, (dAll_k s (nI t) j).2.2.1]
    obtain ⟨q, h1, h2⟩ := rwo_dA hJ (a := j) (by omega) (nI t)
    refine ⟨_, h2, ?_⟩
    show f_X6_cancelFrom_b53 k5 (fu + 1) x2 x3 (nI t) (nI j) J = _
    rw [f_X6_cancelFrom_b53, e6, if_neg (nI_ge hj (by omega)), if_pos (okI_nI (by omega) (by omega)), nI_clamp (by omega), h1, some_bind, nI_1]) (na s) 0 LF I (by omega) (by unfold LF; omega) h
  exact key
theorem wor_cancelFrom {I : IS} {s : SP} (h : RWo I s) (hn : na s ≤ 4) (hw : WFp (nT s) (tf s)) (hd : WFd (nT s) (tf s)) {start top : Nat} (hs : start ≤ nT s) (ht : top < nT s) {P : Nat → Bool} (hP0 : ∀ j, j < start → P j = false) (hP : ∀ j, start ≤ j → j < nT s → (P j = true ↔ (j = top ∨ ∃ k, anc (tf s) (k + 1) j = some top))) : ∃ J, RWo J (eCl P s (nT s)).2 ∧ f_X6_cancelFrom (nI start) (nI top) I = some (nI (eCl P s (nT s)).1, J) := by
  have hT := h.2.1.2.1
  have key := loop_to (fun fu j (q : Int32 × IS) => f_X6_cancelFrom_b5 fu (nI top) q.1 (nI j) q.2) (fun J => some (nI (eCl P s (nT s)).1, J)) (nT s) (fun j q => start ≤ j ∧ q.1 = nI (eCl P s j).1 ∧ RWo q.2 (eCl P s j).2) (fun J => RWo J (eCl P s (nT s)).2) (fun fu q hq => by
    obtain ⟨x, J⟩ := q
    obtain ⟨hjs, e1, hJ⟩ := hq
    have e1 : x = nI (eCl P s (nT s)).1 := e1
    have e8 : J 10 8 = nI (nT s) := by
      have := hJ.2.1.1
      rw [(eCl_k P s (nT s)).1] at this
      exact this
    refine ⟨J, hJ, ?_⟩
    show f_X6_cancelFrom_b5 (fu + 1) (nI top) x (nI (nT s)) J = _
    rw [f_X6_cancelFrom_b5, e8, if_pos ((nI_leI (by omega) (by omega)).mpr (Nat.le_refl _)), e1]) (fun fu j q hj hq => by
    obtain ⟨x, J⟩ := q
    obtain ⟨hjs, e1, hJ⟩ := hq
    have e1 : x = nI (eCl P s j).1 := e1
    have hJ : RWo J (eCl P s j).2 := hJ
    obtain ⟨kT, kn, k4⟩ := eCl_k P s j
    have hRT : RTa (zI 10 J) (nT s) (tf (eCl P s j).2) := by
      have := hJ.2.1
      rw [kT] at this
      exact this
    have e8 : J 10 8 = nI (nT s) := hRT.1
    have c1 : ¬ nI (nT s) ≤ nI j := nI_ge hj (by omega)
    have c2 : okI (nI j) 32 = true := okI_nI (by omega) (by omega)
    have e14 : J 14 j = tf (eCl P s j).2 3 j := rta_get hRT hj 3 (by omega)
    have step : eCl P s (j + 1) = if P j = true ∧ tf (eCl P s j).2 3 j < 3 then ((eCl P s j).1 + 1, eCan (eCl P s j).2 j) else eCl P s j := rfl
    have skip : (P j = true ∧ tf (eCl P s j).2 3 j < 3) = False → ∃ s' : Int32 × IS, (start ≤ j + 1 ∧ s'.1 = nI (eCl P s (j + 1)).1 ∧ RWo s'.2 (eCl P s (j + 1)).2) ∧ f_X6_cancelFrom_b110 (f_X6_cancelFrom_b5 fu) (nI top) x (nI j) J = f_X6_cancelFrom_b5 fu (nI top) s'.1 (nI (j + 1)) s'.2 := fun hc => by
      rw [step, if_neg (by rw [hc]; exact fun q => q)]
      exact ⟨(x, J), ⟨by omega, e1, hJ⟩, by rw [f_X6_cancelFrom_b110, nI_1]⟩
    have doit : P j = true → tf (eCl P s j).2 3 j < 3 → ∃ s' : Int32 × IS, (start ≤ j + 1 ∧ s'.1 = nI (eCl P s (j + 1)).1 ∧ RWo s'.2 (eCl P s (j + 1)).2) ∧ f_X6_cancelFrom_b50 (f_X6_cancelFrom_b5 fu) (nI top) x (nI j) J = f_X6_cancelFrom_b5 fu (nI top) s'.1 (nI (j + 1)) s'.2 := fun hp h3 => by
      obtain ⟨J', g1, g2⟩ := wor_can1 hJ (by rw [kn]; exact hn) (t := j) (by rw [kT]; exact hj) (k5 := f_X6_cancelFrom_b5 fu) (nI top) x
      rw [step, if_pos ⟨hp, h3⟩]
      refine ⟨(x + 1, J'), ⟨by omega, ?_, g1⟩, ?_⟩
      · show x + 1 = _
        rw [e1, nI_1]
      · rw [f_X6_cancelFrom_b50, g2]
    show ∃ s' : Int32 × IS, _ ∧ f_X6_cancelFrom_b5 (fu + 1) (nI top) x (nI j) J = _
    by_cases h3 : tf (eCl P s j).2 3 j < 3
    · have c3 : ¬ (3 : Int32) ≤ tf (eCl P s j).2 3 j := fun q => i3_le.mp q h3
      have ev : f_X6_cancelFrom_b5 (fu + 1) (nI top) x (nI j) J = (if nI j = nI top then (f_X6_cancelFrom_b50 (f_X6_cancelFrom_b5 fu) (nI top) x (nI j) J) else ((f_X4_isBelow (nI j) (nI top) (zI 10 J)).bind fun q5 => (if q5 = 0 then (f_X6_cancelFrom_b110 (f_X6_cancelFrom_b5 fu) (nI top) x (nI j) J) else (f_X6_cancelFrom_b50 (f_X6_cancelFrom_b5 fu) (nI top) x (nI j) J)))) := by
        rw [f_X6_cancelFrom_b5, e8, if_neg c1, if_pos c2, nI_clamp (by omega), e14, if_neg c3]
      rw [ev]
      by_cases hjt : j = top
      · rw [if_pos (by rw [hjt])]
        exact doit ((hP j hjs hj).mpr (Or.inl hjt)) h3
      · rw [if_neg (fun q => hjt ((nI_eq (by omega) (by omega)).mp q))]
        obtain ⟨r, r1, r2⟩ := tas_isBelow hRT (wfp_congr k4.symm hw) (wfd_congr k4.symm hd) hj ht
        rw [r1, some_bind]
        rw [anc_congr_all k4] at r2
        rcases r2 with ⟨rfl, r3⟩ | ⟨rfl, r3⟩
        · rw [if_neg (by decide)]
          exact doit ((hP j hjs hj).mpr (Or.inr r3)) h3
        · rw [if_pos rfl]
          refine skip (eq_false (fun q => ?_))
          rcases (hP j hjs hj).mp q.1 with h9 | h9
          · exact hjt h9
          · exact r3 h9
    · have c3 : (3 : Int32) ≤ tf (eCl P s j).2 3 j := i3_le.mpr h3
      have ev : f_X6_cancelFrom_b5 (fu + 1) (nI top) x (nI j) J = f_X6_cancelFrom_b110 (f_X6_cancelFrom_b5 fu) (nI top) x (nI j) J := by
        rw [f_X6_cancelFrom_b5, e8, if_neg c1, if_pos c2, nI_clamp (by omega), e14, if_pos c3]
      rw [ev]
      exact skip (eq_false (fun q => h3 q.2))) (nT s - start) start LF (0, I) (by omega) (by unfold LF; omega) ⟨Nat.le_refl _, by rw [eCl_low P s start hP0]; rfl, by rw [eCl_low P s start hP0]; exact h⟩
  obtain ⟨J, h1, h2⟩ := key
  exact ⟨J, h1, h2⟩
