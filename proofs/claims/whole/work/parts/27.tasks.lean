/-! ===== Tasks: how many at 0 8; work, left, worth, state, inside, mark, cause at 1 .. 7: tf 0 .. tf 6 ===== -/
def RTa (I : IS) (T : Nat) (tf : Nat → Nat → Int32) : Prop := I 0 8 = nI T ∧ T ≤ 32 ∧ ∀ f, f < 7 → ∀ t, t < T → I (f + 1) t = tf f t
/-- each is a root, or in one of a lower number -/
def WFp (T : Nat) (tf : Nat → Nat → Int32) : Prop := ∀ t, t < T → tf 4 t = -5 ∨ ∃ p, p < t ∧ tf 4 t = nI p
theorem wfp_lt {T : Nat} {tf : Nat → Nat → Int32} (h : WFp T tf) {t p : Nat} (ht : t < T) (hT : T ≤ 32) (hp : p < 2 ^ 31) (e : tf 4 t = nI p) : p < t := by
  rcases h t ht with h1 | ⟨q, hq, h1⟩
  · exact absurd (e.symm.trans h1) (m5_ne hp)
  · have : q = p := (nI_eq (by omega) hp).mp (h1.symm.trans e)
    omega
theorem rta_get {I : IS} {T : Nat} {tf : Nat → Nat → Int32} (h : RTa I T tf) {t : Nat} (ht : t < T) (f : Nat) (hf : f < 7) : I (f + 1) t = tf f t := h.2.2 f hf t ht
theorem tas_has_in {I : IS} {T : Nat} {tf : Nat → Nat → Int32} (h : RTa I T tf) {t : Nat} (ht : t < T) : f_X4_has (nI t) I = some 1 := by
  have hT := h.2.1
  rw [f_X4_has, if_neg (nI_pos (by omega)), h.1, if_neg (fun q => absurd ((nI_leI (by omega) (by omega)).mp q) (by omega))]
  rfl
theorem tas_has_neg {I : IS} {x : Int32} (hx : x < 0) : f_X4_has x I = some 0 := by
  rw [f_X4_has, if_pos hx]
  rfl
theorem tas_has_big {I : IS} {T : Nat} {tf : Nat → Nat → Int32} (h : RTa I T tf) {x : Int32} (hx : nI T ≤ x) : f_X4_has x I = some 0 := by
  rw [f_X4_has, h.1]
  by_cases h0 : x < 0
  · rw [if_pos h0]; rfl
  · rw [if_neg h0, if_pos hx]; rfl
/-- any number: a task's, or not -/
theorem tas_has {I : IS} {T : Nat} {tf : Nat → Nat → Int32} (h : RTa I T tf) (x : Int32) : (f_X4_has x I = some 0 ∧ ¬ ∃ t, t < T ∧ x = nI t) ∨ ∃ t, t < T ∧ x = nI t ∧ f_X4_has x I = some 1 := by
  have hT := h.2.1
  rcases pk_ix x (n := T) (by omega) with h1 | h1 | ⟨j, hj, rfl⟩
  · exact Or.inl ⟨tas_has_neg h1, fun ⟨t, ht, e⟩ => nI_pos (n := t) (by omega) (e ▸ h1)⟩
  · refine Or.inl ⟨tas_has_big h h1, fun ⟨t, ht, e⟩ => ?_⟩
    rw [e, nI_leI (by omega) (by omega)] at h1
    omega
  · exact Or.inr ⟨j, hj, rfl, tas_has_in h hj⟩
theorem tas_isEnded {I : IS} {T : Nat} {tf : Nat → Nat → Int32} (h : RTa I T tf) {t : Nat} (ht : t < T) : f_X4_isEnded (nI t) I = some (if tf 3 t < 3 then 0 else 1) := by
  have hT := h.2.1
  have h1 : ¬ (1 : Int32) = 0 := by decide
  rw [f_X4_isEnded, tas_has_in h ht, some_bind, if_neg h1, if_pos (okI_nI (by omega) (by omega)), nI_clamp (by omega), rta_get h ht 3 (by omega)]
  by_cases h3 : tf 3 t < 3
  · rw [if_pos h3, if_pos h3]; rfl
  · rw [if_neg h3, if_neg h3]; rfl
theorem tas_isJoining_neg {I : IS} {x : Int32} (hx : x < 0) : f_X4_isJoining x I = some 0 := by
  rw [f_X4_isJoining, tas_has_neg hx, some_bind, if_pos rfl]
  rfl
theorem tas_isJoining {I : IS} {T : Nat} {tf : Nat → Nat → Int32} (h : RTa I T tf) {t : Nat} (ht : t < T) : f_X4_isJoining (nI t) I = some (if tf 3 t = 2 then 1 else 0) := by
  have hT := h.2.1
  have h1 : ¬ (1 : Int32) = 0 := by decide
  rw [f_X4_isJoining, tas_has_in h ht, some_bind, if_neg h1, if_pos (okI_nI (by omega) (by omega)), nI_clamp (by omega), rta_get h ht 3 (by omega)]
  by_cases h3 : tf 3 t = 2
  · rw [if_pos h3, if_pos h3]; rfl
  · rw [if_neg h3, if_neg h3]; rfl
theorem rta_u2 {I : IS} {T : Nat} {tf : Nat → Nat → Int32} (h : RTa I T tf) {f t : Nat} (v : Int32) : RTa (u2 I (f + 1) t v) T (u2 tf f t v) := by
  refine ⟨by rw [u2_ne _ _ (Or.inl (by omega))]; exact h.1, h.2.1, fun g hg k hk => ?_⟩
  rw [u2_ap, u2_ap, h.2.2 g hg k hk]
  by_cases hc : g = f ∧ k = t
  · rw [if_pos hc, if_pos ⟨by omega, hc.2⟩]
  · rw [if_neg hc, if_neg (fun q => hc ⟨by omega, q.2⟩)]
theorem tas_lessLeft {I : IS} {T : Nat} {tf : Nat → Nat → Int32} (h : RTa I T tf) {t : Nat} (ht : t < T) : ∃ q, f_X4_lessLeft (nI t) I = some (tf 1 t - 1, q) ∧ RTa q T (u2 tf 1 t (tf 1 t - 1)) := by
  have hT := h.2.1
  have c := okI_nI (j := t) (n := 32) (by omega) (by omega)
  rw [f_X4_lessLeft, if_pos c, if_pos c, if_pos c, nI_clamp (by omega), u2_eq, rta_get h ht 1 (by omega)]
  exact ⟨_, rfl, rta_u2 h _⟩
/-- all that are in one are ended -/
def allE (T : Nat) (tf : Nat → Nat → Int32) (p : Nat) : Prop := ∀ t, t < T → tf 4 t = nI p → ¬ tf 3 t < 3
theorem i3_le {x : Int32} : (3 : Int32) ≤ x ↔ ¬ x < 3 := by
  rw [Int32.le_iff_toInt_le, Int32.lt_iff_toInt_lt]
  omega
theorem tas_allIn {I : IS} {T : Nat} {tf : Nat → Nat → Int32} (h : RTa I T tf) (hw : WFp T tf) {p : Nat} (hp : p < T) : ∃ r, f_X4_allInAreEnded (nI p) I = some r ∧ (r = 1 ∧ allE T tf p ∨ r = 0 ∧ ¬ allE T tf p) := by
  have hT := h.2.1
  have key := loop_ret (fun fu j (_ : Unit) => f_X4_allInAreEnded_b4 fu (nI p) (nI j) I) T (fun j _ => ∀ t, t < j → tf 4 t = nI p → ¬ tf 3 t < 3) (fun r => r = 1 ∧ allE T tf p ∨ r = 0 ∧ ¬ allE T tf p) (fun fu _ hP => by
    refine ⟨1, by show f_X4_allInAreEnded_b4 (fu + 1) (nI p) (nI T) I = _; rw [f_X4_allInAreEnded_b4, h.1, if_pos ((nI_leI (by omega) (by omega)).mpr (Nat.le_refl _))], Or.inl ⟨rfl, hP⟩⟩) (fun fu j _ hj hP => by
    have c1 : ¬ nI T ≤ nI j := fun q => absurd ((nI_leI (by omega) (by omega)).mp q) (by omega)
    have c2 : okI (nI j) 32 = true := okI_nI (by omega) (by omega)
    by_cases hx : tf 4 j = nI p
    · by_cases h3 : tf 3 j < 3
      · left
        refine ⟨0, ?_, Or.inr ⟨rfl, fun q => q j hj hx h3⟩⟩
        show f_X4_allInAreEnded_b4 (fu + 1) (nI p) (nI j) I = _
        rw [f_X4_allInAreEnded_b4, h.1, if_neg c1, if_pos c2, nI_clamp (by omega), rta_get h hj 4 (by omega), if_pos hx, if_pos c2, rta_get h hj 3 (by omega), if_neg (fun q => i3_le.mp q h3)]
      · right
        refine ⟨(), fun t ht e => ?_, ?_⟩
        · by_cases htj : t < j
          · exact hP t htj e
          · have : t = j := by omega
            subst this
            exact h3
        · show f_X4_allInAreEnded_b4 (fu + 1) (nI p) (nI j) I = f_X4_allInAreEnded_b4 fu (nI p) (nI (j + 1)) I
          rw [f_X4_allInAreEnded_b4, h.1, if_neg c1, if_pos c2, nI_clamp (by omega), rta_get h hj 4 (by omega), if_pos hx, if_pos c2, rta_get h hj 3 (by omega), if_pos (i3_le.mpr h3), f_X4_allInAreEnded_b34, nI_1]
    · right
      refine ⟨(), fun t ht e => ?_, ?_⟩
      · by_cases htj : t < j
        · exact hP t htj e
        · have : t = j := by omega
          subst this
          exact absurd e hx
      · show f_X4_allInAreEnded_b4 (fu + 1) (nI p) (nI j) I = f_X4_allInAreEnded_b4 fu (nI p) (nI (j + 1)) I
        rw [f_X4_allInAreEnded_b4, h.1, if_neg c1, if_pos c2, nI_clamp (by omega), rta_get h hj 4 (by omega), if_neg hx, f_X4_allInAreEnded_b34, nI_1]) (T - (p + 1)) (p + 1) LF () (by omega) (by unfold LF; omega) (fun t ht e => by
      have := wfp_lt hw (by omega) hT (by omega) e
      omega)
  obtain ⟨r, h4, h5⟩ := key
  refine ⟨r, ?_, h5⟩
  rw [f_X4_allInAreEnded, nI_1]
  exact h4
/-- one's own work and the worths of those in it that are done -/
def smW (tf : Nat → Nat → Int32) (p : Nat) : Nat → Int32
  | 0 => tf 0 p
  | n + 1 => if tf 4 n = nI p ∧ tf 3 n = 3 then smW tf p n + tf 2 n else smW tf p n
theorem smW_low {T : Nat} {tf : Nat → Nat → Int32} (hw : WFp T tf) (hT : T ≤ 32) {p : Nat} (hp : p < T) : ∀ n, n ≤ p + 1 → smW tf p n = tf 0 p := by
  intro n
  induction n with
  | zero => intro _; rfl
  | succ n ih =>
    intro hn
    rw [smW, if_neg, ih (by omega)]
    rintro ⟨e, -⟩
    have := wfp_lt hw (by omega) hT (by omega) e
    omega
theorem tas_finish {I : IS} {T : Nat} {tf : Nat → Nat → Int32} (h : RTa I T tf) (hw : WFp T tf) {p : Nat} (hp : p < T) : ∃ q, f_X4_finish (nI p) I = some q ∧ RTa q T (u2 (u2 tf 3 p 3) 2 p (smW tf p T)) := by
  have hT := h.2.1
  have cp := okI_nI (j := p) (n := 32) (by omega) (by omega)
  have key := loop_up (fun fu j (x : Int32) => f_X4_finish_b11 fu (nI p) x (nI j) I) T (fun j => smW tf p j) (r := some (u2 (u2 I 4 p 3) 3 p (smW tf p T))) (fun fu => by
    show f_X4_finish_b11 (fu + 1) (nI p) (smW tf p T) (nI T) I = _
    rw [f_X4_finish_b11, h.1, if_pos ((nI_leI (by omega) (by omega)).mpr (Nat.le_refl _)), if_pos cp, if_pos cp, nI_clamp (by omega)]) (fun fu j hj => by
    show f_X4_finish_b11 (fu + 1) (nI p) (smW tf p j) (nI j) I = f_X4_finish_b11 fu (nI p) (smW tf p (j + 1)) (nI (j + 1)) I
    have c1 : ¬ nI T ≤ nI j := fun q => absurd ((nI_leI (by omega) (by omega)).mp q) (by omega)
    have c2 : okI (nI j) 32 = true := okI_nI (by omega) (by omega)
    by_cases hx : tf 4 j = nI p
    · by_cases h3 : tf 3 j = 3
      · rw [f_X4_finish_b11, h.1, if_neg c1, if_pos c2, nI_clamp (by omega), rta_get h hj 4 (by omega), if_pos hx, if_pos c2, rta_get h hj 3 (by omega), if_pos h3, if_pos c2, rta_get h hj 2 (by omega), f_X4_finish_b48, nI_1, smW, if_pos ⟨hx, h3⟩]
      · rw [f_X4_finish_b11, h.1, if_neg c1, if_pos c2, nI_clamp (by omega), rta_get h hj 4 (by omega), if_pos hx, if_pos c2, rta_get h hj 3 (by omega), if_neg h3, f_X4_finish_b48, nI_1, smW, if_neg (fun q => h3 q.2)]
    · rw [f_X4_finish_b11, h.1, if_neg c1, if_pos c2, nI_clamp (by omega), rta_get h hj 4 (by omega), if_neg hx, f_X4_finish_b48, nI_1, smW, if_neg (fun q => hx q.1)]) (T - (p + 1)) (p + 1) LF (by omega) (by unfold LF; omega)
  refine ⟨_, ?_, rta_u2 (rta_u2 h (f := 3) (t := p) 3) (f := 2) (t := p) _⟩
  rw [f_X4_finish, if_pos cp, nI_clamp (by omega), nI_1, rta_get h hp 0 (by omega), ← smW_low hw hT hp (p + 1) (Nat.le_refl _)]
  exact key
/-- the one that a task is in, and so on upward -/
def prn (tf : Nat → Nat → Int32) (t : Nat) : Option Nat := if tf 4 t < 0 then none else some (tf 4 t).toNatClampNeg
def anc (tf : Nat → Nat → Int32) : Nat → Nat → Option Nat
  | 0, t => some t
  | k + 1, t => (prn tf t).bind (anc tf k)
/-- at most four levels above -/
def WFd (T : Nat) (tf : Nat → Nat → Int32) : Prop := ∀ t, t < T → anc tf 5 t = none
def encO : Option Nat → Int32
  | none => -5
  | some t => nI t
theorem prn_enc {T : Nat} {tf : Nat → Nat → Int32} (hw : WFp T tf) (hT : T ≤ 32) {t : Nat} (ht : t < T) : tf 4 t = encO (prn tf t) ∧ ∀ p, prn tf t = some p → p < t := by
  unfold prn
  rcases hw t ht with h | ⟨p, hp, h⟩
  · rw [h, if_pos (by decide)]
    exact ⟨rfl, fun p q => by cases q⟩
  · rw [h, if_neg (nI_pos (by omega)), nI_clamp (by omega)]
    exact ⟨rfl, fun q e => by cases e; exact hp⟩
theorem anc_lt {T : Nat} {tf : Nat → Nat → Int32} (hw : WFp T tf) (hT : T ≤ 32) : ∀ (k t p : Nat), t < T → anc tf k t = some p → p + k ≤ t := by
  intro k
  induction k with
  | zero =>
    intro t p _ e
    cases e
    omega
  | succ k ih =>
    intro t p ht e
    have e : (prn tf t).bind (anc tf k) = some p := e
    cases h : prn tf t with
    | none => rw [h] at e; cases e
    | some q =>
      rw [h] at e
      have hq := (prn_enc hw hT ht).2 q h
      have := ih q p (by omega) e
      omega
theorem anc_succ (tf : Nat → Nat → Int32) : ∀ (k t : Nat), anc tf (k + 1) t = (anc tf k t).bind (prn tf) := by
  intro k
  induction k with
  | zero =>
    intro t
    show (prn tf t).bind (anc tf 0) = _
    cases h : prn tf t with
    | none => exact h.symm
    | some q => exact h.symm
  | succ k ih =>
    intro t
    show (prn tf t).bind (anc tf (k + 1)) = ((prn tf t).bind (anc tf k)).bind (prn tf)
    cases prn tf t with
    | none => rfl
    | some q => exact ih q
theorem anc_none (tf : Nat → Nat → Int32) {k t : Nat} (h : anc tf k t = none) : ∀ j, anc tf (k + j) t = none := by
  intro j
  induction j with
  | zero => exact h
  | succ j ih =>
    rw [Nat.add_succ, anc_succ, ih]
    rfl
theorem tas_isBelow {I : IS} {T : Nat} {tf : Nat → Nat → Int32} (h : RTa I T tf) (hw : WFp T tf) (hd : WFd T tf) {t p : Nat} (ht : t < T) (hp : p < T) : ∃ r, f_X4_isBelow (nI t) (nI p) I = some r ∧ (r = 1 ∧ (∃ k, anc tf (k + 1) t = some p) ∨ r = 0 ∧ ¬ ∃ k, anc tf (k + 1) t = some p) := by
  have hT := h.2.1
  have fin : ∀ (x : Int32) (Y : Prop), (x = nI p ↔ Y) → ∃ r, f_X4_isBelow_b34 (nI p) x I = some r ∧ (r = 1 ∧ Y ∨ r = 0 ∧ ¬ Y) := by
    intro x Y hY
    by_cases hx : x = nI p
    · exact ⟨1, by rw [f_X4_isBelow_b34, if_pos hx]; rfl, Or.inl ⟨rfl, hY.mp hx⟩⟩
    · exact ⟨0, by rw [f_X4_isBelow_b34, if_neg hx]; rfl, Or.inr ⟨rfl, fun q => hx (hY.mpr q)⟩⟩
  have key := loop_ret (fun fu j (x : Int32) => f_X4_isBelow_b10 fu (nI p) x (nI j) I) 4 (fun j x => x = encO (anc tf (j + 1) t) ∧ ∀ k, k < j → ∀ q, anc tf (k + 1) t = some q → p < q) (fun r => r = 1 ∧ (∃ k, anc tf (k + 1) t = some p) ∨ r = 0 ∧ ¬ ∃ k, anc tf (k + 1) t = some p) (fun fu x hP => by
    have e5 : x = -5 := by
      rw [hP.1, show anc tf (4 + 1) t = none from hd t ht]
      rfl
    have c4 : (4 : Int32) ≤ nI 4 := by decide
    obtain ⟨r, h1, h2⟩ := fin x (∃ k, anc tf (k + 1) t = some p) ⟨fun e => absurd (e.symm.trans e5) (m5_ne (by omega)), fun ⟨k, hk⟩ => by
      by_cases hk4 : k < 4
      · exact absurd (hP.2 k hk4 p hk) (Nat.lt_irrefl p)
      · have := anc_none tf (hd t ht) (k + 1 - 5)
        rw [show 5 + (k + 1 - 5) = k + 1 by omega, hk] at this
        cases this⟩
    refine ⟨r, ?_, h2⟩
    show f_X4_isBelow_b10 (fu + 1) (nI p) x (nI 4) I = _
    rw [f_X4_isBelow_b10, if_pos c4, h1]) (fun fu j x hj hP => by
    have c4 : ¬ (4 : Int32) ≤ nI j := fun q => absurd ((nI_leI (a := 4) (by omega) (by omega)).mp q) (by omega)
    cases ha : anc tf (j + 1) t with
    | none =>
      left
      have e5 : x = -5 := by rw [hP.1, ha]; rfl
      obtain ⟨r, h1, h2⟩ := fin x (∃ k, anc tf (k + 1) t = some p) ⟨fun e => absurd (e.symm.trans e5) (m5_ne (by omega)), fun ⟨k, hk⟩ => by
        by_cases hkj : k < j
        · exact absurd (hP.2 k hkj p hk) (Nat.lt_irrefl p)
        · have := anc_none tf ha (k - j)
          rw [show j + 1 + (k - j) = k + 1 by omega, hk] at this
          cases this⟩
      refine ⟨r, ?_, h2⟩
      show f_X4_isBelow_b10 (fu + 1) (nI p) x (nI j) I = _
      have c5 : (-5 : Int32) ≤ nI p := by
        rw [Int32.le_iff_toInt_le, tnI (by omega)]
        exact Int.le_trans (by decide) (Int.natCast_nonneg p)
      rw [f_X4_isBelow_b10, if_neg c4, if_pos (by rw [e5]; exact c5), h1]
    | some q =>
      have hq := anc_lt hw hT (j + 1) t q ht ha
      have ex : x = nI q := by rw [hP.1, ha]; rfl
      by_cases hqp : q ≤ p
      · left
        obtain ⟨r, h1, h2⟩ := fin x (∃ k, anc tf (k + 1) t = some p) ⟨fun e => ⟨j, by rw [ha]; exact congrArg some ((nI_eq (by omega) (by omega)).mp (ex.symm.trans e))⟩, fun ⟨k, hk⟩ => by
          by_cases hkj : k < j
          · exact absurd (hP.2 k hkj p hk) (Nat.lt_irrefl p)
          · by_cases hk2 : k = j
            · subst hk2
              rw [ha] at hk
              cases hk
              exact ex
            · exfalso
              have e1 : anc tf (k + 1) t = anc tf (k - j) q := by
                have : ∀ m, anc tf (j + 1 + m) t = anc tf m q := by
                  intro m
                  induction m with
                  | zero => exact ha
                  | succ m ih => rw [← Nat.add_assoc, anc_succ, ih, anc_succ]
                rw [← this (k - j)]
                congr 1
                omega
              rw [e1] at hk
              have := anc_lt hw hT (k - j) q p (by omega) hk
              omega⟩
        refine ⟨r, ?_, h2⟩
        show f_X4_isBelow_b10 (fu + 1) (nI p) x (nI j) I = _
        rw [f_X4_isBelow_b10, if_neg c4, if_pos (by rw [ex]; exact (nI_leI (by omega) (by omega)).mpr hqp), h1]
      · right
        refine ⟨tf 4 q, ⟨?_, fun k hk q' hq' => ?_⟩, ?_⟩
        · rw [(prn_enc hw hT (t := q) (by omega)).1, anc_succ, ha]
          rfl
        · by_cases hkj : k < j
          · exact hP.2 k hkj q' hq'
          · have : k = j := by omega
            subst this
            rw [ha] at hq'
            cases hq'
            omega
        · show f_X4_isBelow_b10 (fu + 1) (nI p) x (nI j) I = f_X4_isBelow_b10 fu (nI p) (tf 4 q) (nI (j + 1)) I
          rw [f_X4_isBelow_b10, if_neg c4, ex, if_neg (fun c => hqp ((nI_leI (by omega) (by omega)).mp c)), if_pos (okI_nI (by omega) (by omega)), nI_clamp (by omega), rta_get h (t := q) (by omega) 4 (by omega), nI_1]) 4 0 LF (tf 4 t) (by omega) (by unfold LF; omega) ⟨by rw [(prn_enc hw hT ht).1, anc_succ]; rfl, fun k hk => absurd hk (Nat.not_lt_zero k)⟩
  obtain ⟨r, h4, h5⟩ := key
  refine ⟨r, ?_, h5⟩
  rw [f_X4_isBelow, if_pos (okI_nI (by omega) (by omega)), nI_clamp (by omega), rta_get h ht 4 (by omega)]
  exact h4
