/-! ===== the state that both sides hold ===== -/
abbrev TOL : Type := List (Int32 × Int32) × List (Int32 × Int32) × List (Int32 × Int32)
abbrev SP : Type := Nat × Nat × Int32 × Int32 × (Nat → Nat → Int32) × (Nat → Nat → Int32) × (Nat → List Int32) × List EN × List Int32 × TOL
abbrev na (s : SP) : Nat := s.1
abbrev nT (s : SP) : Nat := s.2.1
abbrev sd (s : SP) : Int32 := s.2.2.1
abbrev rd (s : SP) : Int32 := s.2.2.2.1
abbrev tf (s : SP) : Nat → Nat → Int32 := s.2.2.2.2.1
abbrev af (s : SP) : Nat → Nat → Int32 := s.2.2.2.2.2.1
abbrev rw_ (s : SP) : Nat → List Int32 := s.2.2.2.2.2.2.1
abbrev tr_ (s : SP) : List EN := s.2.2.2.2.2.2.2.1
abbrev lg (s : SP) : List Int32 := s.2.2.2.2.2.2.2.2.1
abbrev tol (s : SP) : TOL := s.2.2.2.2.2.2.2.2.2
def mkS (n T : Nat) (d r : Int32) (t a : Nat → Nat → Int32) (w : Nat → List Int32) (e : List EN) (l : List Int32) (o : TOL) : SP := (n, T, d, r, t, a, w, e, l, o)
def wTf (s : SP) (x : Nat → Nat → Int32) : SP := mkS (na s) (nT s) (sd s) (rd s) x (af s) (rw_ s) (tr_ s) (lg s) (tol s)
def wAf (s : SP) (x : Nat → Nat → Int32) : SP := mkS (na s) (nT s) (sd s) (rd s) (tf s) x (rw_ s) (tr_ s) (lg s) (tol s)
def wRw (s : SP) (x : Nat → List Int32) : SP := mkS (na s) (nT s) (sd s) (rd s) (tf s) (af s) x (tr_ s) (lg s) (tol s)
def wTr (s : SP) (x : List EN) (y : List Int32) : SP := mkS (na s) (nT s) (sd s) (rd s) (tf s) (af s) (rw_ s) x y (tol s)
def wSd (s : SP) (x : Int32) : SP := mkS (na s) (nT s) x (rd s) (tf s) (af s) (rw_ s) (tr_ s) (lg s) (tol s)
def wRd (s : SP) (x : Int32) : SP := mkS (na s) (nT s) (sd s) x (tf s) (af s) (rw_ s) (tr_ s) (lg s) (tol s)
def wNa (s : SP) (x : Nat) : SP := mkS x (nT s) (sd s) (rd s) (tf s) (af s) (rw_ s) (tr_ s) (lg s) (tol s)
def wT (s : SP) (x : Nat) : SP := mkS (na s) x (sd s) (rd s) (tf s) (af s) (rw_ s) (tr_ s) (lg s) (tol s)
def wLg (s : SP) (y : List Int32) : SP := wTr s (tr_ s) y
def wTo (s : SP) (o : TOL) : SP := mkS (na s) (nT s) (sd s) (rd s) (tf s) (af s) (rw_ s) (tr_ s) (lg s) o
/-- a World's numbers hold the state -/
def RWo (I : IS) (s : SP) : Prop := (∀ a, a < 4 → RAr (zI (gArm a) I) (rw_ s a) (af s 0 a) (af s 1 a) (af s 2 a)) ∧ RTa (zI 10 I) (nT s) (tf s) ∧ RTr (zI 19 I) (tr_ s) ∧ RWa (zI 19 I) (lg s) ∧ I 0 6 = nI (na s) ∧ I 0 7 = sd s ∧ I 0 8 = rd s ∧ RPr 5 (zI 25 I) (tol s).1 ∧ RPr 10 (zI 28 I) (tol s).2.1 ∧ RPr 8 (zI 31 I) (tol s).2.2
theorem gArm_rng (a : Nat) : 2 ≤ gArm a ∧ gArm a ≤ 8 := by
  have h : a % 4 < 4 := Nat.mod_lt _ (by omega)
  unfold gArm
  omega
theorem gArm_eq {a : Nat} (h : a < 4) : gArm a = 2 + 2 * a := by
  unfold gArm
  rw [Nat.mod_eq_of_lt h]
/-- what a part's relation sees of the numbers -/
theorem rar_congr {I J : IS} {l : List Int32} {w i s : Int32} (h : RAr I l w i s) (e : ∀ k, k < 2 → J k = I k) : RAr J l w i s := by
  unfold RAr isRow at *
  rw [e 0 (by omega), e 1 (by omega)]
  exact h
theorem rta_congr {I J : IS} {T : Nat} {f : Nat → Nat → Int32} (h : RTa I T f) (e : ∀ k, k < 9 → J k = I k) : RTa J T f :=
  ⟨by rw [e 0 (by omega)]; exact h.1, h.2.1, fun g hg t ht => by rw [e (g + 1) (by omega)]; exact h.2.2 g hg t ht⟩
theorem enAt_congr {I J : IS} (e : ∀ k, k < 6 → J k = I k) (b : Nat) : enAt J b = enAt I b := by
  unfold enAt
  rw [e 1 (by omega), e 2 (by omega), e 3 (by omega), e 4 (by omega)]
theorem rtr_congr {I J : IS} {t : List EN} (h : RTr I t) (e : ∀ k, k < 6 → J k = I k) : RTr J t := by
  obtain ⟨old, h1, h2, h3, h4, h5⟩ := h
  exact ⟨old, h1, by rw [e 0 (by omega)]; exact h2, by rw [e 0 (by omega)]; exact h3, h4, fun k hk => by rw [enAt_congr e]; exact h5 k hk⟩
theorem rwa_congr {I J : IS} {t : List Int32} (h : RWa I t) (e : ∀ k, k < 6 → J k = I k) : RWa J t :=
  ⟨by rw [e 0 (by omega)]; exact h.1, fun k hk => by rw [e 5 (by omega)]; exact h.2 k hk⟩
theorem rpr_congr {n : Nat} {I J : IS} {t : List (Int32 × Int32)} (h : RPr n I t) (e : ∀ k, k < 3 → J k = I k) : RPr n J t :=
  ⟨by rw [e 0 (by omega)]; exact h.1, h.2.1, fun k hk => by rw [e 1 (by omega), e 2 (by omega)]; exact h.2.2 k hk⟩
/-- tasks change -/
theorem rwo_tas {I J : IS} {s : SP} (h : RWo I s) {x : Nat → Nat → Int32} {T : Nat} (hT : RTa (zI 10 J) T x) (e : ∀ k, k < 10 ∨ 19 ≤ k → J k = I k) : RWo J (wT (wTf s x) T) := by
  obtain ⟨h1, h2, h3, h4, h5, h6, h7, h8, h9, h10⟩ := h
  refine ⟨fun a ha => rar_congr (h1 a ha) (fun k hk => e _ (Or.inl ?_)), hT, rtr_congr h3 (fun k hk => e _ (Or.inr (by omega))), rwa_congr h4 (fun k hk => e _ (Or.inr (by omega))), by rw [e 0 (by omega)]; exact h5, by rw [e 0 (by omega)]; exact h6, by rw [e 0 (by omega)]; exact h7, rpr_congr h8 (fun k hk => e _ (Or.inr (by omega))), rpr_congr h9 (fun k hk => e _ (Or.inr (by omega))), rpr_congr h10 (fun k hk => e _ (Or.inr (by omega)))⟩
  have := gArm_rng a
  omega
theorem rwo_gtas {I q : IS} {s : SP} (h : RWo I s) {x : Nat → Nat → Int32} (hT : RTa q (nT s) x) : RWo (gI 10 9 q I) (wTf s x) :=
  rwo_tas (T := nT s) h (rta_congr hT (fun k hk => gI_in hk)) (fun k hk => gI_out (by omega))
theorem rwo_u2t {I : IS} {s : SP} (h : RWo I s) {f : Nat} (hf : f < 7) (t : Nat) (v : Int32) : RWo (u2 I (11 + f) t v) (wTf s (u2 (tf s) f t v)) := by
  refine rwo_tas (T := nT s) h ?_ (fun k hk => u2_oth I t v (by omega))
  have e : zI 10 (u2 I (11 + f) t v) = u2 (zI 10 I) (f + 1) t v := by
    funext i b
    rw [zI_ap, u2_ap, u2_ap, zI_ap]
    by_cases hc : i = f + 1 ∧ b = t
    · rw [if_pos hc, if_pos ⟨by omega, hc.2⟩]
    · rw [if_neg hc, if_neg (fun q => hc ⟨by omega, q.2⟩)]
  rw [e]
  exact rta_u2 h.2.1 v
/-- the trace changes -/
theorem rwo_ent {I q : IS} {s : SP} (h : RWo I s) {x : List EN} {y : List Int32} (h1' : RTr q x) (h2' : RWa q y) : RWo (gI 19 6 q I) (wTr s x y) := by
  obtain ⟨h1, h2, h3, h4, h5, h6, h7, h8, h9, h10⟩ := h
  have e : ∀ k, k < 19 ∨ 25 ≤ k → gI 19 6 q I k = I k := fun k hk => gI_out (by omega)
  refine ⟨fun a ha => rar_congr (h1 a ha) (fun k hk => e _ (Or.inl ?_)), rta_congr h2 (fun k hk => e _ (Or.inl (by omega))), rtr_congr h1' (fun k hk => gI_in hk), rwa_congr h2' (fun k hk => gI_in hk), by rw [e 0 (by omega)]; exact h5, by rw [e 0 (by omega)]; exact h6, by rw [e 0 (by omega)]; exact h7, rpr_congr h8 (fun k hk => e _ (Or.inr (by omega))), rpr_congr h9 (fun k hk => e _ (Or.inr (by omega))), rpr_congr h10 (fun k hk => e _ (Or.inr (by omega)))⟩
  have := gArm_rng a
  omega
/-- an arm changes -/
def uA (s : SP) (a : Nat) (l : List Int32) (w i t : Int32) : SP := wAf (wRw s (va_up (rw_ s) a l)) (fun f b => if b = a then (if f = 0 then w else if f = 1 then i else if f = 2 then t else af s f b) else af s f b)
theorem uA_rs (s : SP) (a : Nat) (l : List Int32) (w i t : Int32) : rw_ (uA s a l w i t) a = l := if_pos rfl
theorem uA_ro (s : SP) {a b : Nat} (l : List Int32) (w i t : Int32) (h : b ≠ a) : rw_ (uA s a l w i t) b = rw_ s b := if_neg h
theorem uA_a0 (s : SP) (a : Nat) (l : List Int32) (w i t : Int32) : af (uA s a l w i t) 0 a = w := if_pos rfl
theorem uA_a1 (s : SP) (a : Nat) (l : List Int32) (w i t : Int32) : af (uA s a l w i t) 1 a = i := if_pos rfl
theorem uA_a2 (s : SP) (a : Nat) (l : List Int32) (w i t : Int32) : af (uA s a l w i t) 2 a = t := if_pos rfl
theorem uA_ao (s : SP) {a b : Nat} (l : List Int32) (w i t : Int32) (f : Nat) (h : b ≠ a) : af (uA s a l w i t) f b = af s f b := if_neg h
theorem rwo_arm {I J : IS} {s : SP} (h : RWo I s) {a : Nat} (ha : a < 4) {l : List Int32} {w i t : Int32} (hq : RAr (zI (gArm a) J) l w i t) (e : ∀ k, k < gArm a ∨ gArm a + 2 ≤ k → J k = I k) : RWo J (uA s a l w i t) := by
  obtain ⟨h1, h2, h3, h4, h5, h6, h7, h8, h9, h10⟩ := h
  have hr := gArm_rng a
  refine ⟨fun b hb => ?_, rta_congr h2 (fun k hk => e _ (Or.inr (by omega))), rtr_congr h3 (fun k hk => e _ (Or.inr (by omega))), rwa_congr h4 (fun k hk => e _ (Or.inr (by omega))), by rw [e 0 (by omega)]; exact h5, by rw [e 0 (by omega)]; exact h6, by rw [e 0 (by omega)]; exact h7, rpr_congr h8 (fun k hk => e _ (Or.inr (by omega))), rpr_congr h9 (fun k hk => e _ (Or.inr (by omega))), rpr_congr h10 (fun k hk => e _ (Or.inr (by omega)))⟩
  by_cases hba : b = a
  · subst hba
    rw [uA_rs, uA_a0, uA_a1, uA_a2]
    exact hq
  · rw [uA_ro _ _ _ _ _ hba, uA_ao _ _ _ _ _ _ hba, uA_ao _ _ _ _ _ _ hba, uA_ao _ _ _ _ _ _ hba]
    refine rar_congr (h1 b hb) (fun k hk => e _ ?_)
    rw [gArm_eq ha, gArm_eq hb]
    omega
theorem rwo_garm {I q : IS} {s : SP} (h : RWo I s) {a : Nat} (ha : a < 4) {l : List Int32} {w i t : Int32} (hq : RAr q l w i t) : RWo (gI (gArm a) 2 q I) (uA s a l w i t) :=
  rwo_arm h ha (rar_congr hq (fun k hk => gI_in hk)) (fun k hk => gI_out hk)
theorem zI_u2 {e i k : Nat} {I : IS} {v : Int32} : zI e (u2 I (e + i) k v) = u2 (zI e I) i k v := by
  funext j b
  rw [zI_ap, u2_ap, u2_ap, zI_ap]
  by_cases hc : j = i ∧ b = k
  · rw [if_pos hc, if_pos ⟨by omega, hc.2⟩]
  · rw [if_neg hc, if_neg (fun q => hc ⟨by omega, q.2⟩)]
theorem rwo_u2w {I : IS} {s : SP} (h : RWo I s) {a : Nat} (ha : a < 4) (v : Int32) : RWo (u2 I (gArm a) 2 v) (uA s a (rw_ s a) v (af s 1 a) (af s 2 a)) := by
  refine rwo_arm h ha ?_ (fun k hk => u2_oth I 2 v (by omega))
  have e : zI (gArm a) (u2 I (gArm a) 2 v) = u2 (zI (gArm a) I) 0 2 v := zI_u2 (i := 0)
  rw [e]
  obtain ⟨g1, g2, g3, g4⟩ := h.1 a ha
  exact ⟨⟨by simpa [u2_ap] using g1.1, g1.2.1, fun k hk => by rw [g1.2.2 k hk]; simp [u2_ap]⟩, by simp [u2_ap], by simpa [u2_ap] using g3, by simpa [u2_ap] using g4⟩
theorem rwo_u2i {I : IS} {s : SP} (h : RWo I s) {a : Nat} (ha : a < 4) (v : Int32) : RWo (u2 I (gArm a) 3 v) (uA s a (rw_ s a) (af s 0 a) v (af s 2 a)) := by
  refine rwo_arm h ha ?_ (fun k hk => u2_oth I 3 v (by omega))
  have e : zI (gArm a) (u2 I (gArm a) 3 v) = u2 (zI (gArm a) I) 0 3 v := zI_u2 (i := 0)
  rw [e]
  obtain ⟨g1, g2, g3, g4⟩ := h.1 a ha
  exact ⟨⟨by simpa [u2_ap] using g1.1, g1.2.1, fun k hk => by rw [g1.2.2 k hk]; simp [u2_ap]⟩, by simpa [u2_ap] using g2, by simp [u2_ap], by simpa [u2_ap] using g4⟩
theorem rwo_u2s {I : IS} {s : SP} (h : RWo I s) {a : Nat} (ha : a < 4) (v : Int32) : RWo (u2 I (gArm a) 4 v) (uA s a (rw_ s a) (af s 0 a) (af s 1 a) v) := by
  refine rwo_arm h ha ?_ (fun k hk => u2_oth I 4 v (by omega))
  have e : zI (gArm a) (u2 I (gArm a) 4 v) = u2 (zI (gArm a) I) 0 4 v := zI_u2 (i := 0)
  rw [e]
  obtain ⟨g1, g2, g3, g4⟩ := h.1 a ha
  exact ⟨⟨by simpa [u2_ap] using g1.1, g1.2.1, fun k hk => by rw [g1.2.2 k hk]; simp [u2_ap]⟩, by simpa [u2_ap] using g2, by simpa [u2_ap] using g3, by simp [u2_ap]⟩
theorem rwo_u20 {I : IS} {s s' : SP} (h : RWo I s) (k : Nat) (v : Int32) (h5 : u2 I 0 k v 0 6 = nI (na s')) (h6 : u2 I 0 k v 0 7 = sd s') (h7 : u2 I 0 k v 0 8 = rd s') (e1 : nT s' = nT s) (e2 : tf s' = tf s) (e3 : af s' = af s) (e4 : rw_ s' = rw_ s) (e5 : tr_ s' = tr_ s) (e6 : lg s' = lg s) (e7 : tol s' = tol s) : RWo (u2 I 0 k v) s' := by
  obtain ⟨h1, h2, h3, h4, -, -, -, h8, h9, h10⟩ := h
  have e : ∀ j, 1 ≤ j → u2 I 0 k v j = I j := fun j hj => u2_oth I k v (by omega)
  unfold RWo
  rw [e1, e2, e3, e4, e5, e6, e7]
  refine ⟨fun a ha => rar_congr (h1 a ha) (fun j hj => e _ ?_), rta_congr h2 (fun j hj => e _ (by omega)), rtr_congr h3 (fun j hj => e _ (by omega)), rwa_congr h4 (fun j hj => e _ (by omega)), h5, h6, h7, rpr_congr h8 (fun j hj => e _ (by omega)), rpr_congr h9 (fun j hj => e _ (by omega)), rpr_congr h10 (fun j hj => e _ (by omega))⟩
  have := gArm_rng a
  omega
theorem rwo_sd {I : IS} {s : SP} (h : RWo I s) (v : Int32) : RWo (u2 I 0 7 v) (wSd s v) := rwo_u20 h 7 v (by rw [u2_ne _ _ (Or.inr (by omega))]; exact h.2.2.2.2.1) (u2_eq _ _ _ _) (by rw [u2_ne _ _ (Or.inr (by omega))]; exact h.2.2.2.2.2.2.1) rfl rfl rfl rfl rfl rfl rfl
theorem rwo_rd {I : IS} {s : SP} (h : RWo I s) (v : Int32) : RWo (u2 I 0 8 v) (wRd s v) := rwo_u20 h 8 v (by rw [u2_ne _ _ (Or.inr (by omega))]; exact h.2.2.2.2.1) (by rw [u2_ne _ _ (Or.inr (by omega))]; exact h.2.2.2.2.2.1) (u2_eq _ _ _ _) rfl rfl rfl rfl rfl rfl rfl
theorem rwo_na {I : IS} {s : SP} (h : RWo I s) (n : Nat) : RWo (u2 I 0 6 (nI n)) (wNa s n) := rwo_u20 h 6 _ (u2_eq _ _ _ _) (by rw [u2_ne _ _ (Or.inr (by omega))]; exact h.2.2.2.2.2.1) (by rw [u2_ne _ _ (Or.inr (by omega))]; exact h.2.2.2.2.2.2.1) rfl rfl rfl rfl rfl rfl rfl
/-! the steps, on the state -/
def eEnt (s : SP) (a k t : Int32) : SP := wTr s (trAdd (tr_ s) (rd s, a, k, t)) (lg s ++ [t])
def eSet (s : SP) (f t : Nat) (v : Int32) : SP := wTf s (u2 (tf s) f t v)
/-- out of the row of an arm, and no longer at work on it -/
def dA (s : SP) (x : Int32) (a : Nat) : SP := uA s a ((rw_ s a).filter (fun y => y != x)) (if af s 0 a = x then -5 else af s 0 a) (af s 1 a) (af s 2 a)
def dAll (s : SP) (x : Int32) : Nat → SP
  | 0 => s
  | n + 1 => dA (dAll s x n) x n
def eDrop (s : SP) (x : Int32) : SP := dAll s x (na s)
def eCan (s : SP) (t : Nat) : SP := eEnt (eSet (eDrop s (nI t)) 3 t 5) (-5) 5 (nI t)
def eCl (P : Nat → Bool) (s : SP) : Nat → Nat × SP
  | 0 => (0, s)
  | n + 1 => if P n = true ∧ tf (eCl P s n).2 3 n < 3 then ((eCl P s n).1 + 1, eCan (eCl P s n).2 n) else eCl P s n
theorem rwo_eEnt {I : IS} {s : SP} (h : RWo I s) (a k t : Int32) : ∃ q, f_X1_add (I 0 8) a k t (zI 19 I) = some q ∧ RWo (gI 19 6 q I) (eEnt s a k t) := by
  obtain ⟨q, h1, h2, h3⟩ := ent_add h.2.2.1 h.2.2.2.1 (I 0 8) a k t
  refine ⟨q, h1, ?_⟩
  rw [h.2.2.2.2.2.2.1] at h2
  exact rwo_ent h h2 h3
theorem rwo_eSet {I : IS} {s : SP} (h : RWo I s) {f : Nat} (hf : f < 7) (t : Nat) (v : Int32) : RWo (u2 I (11 + f) t v) (eSet s f t v) := rwo_u2t h hf t v
theorem rwo_dA {I : IS} {s : SP} (h : RWo I s) {a : Nat} (ha : a < 4) (x : Int32) : ∃ q, f_X0_drop x (zI (gArm a) I) = some q ∧ RWo (gI (gArm a) 2 q I) (dA s x a) := by
  obtain ⟨q, h1, h2⟩ := arm_drop (h.1 a ha) x
  exact ⟨q, h1, rwo_garm h ha h2⟩
