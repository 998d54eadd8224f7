/-! ===== what holds of the state in every run ===== -/
/-- forked: a root, or in one that is joining; but those of E -/
def upE (E : Nat → Prop) (s : SP) (t : Nat) : Prop := E t ∨ ∀ p, prn (tf s) t = some p → tf s 3 p = 2
def WRow (E : Nat → Prop) (s : SP) : Prop := (∀ a, (rw_ s a).Nodup) ∧ (∀ a b x, x ∈ rw_ s a → x ∈ rw_ s b → a = b) ∧ (∀ a x, x ∈ rw_ s a → ∃ t, t < nT s ∧ x = nI t ∧ tf s 3 t = 0 ∧ upE E s t)
def WArm (s : SP) : Prop := (∀ a, af s 0 a = -5 ∨ ∃ t, t < nT s ∧ af s 0 a = nI t ∧ tf s 3 t = 1) ∧ (∀ a b, af s 0 a = af s 0 b → af s 0 a ≠ -5 → a = b) ∧ (∀ t, t < nT s → tf s 3 t = 1 → ∃ a, a < na s ∧ af s 0 a = nI t) ∧ (∀ a, na s ≤ a → rw_ s a = [] ∧ af s 0 a = -5 ∧ af s 1 a = 0 ∧ af s 2 a = 0)
def WTsk (E : Nat → Prop) (s : SP) : Prop := WFp (nT s) (tf s) ∧ WFd (nT s) (tf s) ∧ (∀ t, t < nT s → tf s 3 t = 0 ∨ tf s 3 t = 1 ∨ tf s 3 t = 2 ∨ tf s 3 t = 3 ∨ tf s 3 t = 4 ∨ tf s 3 t = 5) ∧ (∀ t, t < nT s → tf s 3 t = 1 ∨ tf s 3 t = 2 → upE E s t)
def WCau (s : SP) : Prop := ∀ t, t < nT s → (tf s 6 t = -5 ∨ (tf s 3 t = 4 ∧ ∃ c, c < nT s ∧ t < c ∧ tf s 6 t = nI c))
/-- worths stay small: by how deep a task lies -/
def pow33 : Nat → Nat
  | 0 => 1
  | k + 1 => 33 * pow33 k
def WWor (s : SP) : Prop := ∀ t, t < nT s → (∃ w, 1 ≤ w ∧ w ≤ 9 ∧ tf s 0 t = nI w) ∧ ∃ w, tf s 2 t = nI w ∧ ∀ k q, anc (tf s) k t = some q → w ≤ 9 * pow33 (4 - k)
def WTol (s : SP) : Prop := (∀ q ∈ (tol s).1, (∃ t, t < nT s ∧ q.1 = nI t) ∧ ∃ k, k < 40 ∧ q.2 = nI k) ∧ (∀ q ∈ (tol s).2.1, q.1 = 0 ∨ (q.1 = 1 ∧ ∃ t, t < nT s ∧ q.2 = nI t) ∨ q.1 = 2) ∧ (∀ q ∈ (tol s).2.2, ∃ t, t < nT s ∧ q.1 = nI t)
def WNum (s : SP) : Prop := 1 ≤ na s ∧ na s ≤ 4 ∧ nT s ≤ 32
def WFx (E : Nat → Prop) (s : SP) : Prop := WNum s ∧ WRow E s ∧ WArm s ∧ WTsk E s ∧ WCau s ∧ WWor s ∧ WTol s
def WF (s : SP) : Prop := WFx (fun _ => False) s
theorem wf_num {E : Nat → Prop} {s : SP} (h : WFx E s) : WNum s := h.1
theorem wf_row {E : Nat → Prop} {s : SP} (h : WFx E s) : WRow E s := h.2.1
theorem wf_arm {E : Nat → Prop} {s : SP} (h : WFx E s) : WArm s := h.2.2.1
theorem wf_tsk {E : Nat → Prop} {s : SP} (h : WFx E s) : WTsk E s := h.2.2.2.1
theorem wf_p {E : Nat → Prop} {s : SP} (h : WFx E s) : WFp (nT s) (tf s) := h.2.2.2.1.1
theorem wf_d {E : Nat → Prop} {s : SP} (h : WFx E s) : WFd (nT s) (tf s) := h.2.2.2.1.2.1
/-- a row of tasks that are apart has no more than there are -/
theorem nodup_len : ∀ (T : Nat) (l : List Int32), l.Nodup → (∀ x ∈ l, ∃ t, t < T ∧ x = nI t) → l.length ≤ T := by
  intro T
  induction T with
  | zero =>
    intro l _ h
    cases l with
    | nil => exact Nat.le_refl _
    | cons x l =>
      obtain ⟨t, ht, -⟩ := h x List.mem_cons_self
      omega
  | succ T ih =>
    intro l hn h
    have h1 := ih (l.filter (fun y => y != nI T)) (hn.filter _) (fun x hx => by
      obtain ⟨hx1, hx2⟩ := List.mem_filter.mp hx
      obtain ⟨t, ht, e⟩ := h x hx1
      refine ⟨t, ?_, e⟩
      have : t ≠ T := fun q => by
        subst q
        simp [e] at hx2
      omega)
    have h2 : l.length ≤ (l.filter (fun y => y != nI T)).length + 1 := by
      have : ∀ (l : List Int32), l.Nodup → l.length ≤ (l.filter (fun y => y != nI T)).length + 1 := by
        intro l
        induction l with
        | nil => intro _; simp
        | cons x l ihl =>
          intro hn
          obtain ⟨hx, hl⟩ := List.nodup_cons.mp hn
          by_cases hxT : x = nI T
          · have e : (x :: l).filter (fun y => y != nI T) = l := by
              rw [List.filter_cons]
              simp only [hxT, bne_self_eq_false, Bool.false_eq_true, if_false]
              refine List.filter_eq_self.mpr (fun y hy => ?_)
              have : y ≠ nI T := fun q => hx (by rw [hxT, ← q]; exact hy)
              simp [this]
            rw [e]
            simp
          · have e : (x :: l).filter (fun y => y != nI T) = x :: l.filter (fun y => y != nI T) := by
              rw [List.filter_cons]
              simp [hxT]
            rw [e, List.length_cons, List.length_cons]
            have := ihl hl
            omega
      exact this l hn
    omega
theorem nodup_lt {T : Nat} {l : List Int32} (hn : l.Nodup) (h : ∀ x ∈ l, ∃ t, t < T ∧ x = nI t) {k : Nat} (hk : k < T) (hkl : nI k ∉ l) : l.length < T := by
  have := nodup_len T (nI k :: l) (List.nodup_cons.mpr ⟨hkl, hn⟩) (fun x hx => by
    rcases List.mem_cons.mp hx with rfl | hx
    · exact ⟨k, hk, rfl⟩
    · exact h x hx)
  rw [List.length_cons] at this
  omega
theorem wf_rowlen {E : Nat → Prop} {s : SP} (h : WFx E s) (a : Nat) : (rw_ s a).length ≤ nT s := nodup_len _ _ (h.2.1.1 a) (fun x hx => by
  obtain ⟨t, ht, e, -⟩ := h.2.1.2.2 a x hx
  exact ⟨t, ht, e⟩)
theorem wf_rowne {E : Nat → Prop} {s : SP} (h : WFx E s) (a : Nat) : ∀ y ∈ rw_ s a, y ≠ -5 := fun y hy => by
  obtain ⟨t, ht, e, -⟩ := h.2.1.2.2 a y hy
  rw [e]
  have := h.1.2.2
  exact m5_ne (by omega)
