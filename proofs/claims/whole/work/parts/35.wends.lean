/-! ===== the World: what becomes of a task that has no work left ===== -/
def kids (s : SP) (t : Nat) : Nat → List Int32
  | 0 => []
  | k + 1 => if tf s 4 k = nI t ∧ tf s 3 k < 3 then kids s t k ++ [nI k] else kids s t k
theorem kids_mem (s : SP) (t : Nat) : ∀ (n : Nat) (x : Int32), x ∈ kids s t n → ∃ k, k < n ∧ x = nI k ∧ tf s 4 k = nI t ∧ tf s 3 k < 3 := by
  intro n
  induction n with
  | zero => intro x h; cases h
  | succ n ih =>
    intro x h
    unfold kids at h
    by_cases c : tf s 4 n = nI t ∧ tf s 3 n < 3
    · rw [if_pos c] at h
      rcases List.mem_append.mp h with h | h
      · obtain ⟨k, h1, h2⟩ := ih x h
        exact ⟨k, by omega, h2⟩
      · exact ⟨n, by omega, List.mem_singleton.mp h, c⟩
    · rw [if_neg c] at h
      obtain ⟨k, h1, h2⟩ := ih x h
      exact ⟨k, by omega, h2⟩
theorem kids_nodup (s : SP) (t : Nat) : ∀ n, n ≤ 32 → (kids s t n).Nodup := by
  intro n
  induction n with
  | zero => intro _; exact List.nodup_nil
  | succ n ih =>
    intro hn
    unfold kids
    by_cases c : tf s 4 n = nI t ∧ tf s 3 n < 3
    · rw [if_pos c]
      refine List.nodup_append.mpr ⟨ih (by omega), List.nodup_cons.mpr ⟨(by intro h; cases h), List.nodup_nil⟩, ?_⟩
      intro x hx y hy hxy
      obtain ⟨k, h1, h2, -⟩ := kids_mem s t n x hx
      rw [List.mem_singleton.mp hy, h2] at hxy
      have := (nI_eq (by omega) (by omega)).mp hxy
      omega
    · rw [if_neg c]
      exact ih (by omega)
theorem kids_low {s : SP} (hw : WFp (nT s) (tf s)) (hT : nT s ≤ 32) {t : Nat} (ht : t < nT s) : ∀ n, n ≤ t + 1 → kids s t n = [] := by
  intro n
  induction n with
  | zero => intro _; rfl
  | succ n ih =>
    intro hn
    unfold kids
    rw [if_neg (fun q => by
      have := wfp_lt hw (t := n) (by omega) hT (p := t) (by omega) q.1
      omega)]
    exact ih (by omega)
theorem uA_uA (s : SP) (a : Nat) (l l' : List Int32) (w i t w' i' t' : Int32) : uA (uA s a l w i t) a l' w' i' t' = uA s a l' w' i' t' := by
  have e1 : va_up (va_up (rw_ s) a l) a l' = va_up (rw_ s) a l' := by
    funext b
    by_cases h : b = a
    · subst h
      exact (if_pos rfl).trans (if_pos rfl).symm
    · exact (if_neg h).trans ((if_neg h).trans (if_neg h).symm)
  have e2 : (fun f b => if b = a then (if f = 0 then w' else if f = 1 then i' else if f = 2 then t' else af (uA s a l w i t) f b) else af (uA s a l w i t) f b) = (fun f b => if b = a then (if f = 0 then w' else if f = 1 then i' else if f = 2 then t' else af s f b) else af s f b) := by
    funext f b
    by_cases h : b = a
    · rw [if_pos h, if_pos h]
      by_cases h0 : f = 0
      · rw [if_pos h0, if_pos h0]
      · rw [if_neg h0, if_neg h0]
        by_cases h1 : f = 1
        · rw [if_pos h1, if_pos h1]
        · rw [if_neg h1, if_neg h1]
          by_cases h2 : f = 2
          · rw [if_pos h2, if_pos h2]
          · rw [if_neg h2, if_neg h2]
            show (if b = a then (if f = 0 then w else if f = 1 then i else if f = 2 then t else af s f b) else af s f b) = _
            rw [if_pos h, if_neg h0, if_neg h1, if_neg h2]
    · rw [if_neg h, if_neg h]
      exact if_neg h
  have e3 : uA (uA s a l w i t) a l' w' i' t' = wAf (wRw s (va_up (va_up (rw_ s) a l) a l')) (fun f b => if b = a then (if f = 0 then w' else if f = 1 then i' else if f = 2 then t' else af (uA s a l w i t) f b) else af (uA s a l w i t) f b) := rfl
  rw [e3, e1, e2]
  rfl
def eFk (s : SP) (t a n : Nat) : SP := uA s a (rw_ s a ++ kids s t n) (af s 0 a) (af s 1 a) (af s 2 a)
theorem wor_fork {I : IS} {s : SP} (h : RWo I s) (hw : WFp (nT s) (tf s)) {t a : Nat} (ht : t < nT s) (ha : a < 4) (r1 : (rw_ s a).Nodup) (r2 : ∀ x ∈ rw_ s a, ∃ t, t < nT s ∧ x = nI t) (r3 : ∀ k, k < nT s → tf s 4 k = nI t → nI k ∉ rw_ s a) : ∃ J, f_X6_endsByItself_b88 LF (nI t) (nI a) (nI t + 1) I = some (0, J) ∧ RWo J (eFk s t a (nT s)) := by
  have hT : nT s ≤ 32 := h.2.1.2.1
  have ca : okI (nI a) 4 = true := okI_nI (by omega) (by omega)
  have key := loop_inv (fun fu j (I : IS) => f_X6_endsByItself_b88 fu (nI t) (nI a) (nI j) I) (nT s) (fun j I => RWo I (eFk s t a j)) (fun r => ∃ J, r = (0, J) ∧ RWo J (eFk s t a (nT s))) (fun fu I hI => by
    have c : nI (nT s) ≤ nI (nT s) := (nI_leI (by omega) (by omega)).mpr (Nat.le_refl _)
    have e8 : I 10 8 = nI (nT s) := hI.2.1.1
    refine ⟨(0, I), ?_, I, rfl, hI⟩
    show f_X6_endsByItself_b88 (fu + 1) (nI t) (nI a) (nI (nT s)) I = _
    rw [f_X6_endsByItself_b88, e8, if_pos c]) (fun fu j I hj hI => by
    have c1 : ¬ nI (nT s) ≤ nI j := nI_ge hj (by omega)
    have c2 : okI (nI j) 32 = true := okI_nI (by omega) (by omega)
    have e8 : I 10 8 = nI (nT s) := hI.2.1.1
    have e15 : I 15 j = tf s 4 j := rta_get hI.2.1 (t := j) hj 4 (by omega)
    have eE := tas_isEnded hI.2.1 (t := j) hj
    have et : tf (eFk s t a j) = tf s := rfl
    rw [et] at eE
    have ek : kids s t (j + 1) = if tf s 4 j = nI t ∧ tf s 3 j < 3 then kids s t j ++ [nI j] else kids s t j := rfl
    show ∃ I', _ ∧ f_X6_endsByItself_b88 (fu + 1) (nI t) (nI a) (nI j) I = f_X6_endsByItself_b88 fu (nI t) (nI a) (nI (j + 1)) I'
    by_cases h4 : tf s 4 j = nI t
    · by_cases h3 : tf s 3 j < 3
      · have hA := hI.1 a ha
        have e1 : rw_ (eFk s t a j) a = rw_ s a ++ kids s t j := uA_rs _ _ _ _ _ _
        rw [e1] at hA
        have hlen : (rw_ s a ++ kids s t j).length < 32 := by
          have hk : nI j ∉ rw_ s a ++ kids s t j := by
            intro hm
            rcases List.mem_append.mp hm with hm | hm
            · exact r3 j hj h4 hm
            · obtain ⟨k, h1, h2, -⟩ := kids_mem s t j _ hm
              have := (nI_eq (by omega) (by omega)).mp h2
              omega
          have := nodup_lt (T := nT s) (l := rw_ s a ++ kids s t j) (List.nodup_append.mpr ⟨r1, kids_nodup s t j (by omega), fun x hx y hy hxy => by
            obtain ⟨k, h1, h2, h5, -⟩ := kids_mem s t j y hy
            rw [hxy, h2] at hx
            exact r3 k (by omega) h5 hx⟩) (fun x hx => by
            rcases List.mem_append.mp hx with hx | hx
            · exact r2 x hx
            · obtain ⟨k, h1, h2, -⟩ := kids_mem s t j x hx
              exact ⟨k, by omega, h2⟩) hj hk
          omega
        obtain ⟨q, p1, p2⟩ := arm_put hA hlen (nI j)
        have g := rwo_garm hI ha p2
        refine ⟨gI (gArm a) 2 q I, ?_, ?_⟩
        · unfold eFk at g ⊢
          rw [uA_uA] at g
          rw [ek, if_pos ⟨h4, h3⟩, ← List.append_assoc]
          rw [uA_a0, uA_a1, uA_a2] at g
          exact g
        · rw [f_X6_endsByItself_b88, e8, if_neg c1, if_pos c2, nI_clamp (by omega), e15, if_pos h4, eE, if_pos h3, some_bind, if_pos rfl, if_pos ca, nI_clamp (by omega), p1, some_bind, f_X6_endsByItself_b133, nI_1]
      · refine ⟨I, ?_, ?_⟩
        · unfold eFk
          rw [ek, if_neg (fun q => h3 q.2)]
          exact hI
        · have c0 : ¬ (1 : Int32) = 0 := by decide
          rw [f_X6_endsByItself_b88, e8, if_neg c1, if_pos c2, nI_clamp (by omega), e15, if_pos h4, eE, if_neg h3, some_bind, if_neg c0, f_X6_endsByItself_b133, nI_1]
    · refine ⟨I, ?_, ?_⟩
      · unfold eFk
        rw [ek, if_neg (fun q => h4 q.1)]
        exact hI
      · rw [f_X6_endsByItself_b88, e8, if_neg c1, if_pos c2, nI_clamp (by omega), e15, if_neg h4, f_X6_endsByItself_b133, nI_1]) (nT s - (t + 1)) (t + 1) LF I (by omega) (by unfold LF; omega) (by
    show RWo I (eFk s t a (t + 1))
    unfold eFk
    rw [kids_low hw hT ht _ (Nat.le_refl _), List.append_nil, uA_self]
    exact h)
  obtain ⟨r, k1, J, k2, k3⟩ := key
  refine ⟨J, ?_, k3⟩
  rw [nI_1, ← k2]
  exact k1
