/-! ===== what holds of the state is kept: cancels ===== -/
theorem dAll_rw (s : SP) (x : Int32) : ∀ n a, rw_ (dAll s x n) a = if a < n then (rw_ s a).filter (fun y => y != x) else rw_ s a := by
  intro n
  induction n with
  | zero => intro a; rw [if_neg (Nat.not_lt_zero a)]; rfl
  | succ n ih =>
    intro a
    by_cases h : a = n
    · subst h
      rw [if_pos (Nat.lt_succ_self a)]
      show rw_ (dA (dAll s x a) x a) a = _
      unfold dA
      rw [uA_rs, ih, if_neg (Nat.lt_irrefl a)]
    · show rw_ (dA (dAll s x n) x n) a = _
      unfold dA
      rw [uA_ro _ _ _ _ _ h, ih]
      by_cases h2 : a < n
      · rw [if_pos h2, if_pos (by omega)]
      · rw [if_neg h2, if_neg (by omega)]
theorem dAll_a0 (s : SP) (x : Int32) : ∀ n a, af (dAll s x n) 0 a = if a < n ∧ af s 0 a = x then -5 else af s 0 a := by
  intro n
  induction n with
  | zero => intro a; rw [if_neg (fun q => Nat.not_lt_zero a q.1)]; rfl
  | succ n ih =>
    intro a
    by_cases h : a = n
    · subst h
      show af (dA (dAll s x a) x a) 0 a = _
      unfold dA
      have c0 : ¬ (a < a ∧ af s 0 a = x) := fun q => Nat.lt_irrefl a q.1
      rw [uA_a0, ih, if_neg c0]
      by_cases h2 : af s 0 a = x
      · rw [if_pos h2, if_pos ⟨Nat.lt_succ_self a, h2⟩]
      · rw [if_neg h2, if_neg (fun q => h2 q.2)]
    · show af (dA (dAll s x n) x n) 0 a = _
      unfold dA
      rw [uA_ao _ _ _ _ _ _ h, ih]
      by_cases h2 : a < n ∧ af s 0 a = x
      · rw [if_pos h2, if_pos ⟨by omega, h2.2⟩]
      · rw [if_neg h2, if_neg (fun q => h2 ⟨by omega, q.2⟩)]
theorem dAll_af (s : SP) (x : Int32) : ∀ n f a, f ≠ 0 → af (dAll s x n) f a = af s f a := by
  intro n
  induction n with
  | zero => intro f a _; rfl
  | succ n ih =>
    intro f a hf
    rw [← ih f a hf]
    show af (dA (dAll s x n) x n) f a = af (dAll s x n) f a
    unfold dA
    by_cases h : a = n
    · subst h
      by_cases h1 : f = 1
      · subst h1; rw [uA_a1]
      · by_cases h2 : f = 2
        · subst h2; rw [uA_a2]
        · show (if a = a then (if f = 0 then _ else if f = 1 then _ else if f = 2 then _ else af (dAll s x a) f a) else _) = _
          rw [if_pos rfl, if_neg hf, if_neg h1, if_neg h2]
    · rw [uA_ao _ _ _ _ _ _ h]
theorem drop_rw {s : SP} (hA : WArm s) (x : Int32) (a : Nat) : rw_ (eDrop s x) a = (rw_ s a).filter (fun y => y != x) := by
  unfold eDrop
  rw [dAll_rw]
  by_cases h : a < na s
  · rw [if_pos h]
  · rw [if_neg h, (hA.2.2.2 a (by omega)).1]
    rfl
theorem drop_a0 {s : SP} (hA : WArm s) (x : Int32) (a : Nat) : af (eDrop s x) 0 a = if af s 0 a = x then -5 else af s 0 a := by
  unfold eDrop
  rw [dAll_a0]
  by_cases h : a < na s
  · by_cases h2 : af s 0 a = x
    · rw [if_pos ⟨h, h2⟩, if_pos h2]
    · rw [if_neg (fun q => h2 q.2), if_neg h2]
  · rw [if_neg (fun q => h q.1), (hA.2.2.2 a (by omega)).2.1]
    by_cases h2 : (-5 : Int32) = x
    · rw [if_pos h2]
    · rw [if_neg h2]
theorem upE_weak {E E' : Nat → Prop} {s : SP} {t : Nat} (h : E t → E' t) (hu : upE E s t) : upE E' s t := hu.elim (fun q => Or.inl (h q)) Or.inr
theorem st0_lt {x : Int32} (h : x = 0) : x < 3 := by rw [h]; decide
theorem st1_lt {x : Int32} (h : x = 1) : x < 3 := by rw [h]; decide
theorem st2_lt {x : Int32} (h : x = 2) : x < 3 := by rw [h]; decide
theorem wfx_weak {E E' : Nat → Prop} {s : SP} (h : WFx E s) (he : ∀ x, x < nT s → tf s 3 x < 3 → E x → E' x) : WFx E' s := by
  obtain ⟨h1, ⟨r1, r2, r3⟩, h3, ⟨k1, k2, k3, k4⟩, h5, h6, h7⟩ := h
  refine ⟨h1, ⟨r1, r2, fun a x hx => ?_⟩, h3, ⟨k1, k2, k3, fun t ht hs => ?_⟩, h5, h6, h7⟩
  · obtain ⟨t, ht, e, h0, hu⟩ := r3 a x hx
    exact ⟨t, ht, e, h0, upE_weak (he t ht (st0_lt h0)) hu⟩
  · exact upE_weak (he t ht (hs.elim st1_lt st2_lt)) (k4 t ht hs)
theorem eCan_fs (s : SP) (t x : Nat) : tf (eCan s t) 3 x = if x = t then 5 else tf s 3 x := by
  rw [eCan_tf, u2_ap]
  by_cases h : x = t
  · rw [if_pos ⟨rfl, h⟩, if_pos h]
  · rw [if_neg (fun q => h q.2), if_neg h]
theorem eCan_fo (s : SP) (t : Nat) {f : Nat} (h : f ≠ 3) : tf (eCan s t) f = tf s f := by
  rw [eCan_tf, u2_oth _ _ _ h]
theorem nIne {a b : Nat} (ha : a < 2 ^ 31) (hb : b < 2 ^ 31) (h : nI a = nI b) : a = b := (nI_eq ha hb).mp h
theorem wf_can {E : Nat → Prop} {s : SP} (h : WFx E s) {t : Nat} (ht : t < nT s) (h3 : tf s 3 t < 3) : WFx (fun x => (x ≠ t ∧ E x) ∨ prn (tf s) x = some t) (eCan s t) := by
  obtain ⟨h1, ⟨r1, r2, r3⟩, hA, ⟨k1, k2, k3, k4⟩, h5, h6, h7⟩ := h
  have hT : nT s ≤ 32 := h1.2.2
  have eR : ∀ a, rw_ (eCan s t) a = (rw_ s a).filter (fun y => y != nI t) := fun a => drop_rw hA (nI t) a
  have eA : ∀ a, af (eCan s t) 0 a = if af s 0 a = nI t then -5 else af s 0 a := fun a => drop_a0 hA (nI t) a
  have eF : ∀ f a, f ≠ 0 → af (eCan s t) f a = af s f a := fun f a hf => dAll_af s (nI t) (na s) f a hf
  have eT : nT (eCan s t) = nT s := eCan_T s t
  have eN : na (eCan s t) = na s := eCan_na s t
  have eO : tol (eCan s t) = tol s := (dAll_k s (nI t) (na s)).2.2.2.2.2.2.2
  have eP : prn (tf (eCan s t)) = prn (tf s) := prn_congr (eCan_tf4 s t)
  have up' : ∀ x, x ≠ t → upE E s x → upE (fun x => (x ≠ t ∧ E x) ∨ prn (tf s) x = some t) (eCan s t) x := by
    intro x hx hu
    rcases hu with hu | hu
    · exact Or.inl (Or.inl ⟨hx, hu⟩)
    · by_cases hp : prn (tf s) x = some t
      · exact Or.inl (Or.inr hp)
      · refine Or.inr (fun p hpp => ?_)
        rw [eP] at hpp
        have hpt : p ≠ t := fun q => hp (by rw [← q]; exact hpp)
        rw [eCan_fs, if_neg hpt]
        exact hu p hpp
  have mem : ∀ a x, x ∈ rw_ (eCan s t) a → x ∈ rw_ s a ∧ x ≠ nI t := fun a x hx => by
    rw [eR] at hx
    have := List.mem_filter.mp hx
    exact ⟨this.1, by simpa using this.2⟩
  refine ⟨by unfold WNum; rw [eT, eN]; exact h1, ⟨fun a => by rw [eR]; exact (r1 a).filter _, fun a b x ha hb => r2 a b x (mem a x ha).1 (mem b x hb).1, fun a x hx => ?_⟩, ⟨fun a => ?_, fun a b => ?_, fun x hx hs => ?_, fun a ha => ?_⟩, ⟨by rw [eT]; exact wfp_congr (eCan_tf4 s t).symm k1, by rw [eT]; exact wfd_congr (eCan_tf4 s t).symm k2, fun x hx => ?_, fun x hx hs => ?_⟩, fun x hx => ?_, ?_, ?_⟩
  · obtain ⟨m1, m2⟩ := mem a x hx
    obtain ⟨u, hu, e, h0, hup⟩ := r3 a x m1
    have hut : u ≠ t := fun q => m2 (by rw [e, q])
    exact ⟨u, by rw [eT]; exact hu, e, by rw [eCan_fs, if_neg hut]; exact h0, up' u hut hup⟩
  · rw [eA]
    by_cases h0 : af s 0 a = nI t
    · exact Or.inl (if_pos h0)
    · rw [if_neg h0]
      rcases hA.1 a with h4 | ⟨u, hu, e, hs⟩
      · exact Or.inl h4
      · have hut : u ≠ t := fun q => h0 (by rw [e, q])
        exact Or.inr ⟨u, by rw [eT]; exact hu, e, by rw [eCan_fs, if_neg hut]; exact hs⟩
  · rw [eA, eA]
    by_cases ha : af s 0 a = nI t
    · rw [if_pos ha]
      exact fun _ q => absurd rfl q
    · rw [if_neg ha]
      by_cases hb : af s 0 b = nI t
      · rw [if_pos hb]
        exact fun q1 q2 => absurd q1 q2
      · rw [if_neg hb]
        exact hA.2.1 a b
  · rw [eT] at hx
    rw [eCan_fs] at hs
    by_cases hxt : x = t
    · rw [if_pos hxt] at hs
      exact absurd hs (by decide)
    · rw [if_neg hxt] at hs
      obtain ⟨a, ha, e⟩ := hA.2.2.1 x hx hs
      refine ⟨a, by rw [eN]; exact ha, ?_⟩
      rw [eA, if_neg (fun q => hxt (nIne (by omega) (by omega) (e.symm.trans q)))]
      exact e
  · rw [eN] at ha
    obtain ⟨g1, g2, g3, g4⟩ := hA.2.2.2 a ha
    refine ⟨by rw [eR, g1]; rfl, ?_, by rw [eF 1 a (by omega)]; exact g3, by rw [eF 2 a (by omega)]; exact g4⟩
    rw [eA, g2]
    by_cases h0 : (-5 : Int32) = nI t
    · rw [if_pos h0]
    · rw [if_neg h0]
  · rw [eT] at hx
    rw [eCan_fs]
    by_cases hxt : x = t
    · rw [if_pos hxt]
      decide
    · rw [if_neg hxt]
      exact k3 x hx
  · rw [eT] at hx
    rw [eCan_fs] at hs
    by_cases hxt : x = t
    · rw [if_pos hxt] at hs
      exact absurd hs (by decide)
    · rw [if_neg hxt] at hs
      exact up' x hxt (k4 x hx hs)
  · rw [eT] at hx
    rw [eCan_fo s t (by omega), eCan_fs, eT]
    rcases h5 x hx with h0 | ⟨h4, h0⟩
    · exact Or.inl h0
    · by_cases hxt : x = t
      · rw [hxt] at h4
        rw [h4] at h3
        exact absurd h3 (by decide)
      · rw [if_neg hxt]
        exact Or.inr ⟨h4, h0⟩
  · intro x hx
    rw [eT] at hx
    rw [eCan_fo s t (by omega), eCan_fo s t (by omega), anc_congr_all (eCan_tf4 s t)]
    exact h6 x hx
  · unfold WTol
    rw [eO, eT]
    exact h7
/-- a set of tasks that holds, with one, all that is in it -/
def clP (s : SP) (P : Nat → Bool) : Prop := ∀ x p, x < nT s → prn (tf s) x = some p → P p = true → P x = true
theorem wf_cl {s : SP} (h : WF s) {P : Nat → Bool} (hP : clP s P) : ∀ n, n ≤ nT s → WFx (fun x => n ≤ x ∧ P x = true) (eCl P s n).2 := by
  intro n
  induction n with
  | zero => intro _; exact wfx_weak h (fun x _ _ q => q.elim)
  | succ n ih =>
    intro hn
    have ihn := ih (by omega)
    obtain ⟨e1, e2, e3⟩ := eCl_k P s n
    show WFx _ (if P n = true ∧ tf (eCl P s n).2 3 n < 3 then ((eCl P s n).1 + 1, eCan (eCl P s n).2 n) else eCl P s n).2
    by_cases c : P n = true ∧ tf (eCl P s n).2 3 n < 3
    · rw [if_pos c]
      refine wfx_weak (wf_can ihn (t := n) (by omega) c.2) (fun x hx _ q => ?_)
      rw [eCan_T] at hx
      rcases q with ⟨q1, q2, q3⟩ | q
      · exact ⟨by omega, q3⟩
      · have hT : nT s ≤ 32 := h.1.2.2
        rw [prn_congr e3] at q
        have := (prn_enc (wf_p h) hT (t := x) (by omega)).2 n q
        exact ⟨by omega, hP x n (by omega) q c.1⟩
    · rw [if_neg c]
      refine wfx_weak ihn (fun x hx h3 q => ⟨?_, q.2⟩)
      by_cases hxn : x = n
      · subst hxn
        exact absurd ⟨q.2, h3⟩ c
      · have := q.1
        omega
theorem eCl_st (P : Nat → Bool) (s : SP) : ∀ n x, (x < n ∧ P x = true → ¬ tf (eCl P s n).2 3 x < 3) ∧ (¬ (x < n ∧ P x = true) → tf (eCl P s n).2 3 x = tf s 3 x) := by
  intro n
  induction n with
  | zero => intro x; exact ⟨fun q => absurd q.1 (Nat.not_lt_zero x), fun _ => rfl⟩
  | succ n ih =>
    intro x
    show (_ → ¬ tf (if P n = true ∧ tf (eCl P s n).2 3 n < 3 then ((eCl P s n).1 + 1, eCan (eCl P s n).2 n) else eCl P s n).2 3 x < 3) ∧ (_ → tf (if P n = true ∧ tf (eCl P s n).2 3 n < 3 then ((eCl P s n).1 + 1, eCan (eCl P s n).2 n) else eCl P s n).2 3 x = _)
    by_cases c : P n = true ∧ tf (eCl P s n).2 3 n < 3
    · rw [if_pos c]
      show (_ → ¬ tf (eCan (eCl P s n).2 n) 3 x < 3) ∧ (_ → tf (eCan (eCl P s n).2 n) 3 x = _)
      rw [eCan_fs]
      by_cases hx : x = n
      · rw [if_pos hx]
        exact ⟨fun _ => by decide, fun q => absurd ⟨by omega, by rw [hx]; exact c.1⟩ q⟩
      · rw [if_neg hx]
        exact ⟨fun q => (ih x).1 ⟨by omega, q.2⟩, fun q => (ih x).2 (fun q' => q ⟨by omega, q'.2⟩)⟩
    · rw [if_neg c]
      by_cases hx : x = n
      · subst hx
        refine ⟨fun q h3 => c ⟨q.2, h3⟩, fun q => (ih x).2 (fun q' => absurd q'.1 (Nat.lt_irrefl x))⟩
      · exact ⟨fun q => (ih x).1 ⟨by omega, q.2⟩, fun q => (ih x).2 (fun q' => q ⟨by omega, q'.2⟩)⟩
theorem wf_clT {s : SP} (h : WF s) {P : Nat → Bool} (hP : clP s P) : WF (eCl P s (nT s)).2 := by
  refine wfx_weak (wf_cl h hP (nT s) (Nat.le_refl _)) (fun x hx _ q => ?_)
  rw [(eCl_k P s (nT s)).1] at hx
  have := q.1
  omega
theorem bel_cl (s : SP) (p : Nat) : clP s (bel s p) := by
  intro x q _ hx hq
  obtain ⟨k, hk⟩ := bel_iff.mp hq
  refine bel_iff.mpr ⟨k + 1, ?_⟩
  show (prn (tf s) x).bind (anc (tf s) (k + 1)) = _
  rw [hx]
  exact hk
theorem belE_cl (s : SP) (p : Nat) : clP s (belE s p) := by
  intro x q _ hx hq
  obtain ⟨k, hk⟩ := belE_iff.mp hq
  refine belE_iff.mpr ⟨k + 1, ?_⟩
  show (prn (tf s) x).bind (anc (tf s) k) = _
  rw [hx]
  exact hk
