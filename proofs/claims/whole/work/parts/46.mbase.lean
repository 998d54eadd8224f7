/-! ===== the Model: its numbers hold the state ===== -/
theorem nI_mul' (a b : Nat) : nI a * nI b = nI (a * b) := (Int32.ofNat_mul a b).symm
theorem nI_sub' (a b : Nat) : nI (a + b) - nI b = nI a := by
  rw [← nI_add]
  exact Int32.add_sub_cancel _ _
theorem nI_4m (n : Nat) : (4 : Int32) * nI n = nI (4 * n) := nI_mul' 4 n
theorem nI_32m (n : Nat) : (32 : Int32) * nI n = nI (32 * n) := nI_mul' 32 n
theorem nI_a1 (n : Nat) : nI n + (1 : Int32) = nI (n + 1) := nI_add n 1
theorem nI_a2 (n : Nat) : nI n + (2 : Int32) = nI (n + 2) := nI_add n 2
theorem nI_a3 (n : Nat) : nI n + (3 : Int32) = nI (n + 3) := nI_add n 3
theorem nI_s1 (n : Nat) : nI (n + 1) - (1 : Int32) = nI n := nI_sub' n 1
theorem nI_s4 (n : Nat) : nI (n + 4) - (4 : Int32) = nI n := nI_sub' n 4
/-- where the task's fields lie -/
def mid (f : Nat) : Nat := if f = 0 then 7 else if f = 1 then 8 else if f = 2 then 9 else if f = 3 then 6 else f + 6
theorem mid_rng {f : Nat} (h : f < 7) : 6 ≤ mid f ∧ mid f ≤ 12 := by
  unfold mid
  by_cases h0 : f = 0
  · rw [if_pos h0]; omega
  · rw [if_neg h0]
    by_cases h1 : f = 1
    · rw [if_pos h1]; omega
    · rw [if_neg h1]
      by_cases h2 : f = 2
      · rw [if_pos h2]; omega
      · rw [if_neg h2]
        by_cases h3 : f = 3
        · rw [if_pos h3]; omega
        · rw [if_neg h3]; omega
theorem mid_inj {f g : Nat} (hf : f < 7) (hg : g < 7) (h : mid f = mid g) : f = g := by
  have key : ∀ f : Fin 7, ∀ g : Fin 7, mid f.val = mid g.val → f.val = g.val := by decide
  exact key ⟨f, hf⟩ ⟨g, hg⟩ h
def RMr (I : IS) (s : SP) : Prop := ∀ a, a < 4 → I 1 a = nI (rw_ s a).length ∧ (rw_ s a).length ≤ 32 ∧ ∀ k, k < (rw_ s a).length → (rw_ s a)[k]? = some (I 2 (32 * a + k))
def RMa (I : IS) (s : SP) : Prop := (∀ a, a < 4 → I 3 a = af s 0 a) ∧ ∀ a, a < na s → I 4 a = af s 1 a ∧ I 5 a = af s 2 a
def RMt (I : IS) (s : SP) : Prop := I 0 6 = nI (nT s) ∧ nT s ≤ 32 ∧ ∀ f, f < 7 → ∀ t, t < nT s → I (mid f) t = tf s f t
def en4 (I : IS) (k : Nat) : EN := (I 13 (4 * k), I 13 (4 * k + 1), I 13 (4 * k + 2), I 13 (4 * k + 3))
def RMe (I : IS) (s : SP) : Prop := I 0 16 = nI (tr_ s).length ∧ (tr_ s).length ≤ 40 ∧ ∀ k, k < (tr_ s).length → (tr_ s)[k]? = some (en4 I k)
def RPm (n : Nat) (c : Int32) (f g : Nat → Int32) (l : List (Int32 × Int32)) : Prop := c = nI l.length ∧ l.length ≤ n ∧ ∀ k, k < l.length → l[k]? = some (f k, g k)
def RMp (I : IS) (s : SP) : Prop := RPm 5 (I 0 18) (I 14) (I 15) (tol s).1 ∧ RPm 10 (I 0 21) (I 16) (I 17) (tol s).2.1 ∧ RPm 8 (I 0 24) (I 18) (I 19) (tol s).2.2
def RMn (I : IS) (s : SP) : Prop := I 0 0 = nI (na s) ∧ I 0 14 = sd s ∧ I 0 15 = rd s
/-- an entry that isn't as it was seen -/
def oth (sn : List (Int32 × Int32)) (l : List Int32) : Prop := ∃ q, q ∈ sn ∧ ∃ j, j < l.length ∧ nI j = q.2 ∧ l[j]? ≠ some q.1
def RMl (W : Prop) (I : IS) (s : SP) : Prop := (I 0 28 = 0 ∨ I 0 28 = 1) ∧ (W → I 0 27 = nI (lg s).length ∧ (I 0 28 = 1 ↔ oth (tol s).1 (lg s)))
/-- what is to stay as it was, by numbers -/
abbrev BS : Type := Nat → Option (Nat → Int32)
def KEEP (B : BS) (I : IS) : Prop := (∀ i f, 20 ≤ i → B i = some f → I i = f) ∧ ∀ f, B 0 = some f → I 0 32 = f 32 ∧ I 0 38 = f 38
def RMo (W : Prop) (B : BS) (I : IS) (s : SP) : Prop := RMr I s ∧ RMa I s ∧ RMt I s ∧ RMe I s ∧ RMp I s ∧ RMn I s ∧ RMl W I s ∧ KEEP B I
theorem rmr_c {I J : IS} {s s' : SP} (h : RMr I s) (e1 : J 1 = I 1) (e2 : J 2 = I 2) (e : rw_ s' = rw_ s) : RMr J s' := by
  unfold RMr at *
  rw [e1, e2, e]
  exact h
theorem rma_c {I J : IS} {s s' : SP} (h : RMa I s) (e3 : J 3 = I 3) (e4 : J 4 = I 4) (e5 : J 5 = I 5) (e : af s' = af s) (en : na s' = na s) : RMa J s' := by
  unfold RMa at *
  rw [e3, e4, e5, e, en]
  exact h
theorem rmt_c {I J : IS} {s s' : SP} (h : RMt I s) (e0 : J 0 6 = I 0 6) (e6 : ∀ i, 6 ≤ i → i ≤ 12 → J i = I i) (e : tf s' = tf s) (en : nT s' = nT s) : RMt J s' := by
  unfold RMt at *
  rw [e0, e, en]
  refine ⟨h.1, h.2.1, fun f hf t ht => ?_⟩
  have := mid_rng hf
  rw [e6 _ this.1 this.2]
  exact h.2.2 f hf t ht
theorem rme_c {I J : IS} {s s' : SP} (h : RMe I s) (e0 : J 0 16 = I 0 16) (e13 : J 13 = I 13) (e : tr_ s' = tr_ s) : RMe J s' := by
  unfold RMe en4 at *
  rw [e0, e13, e]
  exact h
theorem rmp_c {I J : IS} {s s' : SP} (h : RMp I s) (e0 : J 0 18 = I 0 18 ∧ J 0 21 = I 0 21 ∧ J 0 24 = I 0 24) (e14 : ∀ i, 14 ≤ i → i ≤ 19 → J i = I i) (e : tol s' = tol s) : RMp J s' := by
  unfold RMp at *
  rw [e0.1, e0.2.1, e0.2.2, e14 14 (by omega) (by omega), e14 15 (by omega) (by omega), e14 16 (by omega) (by omega), e14 17 (by omega) (by omega), e14 18 (by omega) (by omega), e14 19 (by omega) (by omega), e]
  exact h
theorem rmn_c {I J : IS} {s s' : SP} (h : RMn I s) (e0 : J 0 0 = I 0 0 ∧ J 0 14 = I 0 14 ∧ J 0 15 = I 0 15) (en : na s' = na s) (es : sd s' = sd s) (er : rd s' = rd s) : RMn J s' := by
  unfold RMn at *
  rw [e0.1, e0.2.1, e0.2.2, en, es, er]
  exact h
theorem rml_c {W : Prop} {I J : IS} {s s' : SP} (h : RMl W I s) (e0 : J 0 27 = I 0 27 ∧ J 0 28 = I 0 28) (el : lg s' = lg s) (eo : tol s' = tol s) : RMl W J s' := by
  unfold RMl at *
  rw [e0.1, e0.2, el, eo]
  exact h
theorem keep_c {B : BS} {I J : IS} (h : KEEP B I) (e : ∀ i, 20 ≤ i → J i = I i) (e0 : J 0 32 = I 0 32 ∧ J 0 38 = I 0 38) : KEEP B J :=
  ⟨fun i f h1 h2 => (e i h1).trans (h.1 i f h1 h2), fun f hf => ⟨e0.1.trans (h.2 f hf).1, e0.2.trans (h.2 f hf).2⟩⟩
/-- a task's field -/
theorem mo_set {W : Prop} {B : BS} {I : IS} {s : SP} (h : RMo W B I s) {f : Nat} (hf : f < 7) (t : Nat) (v : Int32) : RMo W B (u2 I (mid f) t v) (eSet s f t v) := by
  obtain ⟨h1, h2, h3, h4, h5, h6, h7, h8⟩ := h
  have hm := mid_rng hf
  have o : ∀ i, i ≠ mid f → u2 I (mid f) t v i = I i := fun i hi => u2_oth _ _ _ hi
  have o0 : u2 I (mid f) t v 0 = I 0 := o 0 (by omega)
  refine ⟨rmr_c h1 (o _ (by omega)) (o _ (by omega)) rfl, rma_c h2 (o _ (by omega)) (o _ (by omega)) (o _ (by omega)) rfl rfl, ⟨by rw [o0]; exact h3.1, h3.2.1, fun g hg x hx => ?_⟩, rme_c h4 (by rw [o0]) (o _ (by omega)) rfl, rmp_c h5 (by rw [o0]; exact ⟨rfl, rfl, rfl⟩) (fun i _ _ => o i (by omega)) rfl, rmn_c h6 (by rw [o0]; exact ⟨rfl, rfl, rfl⟩) rfl rfl rfl, rml_c h7 (by rw [o0]; exact ⟨rfl, rfl⟩) rfl rfl, keep_c h8 (fun i _ => o i (by omega)) (by rw [o0]; exact ⟨rfl, rfl⟩)⟩
  show u2 I (mid f) t v (mid g) x = u2 (tf s) f t v g x
  rw [u2_ap, u2_ap]
  by_cases c : g = f ∧ x = t
  · rw [if_pos c, if_pos ⟨by rw [c.1], c.2⟩]
  · rw [if_neg c, if_neg (fun q => c ⟨mid_inj hg hf q.1, q.2⟩)]
    exact h3.2.2 g hg x hx
/-- an arm's numbers -/
theorem mo_uA {W : Prop} {B : BS} {I J : IS} {s : SP} (h : RMo W B I s) {a : Nat} {l : List Int32} {w i t : Int32} (e : ∀ x, x = 0 ∨ 6 ≤ x → J x = I x) (hl : a < 4 → J 1 a = nI l.length ∧ l.length ≤ 32 ∧ ∀ k, k < l.length → l[k]? = some (J 2 (32 * a + k))) (hw : a < 4 → J 3 a = w) (hi : a < na s → J 4 a = i ∧ J 5 a = t) (o1 : ∀ b, b < 4 → b ≠ a → J 1 b = I 1 b ∧ (∀ k, k < 32 → J 2 (32 * b + k) = I 2 (32 * b + k)) ∧ J 3 b = I 3 b ∧ J 4 b = I 4 b ∧ J 5 b = I 5 b) (hn : na s ≤ 4) : RMo W B J (uA s a l w i t) := by
  obtain ⟨h1, h2, h3, h4, h5, h6, h7, h8⟩ := h
  have e0 := e 0 (Or.inl rfl)
  refine ⟨fun b hb => ?_, ⟨fun b hb => ?_, fun b hb => ?_⟩, rmt_c h3 (by rw [e0]) (fun x hx _ => e x (Or.inr hx)) rfl rfl, rme_c h4 (by rw [e0]) (e _ (Or.inr (by omega))) rfl, rmp_c h5 (by rw [e0]; exact ⟨rfl, rfl, rfl⟩) (fun x _ _ => e x (Or.inr (by omega))) rfl, rmn_c h6 (by rw [e0]; exact ⟨rfl, rfl, rfl⟩) rfl rfl rfl, rml_c h7 (by rw [e0]; exact ⟨rfl, rfl⟩) rfl rfl, keep_c h8 (fun x _ => e x (Or.inr (by omega))) (by rw [e0]; exact ⟨rfl, rfl⟩)⟩
  · by_cases hba : b = a
    · subst hba
      rw [uA_rs]
      exact hl hb
    · rw [uA_ro _ _ _ _ _ hba]
      obtain ⟨g1, g2, -, -, -⟩ := o1 b hb hba
      obtain ⟨f1, f2, f3⟩ := h1 b hb
      exact ⟨g1.trans f1, f2, fun k hk => by rw [g2 k (by omega)]; exact f3 k hk⟩
  · rw [uA_f0]
    by_cases hba : b = a
    · subst hba
      rw [if_pos rfl]
      exact hw hb
    · rw [if_neg hba]
      exact (o1 b hb hba).2.2.1.trans (h2.1 b hb)
  · have hb : b < na s := hb
    by_cases hba : b = a
    · subst hba
      rw [uA_a1, uA_a2]
      exact hi hb
    · rw [uA_ao _ _ _ _ _ _ hba, uA_ao _ _ _ _ _ _ hba]
      obtain ⟨-, -, -, g4, g5⟩ := o1 b (by omega) hba
      exact ⟨g4.trans (h2.2 b hb).1, g5.trans (h2.2 b hb).2⟩
theorem mo_u3 {W : Prop} {B : BS} {I : IS} {s : SP} (h : RMo W B I s) (hn : na s ≤ 4) {a : Nat} (v : Int32) : RMo W B (u2 I 3 a v) (uA s a (rw_ s a) v (af s 1 a) (af s 2 a)) := by
  have o : ∀ i, i ≠ 3 → u2 I 3 a v i = I i := fun i hi => u2_oth _ _ _ hi
  refine mo_uA h (fun x hx => o x (by omega)) (fun ha => ?_) (fun ha => u2_eq _ _ _ _) (fun ha => ?_) (fun b hb hba => ?_) hn
  · rw [o 1 (by omega), o 2 (by omega)]
    exact h.1 a ha
  · rw [o 4 (by omega), o 5 (by omega)]
    exact h.2.1.2 a ha
  · rw [o 1 (by omega), o 2 (by omega), o 4 (by omega), o 5 (by omega)]
    exact ⟨rfl, fun _ _ => rfl, u2_ne _ _ (Or.inr hba), rfl, rfl⟩
theorem mo_u4 {W : Prop} {B : BS} {I : IS} {s : SP} (h : RMo W B I s) (hn : na s ≤ 4) {a : Nat} (v : Int32) : RMo W B (u2 I 4 a v) (uA s a (rw_ s a) (af s 0 a) v (af s 2 a)) := by
  have o : ∀ i, i ≠ 4 → u2 I 4 a v i = I i := fun i hi => u2_oth _ _ _ hi
  refine mo_uA h (fun x hx => o x (by omega)) (fun ha => ?_) (fun ha => ?_) (fun ha => ?_) (fun b hb hba => ?_) hn
  · rw [o 1 (by omega), o 2 (by omega)]
    exact h.1 a ha
  · rw [o 3 (by omega)]
    exact h.2.1.1 a ha
  · rw [u2_eq, o 5 (by omega)]
    exact ⟨rfl, (h.2.1.2 a ha).2⟩
  · rw [o 1 (by omega), o 2 (by omega), o 3 (by omega), o 5 (by omega)]
    exact ⟨rfl, fun _ _ => rfl, rfl, u2_ne _ _ (Or.inr hba), rfl⟩
theorem mo_u5 {W : Prop} {B : BS} {I : IS} {s : SP} (h : RMo W B I s) (hn : na s ≤ 4) {a : Nat} (v : Int32) : RMo W B (u2 I 5 a v) (uA s a (rw_ s a) (af s 0 a) (af s 1 a) v) := by
  have o : ∀ i, i ≠ 5 → u2 I 5 a v i = I i := fun i hi => u2_oth _ _ _ hi
  refine mo_uA h (fun x hx => o x (by omega)) (fun ha => ?_) (fun ha => ?_) (fun ha => ?_) (fun b hb hba => ?_) hn
  · rw [o 1 (by omega), o 2 (by omega)]
    exact h.1 a ha
  · rw [o 3 (by omega)]
    exact h.2.1.1 a ha
  · rw [u2_eq, o 4 (by omega)]
    exact ⟨(h.2.1.2 a ha).1, rfl⟩
  · rw [o 1 (by omega), o 2 (by omega), o 3 (by omega), o 4 (by omega)]
    exact ⟨rfl, fun _ _ => rfl, rfl, rfl, u2_ne _ _ (Or.inr hba)⟩
/-- the seed, the round -/
theorem mo_sd {W : Prop} {B : BS} {I : IS} {s : SP} (h : RMo W B I s) (v : Int32) : RMo W B (u2 I 0 14 v) (wSd s v) := by
  obtain ⟨h1, h2, h3, h4, h5, h6, h7, h8⟩ := h
  have o : ∀ i, i ≠ 0 → u2 I 0 14 v i = I i := fun i hi => u2_oth _ _ _ hi
  have o0 : ∀ b, b ≠ 14 → u2 I 0 14 v 0 b = I 0 b := fun b hb => u2_ne _ _ (Or.inr hb)
  exact ⟨rmr_c h1 (o _ (by omega)) (o _ (by omega)) rfl, rma_c h2 (o _ (by omega)) (o _ (by omega)) (o _ (by omega)) rfl rfl, rmt_c h3 (o0 _ (by omega)) (fun i _ _ => o i (by omega)) rfl rfl, rme_c h4 (o0 _ (by omega)) (o _ (by omega)) rfl, rmp_c h5 ⟨o0 _ (by omega), o0 _ (by omega), o0 _ (by omega)⟩ (fun i _ _ => o i (by omega)) rfl, ⟨(o0 _ (by omega)).trans h6.1, u2_eq _ _ _ _, (o0 _ (by omega)).trans h6.2.2⟩, rml_c h7 ⟨o0 _ (by omega), o0 _ (by omega)⟩ rfl rfl, keep_c h8 (fun i _ => o i (by omega)) ⟨o0 _ (by omega), o0 _ (by omega)⟩⟩
theorem mo_rd {W : Prop} {B : BS} {I : IS} {s : SP} (h : RMo W B I s) (v : Int32) : RMo W B (u2 I 0 15 v) (wRd s v) := by
  obtain ⟨h1, h2, h3, h4, h5, h6, h7, h8⟩ := h
  have o : ∀ i, i ≠ 0 → u2 I 0 15 v i = I i := fun i hi => u2_oth _ _ _ hi
  have o0 : ∀ b, b ≠ 15 → u2 I 0 15 v 0 b = I 0 b := fun b hb => u2_ne _ _ (Or.inr hb)
  exact ⟨rmr_c h1 (o _ (by omega)) (o _ (by omega)) rfl, rma_c h2 (o _ (by omega)) (o _ (by omega)) (o _ (by omega)) rfl rfl, rmt_c h3 (o0 _ (by omega)) (fun i _ _ => o i (by omega)) rfl rfl, rme_c h4 (o0 _ (by omega)) (o _ (by omega)) rfl, rmp_c h5 ⟨o0 _ (by omega), o0 _ (by omega), o0 _ (by omega)⟩ (fun i _ _ => o i (by omega)) rfl, ⟨(o0 _ (by omega)).trans h6.1, (o0 _ (by omega)).trans h6.2.1, u2_eq _ _ _ _⟩, rml_c h7 ⟨o0 _ (by omega), o0 _ (by omega)⟩ rfl rfl, keep_c h8 (fun i _ => o i (by omega)) ⟨o0 _ (by omega), o0 _ (by omega)⟩⟩
/-- ids that hold nothing of the state -/
theorem mo_below {W : Prop} {B : BS} {I J : IS} {s : SP} (h : RMo W B I s) (b1 : B 22 = none) (b2 : B 29 = none) (b3 : B 30 = none) (e : ∀ i, i ≠ 22 → i ≠ 29 → i ≠ 30 → J i = I i) : RMo W B J s := by
  obtain ⟨h1, h2, h3, h4, h5, h6, h7, h8⟩ := h
  have o : ∀ i, i < 20 → J i = I i := fun i hi => e i (by omega) (by omega) (by omega)
  have o0 := o 0 (by omega)
  refine ⟨rmr_c h1 (o _ (by omega)) (o _ (by omega)) rfl, rma_c h2 (o _ (by omega)) (o _ (by omega)) (o _ (by omega)) rfl rfl, rmt_c h3 (by rw [o0]) (fun i _ _ => o i (by omega)) rfl rfl, rme_c h4 (by rw [o0]) (o _ (by omega)) rfl, rmp_c h5 (by rw [o0]; exact ⟨rfl, rfl, rfl⟩) (fun i _ _ => o i (by omega)) rfl, rmn_c h6 (by rw [o0]; exact ⟨rfl, rfl, rfl⟩) rfl rfl rfl, rml_c h7 (by rw [o0]; exact ⟨rfl, rfl⟩) rfl rfl, fun i f hi hf => ?_, fun f hf => by rw [o0]; exact h8.2 f hf⟩
  rw [e i (fun q => by rw [q, b1] at hf; cases hf) (fun q => by rw [q, b2] at hf; cases hf) (fun q => by rw [q, b3] at hf; cases hf)]
  exact h8.1 i f hi hf
/-- all that lies there stays, while a step runs -/
def bAll (I : IS) : BS := fun i => some (I i)
theorem mo_in {W : Prop} {B : BS} {I : IS} {s : SP} (h : RMo W B I s) : RMo W (bAll I) I s := by
  obtain ⟨h1, h2, h3, h4, h5, h6, h7, -⟩ := h
  exact ⟨h1, h2, h3, h4, h5, h6, h7, fun i f _ hf => (Option.some.inj hf), fun f hf => by rw [← Option.some.inj hf]; exact ⟨rfl, rfl⟩⟩
theorem mo_out {W : Prop} {B : BS} {I J : IS} {s s' : SP} (h : RMo W B I s) (g : RMo W (bAll I) J s') : RMo W B J s' := by
  obtain ⟨h1, h2, h3, h4, h5, h6, h7, h8⟩ := g
  obtain ⟨-, -, -, -, -, -, -, k⟩ := h
  exact ⟨h1, h2, h3, h4, h5, h6, h7, keep_c k (fun i hi => h8.1 i (I i) hi rfl) (h8.2 (I 0) rfl)⟩
theorem mo_stays {W : Prop} {I J : IS} {s : SP} (g : RMo W (bAll I) J s) {i : Nat} (hi : 20 ≤ i) : J i = I i := g.2.2.2.2.2.2.2.1 i (I i) hi rfl
