/-! ===== the Model: what is kept holds a state ===== -/
def RMz (I : IS) (s : SP) : Prop := RMr I s ∧ RMa I s ∧ RMt I s ∧ RMe I s ∧ RMp I s ∧ RMn I s
theorem mo_z {W : Prop} {B : BS} {I : IS} {s : SP} (h : RMo W B I s) : RMz I s := ⟨h.1, h.2.1, h.2.2.1, h.2.2.2.1, h.2.2.2.2.1, h.2.2.2.2.2.1⟩
theorem rpm_c {n : Nat} {c : Int32} {f g f' g' : Nat → Int32} {l : List (Int32 × Int32)} (h : RPm n c f g l) (e1 : ∀ k, k < n → f' k = f k) (e2 : ∀ k, k < n → g' k = g k) : RPm n c f' g' l :=
  ⟨h.1, h.2.1, fun k hk => by rw [e1 k (by have := h.2.1; omega), e2 k (by have := h.2.1; omega)]; exact h.2.2 k hk⟩
theorem mz_agree {I J : IS} {s : SP} (h : RMz I s) (hn : na s ≤ 4) (e : ∀ p, p < 582 → J (slot p).1 (slot p).2 = I (slot p).1 (slot p).2) : RMz J s := by
  obtain ⟨h1, h2, h3, h4, h5, h6⟩ := h
  have e00 : J 0 0 = I 0 0 := e 0 (by omega)
  have e06 : J 0 6 = I 0 6 := e 1 (by omega)
  have e14 : J 0 14 = I 0 14 := e 2 (by omega)
  have e15 : J 0 15 = I 0 15 := e 3 (by omega)
  have e16 : J 0 16 = I 0 16 := e 4 (by omega)
  have e18 : J 0 18 = I 0 18 := e 533 (by omega)
  have e21 : J 0 21 = I 0 21 := e 534 (by omega)
  have e24 : J 0 24 = I 0 24 := e 535 (by omega)
  have ea : ∀ f b, f < 4 → b < 4 → J (if f = 0 then 1 else f + 2) b = I (if f = 0 then 1 else f + 2) b := fun f b hf hb => by
    have q := e (5 + 4 * b + f) (by omega)
    rw [slot_a hf hb] at q
    exact q
  have a1 : ∀ b, b < 4 → J 1 b = I 1 b := fun b hb => ea 0 b (by omega) hb
  have a3 : ∀ b, b < 4 → J 3 b = I 3 b := fun b hb => ea 1 b (by omega) hb
  have a4 : ∀ b, b < 4 → J 4 b = I 4 b := fun b hb => ea 2 b (by omega) hb
  have a5 : ∀ b, b < 4 → J 5 b = I 5 b := fun b hb => ea 3 b (by omega) hb
  have er : ∀ b, b < 128 → J 2 b = I 2 b := fun b hb => by
    have q := e (21 + b) (by omega)
    rw [slot_r hb] at q
    exact q
  have ef : ∀ f b, f < 7 → b < 32 → J (6 + f) b = I (6 + f) b := fun f b hf hb => by
    have q := e (149 + 7 * b + f) (by omega)
    rw [slot_f hf hb] at q
    exact q
  have et : ∀ b, b < 160 → J 13 b = I 13 b := fun b hb => by
    have q := e (373 + b) (by omega)
    rw [slot_t hb] at q
    exact q
  have p5 : ∀ f b, f < 2 → b < 5 → J (14 + f) b = I (14 + f) b := fun f b hf hb => by
    have q := e (536 + 2 * b + f) (by omega)
    rw [slot_5 hf hb] at q
    exact q
  have p10 : ∀ f b, f < 2 → b < 10 → J (16 + f) b = I (16 + f) b := fun f b hf hb => by
    have q := e (546 + 2 * b + f) (by omega)
    rw [slot_10 hf hb] at q
    exact q
  have p8 : ∀ f b, f < 2 → b < 8 → J (18 + f) b = I (18 + f) b := fun f b hf hb => by
    have q := e (566 + 2 * b + f) (by omega)
    rw [slot_8 hf hb] at q
    exact q
  refine ⟨fun a ha => ?_, ⟨fun a ha => (a3 a ha).trans (h2.1 a ha), fun a ha => ⟨(a4 a (by omega)).trans (h2.2 a ha).1, (a5 a (by omega)).trans (h2.2 a ha).2⟩⟩, ⟨e06.trans h3.1, h3.2.1, fun f hf t ht => ?_⟩, ⟨e16.trans h4.1, h4.2.1, fun k hk => ?_⟩, ⟨?_, ?_, ?_⟩, ⟨e00.trans h6.1, e14.trans h6.2.1, e15.trans h6.2.2⟩⟩
  · obtain ⟨r1, r2, r3⟩ := h1 a ha
    exact ⟨(a1 a ha).trans r1, r2, fun k hk => by rw [er _ (by omega)]; exact r3 k hk⟩
  · have hm := mid_rng hf
    have := ef (mid f - 6) t (by omega) (by have := h3.2.1; omega)
    rw [show 6 + (mid f - 6) = mid f by omega] at this
    rw [this]
    exact h3.2.2 f hf t ht
  · have hl := h4.2.1
    unfold en4
    rw [et _ (by omega), et _ (by omega), et _ (by omega), et _ (by omega)]
    exact h4.2.2 k hk
  · rw [e18]
    exact rpm_c h5.1 (fun k hk => p5 0 k (by omega) hk) (fun k hk => p5 1 k (by omega) hk)
  · rw [e21]
    exact rpm_c h5.2.1 (fun k hk => p10 0 k (by omega) hk) (fun k hk => p10 1 k (by omega) hk)
  · rw [e24]
    exact rpm_c h5.2.2 (fun k hk => p8 0 k (by omega) hk) (fun k hk => p8 1 k (by omega) hk)
def PKs (f : Nat → Int32) (s : SP) : Prop := ∃ I, RMz I s ∧ ∀ p, p < 582 → f p = I (slot p).1 (slot p).2
theorem mo_pack {W : Prop} {B : BS} {I : IS} {s : SP} (h : RMo W B I s) {A : Nat} {c : Int32} (hA : (A = 20 ∧ c = 1) ∨ (A = 21 ∧ c = 2)) (hB : B A = none) : ∃ J, f_X8_carryAll A 1 I = some J ∧ RMo W B J s ∧ PKs (J A) s ∧ (∀ i, 20 ≤ i → i ≠ A → J i = I i) ∧ ∀ b, 25 ≤ b → b ≠ 33 → b ≠ 34 → b ≠ 35 → J 0 b = I 0 b := by
  obtain ⟨J, j1, j2⟩ := car_all (tk := true) hA I
  obtain ⟨-, -, -, g4, g5, g6, -⟩ := j2
  obtain ⟨k1, k2⟩ := g6 rfl
  have er : ∀ i, 1 ≤ i → i ≤ 19 → J i = I i := fun i h1 h2 => funext (fun b => k2 i b h2 (fun q => by omega))
  have e0 : ∀ b, b ≤ 24 → J 0 b = I 0 b := fun b hb => k2 0 b (by omega) (fun _ => hb)
  obtain ⟨h1, h2, h3, h4, h5, h6, h7, h8⟩ := h
  refine ⟨J, j1, ⟨rmr_c h1 (er _ (by omega) (by omega)) (er _ (by omega) (by omega)) rfl, rma_c h2 (er _ (by omega) (by omega)) (er _ (by omega) (by omega)) (er _ (by omega) (by omega)) rfl rfl, rmt_c h3 (e0 _ (by omega)) (fun i q1 q2 => er i (by omega) (by omega)) rfl rfl, rme_c h4 (e0 _ (by omega)) (er _ (by omega) (by omega)) rfl, rmp_c h5 ⟨e0 _ (by omega), e0 _ (by omega), e0 _ (by omega)⟩ (fun i q1 q2 => er i (by omega) (by omega)) rfl, rmn_c h6 ⟨e0 _ (by omega), e0 _ (by omega), e0 _ (by omega)⟩ rfl rfl rfl, rml_c h7 ⟨g5 _ (by omega) (by omega) (by omega) (by omega), g5 _ (by omega) (by omega) (by omega) (by omega)⟩ rfl rfl, ?_⟩, ⟨I, ⟨h1, h2, h3, h4, h5, h6⟩, k1⟩, fun i hi hiA => g4 i (by omega) hi hiA, g5⟩
  refine ⟨fun i f hi hf => ?_, fun f hf => ?_⟩
  · have hiA : i ≠ A := fun q => by
      rw [q, hB] at hf
      cases hf
    rw [g4 i (by omega) hi hiA]
    exact h8.1 i f hi hf
  · rw [g5 32 (by omega) (by omega) (by omega) (by omega), g5 38 (by omega) (by omega) (by omega) (by omega)]
    exact h8.2 f hf
theorem mo_unpack {W : Prop} {B : BS} {X : IS} {s1 s : SP} (h : RMo W B X s1) {A : Nat} {c : Int32} (hA : (A = 20 ∧ c = 1) ∨ (A = 21 ∧ c = 2)) (hk : PKs (X A) s) (hn : na s ≤ 4) : ∃ J, f_X8_carryAll A 0 X = some J ∧ RMo False B J s ∧ (∀ i, 20 ≤ i → J i = X i) ∧ ∀ b, 25 ≤ b → b ≠ 33 → b ≠ 34 → b ≠ 35 → J 0 b = X 0 b := by
  obtain ⟨J, j1, j2⟩ := car_all (tk := false) hA X
  obtain ⟨-, -, -, g4, g5, -, g7⟩ := j2
  obtain ⟨k1, k2, -⟩ := g7 rfl
  obtain ⟨I, z1, z2⟩ := hk
  have e20 : ∀ i, 20 ≤ i → J i = X i := fun i hi => by
    by_cases hiA : i = A
    · rw [hiA, k1]
    · exact g4 i (by omega) hi hiA
  obtain ⟨h1, h2, h3, h4, h5, h6⟩ := mz_agree (J := J) z1 hn (fun p hp => (k2 p hp).trans (z2 p hp))
  obtain ⟨-, -, -, -, -, -, h7, h8⟩ := h
  refine ⟨J, j1, ⟨h1, h2, h3, h4, h5, h6, ⟨?_, fun q => q.elim⟩, keep_c h8 e20 ⟨g5 _ (by omega) (by omega) (by omega) (by omega), g5 _ (by omega) (by omega) (by omega) (by omega)⟩⟩, e20, g5⟩
  rw [g5 28 (by omega) (by omega) (by omega) (by omega)]
  exact h7.1
theorem mo_open {W : Prop} {B : BS} {I : IS} {s : SP} (h : RMo W B I s) (hB : B 20 = none) : ∃ J, f_X8_open I = some J ∧ RMo W B J s ∧ PKs (J 20) s := by
  obtain ⟨J, j1, j2, j3, -⟩ := mo_pack h (Or.inl ⟨rfl, rfl⟩) hB
  exact ⟨J, by rw [f_X8_open, j1, some_bind], j2, j3⟩
theorem mo_again {W : Prop} {B : BS} {X : IS} {s1 s : SP} (h : RMo W B X s1) (hk : PKs (X 20) s) (hn : na s ≤ 4) : ∃ J, f_X8_again X = some J ∧ RMo False B J s ∧ J 20 = X 20 := by
  obtain ⟨J, j1, j2, j3, -⟩ := mo_unpack h (Or.inl ⟨rfl, rfl⟩) hk hn
  exact ⟨J, by rw [f_X8_again, j1, some_bind], j2, j3 20 (by omega)⟩
theorem mo_untrack {W : Prop} {B : BS} {I : IS} {s : SP} (h : RMo W B I s) (l : List Int32) : RMo False B I (wLg s l) := by
  obtain ⟨h1, h2, h3, h4, h5, h6, h7, h8⟩ := h
  exact ⟨h1, h2, h3, h4, h5, h6, ⟨h7.1, fun q => q.elim⟩, h8⟩
