/-! ===== what holds between calls ===== -/
theorem rwo_congr {I J : IS} {s : SP} (h : RWo I s) (e : ∀ k, k < 34 → J k = I k) : RWo J s := by
  obtain ⟨h1, h2, h3, h4, h5, h6, h7, h8, h9, h10⟩ := h
  refine ⟨fun a ha => rar_congr (h1 a ha) (fun k hk => e _ ?_), rta_congr h2 (fun k hk => e _ (by omega)), rtr_congr h3 (fun k hk => e _ (by omega)), rwa_congr h4 (fun k hk => e _ (by omega)), by rw [e 0 (by omega)]; exact h5, by rw [e 0 (by omega)]; exact h6, by rw [e 0 (by omega)]; exact h7, rpr_congr h8 (fun k hk => e _ (by omega)), rpr_congr h9 (fun k hk => e _ (by omega)), rpr_congr h10 (fun k hk => e _ (by omega))⟩
  have := gArm_rng a
  omega
theorem i64_lt {a b : Int32} : a.toInt64 < b.toInt64 ↔ a < b := by
  rw [Int64.lt_iff_toInt_lt, Int32.lt_iff_toInt_lt, Int32.toInt_toInt64, Int32.toInt_toInt64]
theorem m_in (x lo hi : Int32) : f_X8_in x.toInt64 lo.toInt64 hi.toInt64 = some (if lo ≤ x ∧ x ≤ hi then 1 else 0) := by
  unfold f_X8_in f_X8_in_b17 f_X8_in_b18
  by_cases h1 : x < lo
  · have c : ¬ (lo ≤ x ∧ x ≤ hi) := fun q => by
      rw [Int32.le_iff_toInt_le] at q
      rw [Int32.lt_iff_toInt_lt] at h1
      omega
    rw [if_pos ((lg_cmp_lt _ _).mpr (i64_lt.mpr h1)), if_neg c, if_pos okZ0]
  · rw [if_neg (fun q => h1 (i64_lt.mp ((lg_cmp_lt _ _).mp q)))]
    by_cases h2 : hi < x
    · have c : ¬ (lo ≤ x ∧ x ≤ hi) := fun q => by
        have q2 := q.2
        rw [Int32.le_iff_toInt_le] at q2
        rw [Int32.lt_iff_toInt_lt] at h2
        omega
      rw [if_pos ((lg_cmp_gt _ _).mpr (i64_lt.mpr h2)), if_neg c, if_pos okZ0]
    · have c : lo ≤ x ∧ x ≤ hi := by
        rw [Int32.le_iff_toInt_le, Int32.le_iff_toInt_le]
        rw [Int32.lt_iff_toInt_lt] at h1 h2
        omega
      rw [if_neg (fun q => h2 (i64_lt.mp ((lg_cmp_gt _ _).mp q))), if_pos c, if_pos okZ1]
/-- within 0 .. n - 1 -/
theorem m_in0 (x : Int32) {n : Nat} (hn : n < 2 ^ 31) : f_X8_in x.toInt64 (0 : Int64) (nI n - 1).toInt64 = some (if x < 0 ∨ nI n ≤ x then 0 else 1) := by
  have e : (0 : Int64) = (0 : Int32).toInt64 := rfl
  rw [e, m_in]
  have en : (nI n - 1).toInt = (n : Int) - 1 := by
    rcases Nat.eq_zero_or_pos n with h0 | h0
    · rw [h0]
      rfl
    · have := nI_s1 (n - 1)
      rw [show n - 1 + 1 = n by omega] at this
      rw [this, tnI (by omega)]
      omega
  have e0 : (0 : Int32).toInt = 0 := rfl
  by_cases h : x < 0 ∨ nI n ≤ x
  · rw [if_pos h, if_neg]
    rintro ⟨q1, q2⟩
    rw [Int32.lt_iff_toInt_lt, Int32.le_iff_toInt_le, tnI hn] at h
    rw [Int32.le_iff_toInt_le] at q1 q2
    omega
  · rw [if_neg h, if_pos]
    rw [Int32.lt_iff_toInt_lt, Int32.le_iff_toInt_le, tnI hn] at h
    rw [Int32.le_iff_toInt_le, Int32.le_iff_toInt_le]
    omega
theorem mt_isTask {I : IS} {s : SP} (h : RMt I s) (x : Int32) : f_X8_isTask x I = some (if x < 0 ∨ nI (nT s) ≤ x then 0 else 1) := by
  have hT := h.2.1
  rw [f_X8_isTask, h.1, m_in0 x (by omega), some_bind]
  by_cases c : x < 0 ∨ nI (nT s) ≤ x
  · rw [if_pos c, if_pos okZ0]
  · rw [if_neg c, if_pos okZ1]
theorem mn_isArm {I : IS} {s : SP} (h : RMn I s) (hn : na s ≤ 4) (x : Int32) : f_X8_isArm x I = some (if x < 0 ∨ nI (na s) ≤ x then 0 else 1) := by
  rw [f_X8_isArm, h.1, m_in0 x (by omega), some_bind]
  by_cases c : x < 0 ∨ nI (na s) ≤ x
  · rw [if_pos c, if_pos okZ0]
  · rw [if_neg c, if_pos okZ1]
theorem m_isTape (x : Int32) (I : IS) : f_X8_isTape x I = some (if x < 0 ∨ 6 ≤ x then 0 else 1) := by
  have e := m_in0 x (n := 6) (by omega)
  have e5 : (nI 6 - 1).toInt64 = (5 : Int64) := rfl
  rw [e5] at e
  have e6 : nI 6 = 6 := rfl
  rw [e6] at e
  rw [f_X8_isTape, e, some_bind]
  by_cases c : x < 0 ∨ 6 ≤ x
  · rw [if_pos c, if_pos okZ0]
  · rw [if_neg c, if_pos okZ1]
theorem c_isTape (x : Int32) (I : IS) : f_X7_isTape x I = some (if x < 0 ∨ 6 ≤ x then 0 else 1) := by
  unfold f_X7_isTape f_X7_isTape_b17 f_X7_isTape_b18
  by_cases h1 : x < 0
  · rw [if_pos h1, if_pos (Or.inl h1), if_pos okZ0]
  · rw [if_neg h1]
    by_cases h2 : (6 : Int32) ≤ x
    · rw [if_pos h2, if_pos (Or.inr h2), if_pos okZ0]
    · rw [if_neg h2, if_pos okZ1, if_neg (fun q => q.elim h1 h2)]
theorem c_isArm {I : IS} {s : SP} (h : RWo (zI 1 I) s) (x : Int32) : f_X7_isArm x I = some (if x < 0 ∨ nI (na s) ≤ x then 0 else 1) := by
  have e6 : I 1 6 = nI (na s) := h.2.2.2.2.1
  unfold f_X7_isArm f_X7_isArm_b19 f_X7_isArm_b20
  rw [e6]
  by_cases h1 : x < 0
  · rw [if_pos h1, if_pos (Or.inl h1), if_pos okZ0]
  · rw [if_neg h1]
    by_cases h2 : nI (na s) ≤ x
    · rw [if_pos h2, if_pos (Or.inr h2), if_pos okZ0]
    · rw [if_neg h2, if_pos okZ1, if_neg (fun q => q.elim h1 h2)]
theorem c_has {I : IS} {T : Nat} {tf : Nat → Nat → Int32} (h : RTa I T tf) (x : Int32) : f_X4_has x I = some (if x < 0 ∨ nI T ≤ x then 0 else 1) := by
  have hT := h.2.1
  rcases pk_ix x (n := T) (by omega) with c | c | ⟨j, hj, rfl⟩
  · rw [if_pos (Or.inl c), tas_has_neg c]
  · rw [if_pos (Or.inr c), tas_has_big h c]
  · rw [if_neg (fun q => q.elim (nI_lt0 (by omega)) (nI_ge hj (by omega))), tas_has_in h hj]
/-- a number that is a task's, an arm's -/
theorem ix_of {x : Int32} {n : Nat} (hn : n < 2 ^ 31) (h : ¬ (x < 0 ∨ nI n ≤ x)) : ∃ t, t < n ∧ x = nI t := by
  rcases pk_ix x (n := n) hn with c | c | ⟨j, hj, e⟩
  · exact absurd (Or.inl c) h
  · exact absurd (Or.inr c) h
  · exact ⟨j, hj, e⟩
/-- what the Model's round leaves alone -/
def B0 (I : IS) : BS := fun i => if i = 20 ∨ i = 22 ∨ i = 29 ∨ i = 30 then none else some (I i)
theorem B0_n {I : IS} {i : Nat} (h : i = 20 ∨ i = 22 ∨ i = 29 ∨ i = 30) : B0 I i = none := if_pos h
def BN : BS := fun _ => none
theorem mo_b0 {W : Prop} {B : BS} {I : IS} {s : SP} (h : RMo W B I s) : RMo W (B0 I) I s := by
  obtain ⟨h1, h2, h3, h4, h5, h6, h7, -⟩ := h
  refine ⟨h1, h2, h3, h4, h5, h6, h7, fun i f _ hf => ?_, fun f hf => ?_⟩
  · unfold B0 at hf
    by_cases c : i = 20 ∨ i = 22 ∨ i = 29 ∨ i = 30
    · rw [if_pos c] at hf
      cases hf
    · rw [if_neg c] at hf
      exact Option.some.inj hf
  · unfold B0 at hf
    rw [if_neg (by omega)] at hf
    rw [← Option.some.inj hf]
    exact ⟨rfl, rfl⟩
theorem mo_bn {W : Prop} {B : BS} {I : IS} {s : SP} (h : RMo W B I s) : RMo W BN I s := by
  obtain ⟨h1, h2, h3, h4, h5, h6, h7, -⟩ := h
  exact ⟨h1, h2, h3, h4, h5, h6, h7, fun i f _ hf => (by cases hf), fun f hf => (by cases hf)⟩
theorem mo_29 {W : Prop} {B : BS} {I : IS} {s : SP} (h : RMo W B I s) (v : Int32) : RMo W B (u2 I 0 29 v) s := by
  obtain ⟨h1, h2, h3, h4, h5, h6, h7, h8⟩ := h
  have o : ∀ i, i ≠ 0 → u2 I 0 29 v i = I i := fun i hi => u2_oth _ _ _ hi
  have o0 : ∀ b, b ≠ 29 → u2 I 0 29 v 0 b = I 0 b := fun b hb => u2_ne _ _ (Or.inr hb)
  exact ⟨rmr_c h1 (o _ (by omega)) (o _ (by omega)) rfl, rma_c h2 (o _ (by omega)) (o _ (by omega)) (o _ (by omega)) rfl rfl, rmt_c h3 (o0 _ (by omega)) (fun i _ _ => o i (by omega)) rfl rfl, rme_c h4 (o0 _ (by omega)) (o _ (by omega)) rfl, rmp_c h5 ⟨o0 _ (by omega), o0 _ (by omega), o0 _ (by omega)⟩ (fun i _ _ => o i (by omega)) rfl, rmn_c h6 ⟨o0 _ (by omega), o0 _ (by omega), o0 _ (by omega)⟩ rfl rfl rfl, rml_c h7 ⟨o0 _ (by omega), o0 _ (by omega)⟩ rfl rfl, keep_c h8 (fun i hi => o i (by omega)) ⟨o0 _ (by omega), o0 _ (by omega)⟩⟩
/-- the image -/
def IRi (Ic Im : IS) (si : SP) : Prop := RWo (zI 35 Ic) si ∧ WF si ∧ Ic 0 5 = Im 0 32 ∧ (Im 0 32 = 0 ∨ Im 0 32 = 1 ∧ PKs (Im 21) si)
/-- the text -/
def ITx (Ic Im : IS) : Prop := ∃ l : List Int32, l.length ≤ 100 ∧ Ic 103 1 = nI l.length ∧ Im 0 38 = nI l.length ∧ ∀ k, k < l.length → l[k]? = some (Ic 104 k) ∧ l[k]? = some (Im 23 k)
/-- the tapes: of each whether it holds a row, its sort, its length, its items -/
def ITp1 (Ic : IS) (Jc : JS) (Im : IS) (Jm : JS) (k : Nat) : Prop := (Ic (gTap k) 1 = -1 ∧ Im 35 k = 0 ∧ Ic (gTap k) 2 = 0 ∨ (0 ≤ Ic (gTap k) 1 ∧ Ic (gTap k) 1 ≤ 4) ∧ Im 35 k = 1 ∧ Im 31 k = Ic (gTap k) 1 ∧ Im 32 k = Ic (gTap k) 2) ∧ (∃ n, n ≤ 60 ∧ Ic (gTap k) 2 = nI n ∧ Im 32 k = nI n) ∧ ∀ i, i < 60 → Jc (gTap k + 1) i = Jm 33 (60 * k + i)
def ITp (Ic : IS) (Jc : JS) (Im : IS) (Jm : JS) : Prop := ∀ k, k < 6 → ITp1 Ic Jc Im Jm k
def INV (Ic : IS) (Jc : JS) (Im : IS) (Jm : JS) : Prop := ∃ s si, RWo (zI 1 Ic) s ∧ WF s ∧ RMo False BN Im s ∧ IRi Ic Im si ∧ (∃ sa, RWo (zI 69 Ic) sa) ∧ ITx Ic Im ∧ ITp Ic Jc Im Jm
theorem gTap_rng (k : Nat) : 111 ≤ gTap k ∧ gTap k ≤ 121 := by
  have h : k % 6 < 6 := Nat.mod_lt _ (by omega)
  unfold gTap
  omega
/-- the class's other parts, and the Model's, are as they were -/
theorem inv_of {Ic Ic' : IS} {Jc : JS} {Im Im' : IS} {Jm : JS} {s' si : SP} (hs : RWo (zI 1 Ic') s') (hw : WF s') (hm : RMo False (B0 Im) Im' s') (hi : IRi Ic Im si) (ha : ∃ sa, RWo (zI 69 Ic') sa) (hx : ITx Ic Im) (hp : ITp Ic Jc Im Jm) (ec : ∀ j, j = 0 ∨ 35 ≤ j ∧ j < 69 ∨ 103 ≤ j → Ic' j = Ic j) : INV Ic' Jc Im' Jm := by
  have k := hm.2.2.2.2.2.2.2
  have m : ∀ i, 20 ≤ i → i ≠ 20 → i ≠ 22 → i ≠ 29 → i ≠ 30 → Im' i = Im i := fun i h0 h1 h2 h3 h4 => k.1 i (Im i) h0 (if_neg (by omega))
  have m0 := k.2 (Im 0) (if_neg (by omega))
  refine ⟨s', si, hs, hw, mo_bn hm, ⟨rwo_congr hi.1 (fun j hj => ec _ (by omega)), hi.2.1, ?_, ?_⟩, ha, ?_, fun t ht => ?_⟩
  · rw [ec 0 (by omega), m0.1]
    exact hi.2.2.1
  · rw [m0.1, m 21 (by omega) (by omega) (by omega) (by omega) (by omega)]
    exact hi.2.2.2
  · obtain ⟨l, l1, l2, l3, l4⟩ := hx
    refine ⟨l, l1, by rw [ec 103 (by omega)]; exact l2, by rw [m0.2]; exact l3, fun j hj => ?_⟩
    rw [ec 104 (by omega), m 23 (by omega) (by omega) (by omega) (by omega) (by omega)]
    exact l4 j hj
  · have := gTap_rng t
    have h := hp t ht
    unfold ITp1 at h ⊢
    rw [ec (gTap t) (by omega), m 35 (by omega) (by omega) (by omega) (by omega) (by omega), m 31 (by omega) (by omega) (by omega) (by omega) (by omega), m 32 (by omega) (by omega) (by omega) (by omega) (by omega)]
    exact h
/-- a call that changes neither -/
theorem inv_q {Ic : IS} {Jc : JS} {Im : IS} {Jm : JS} (h : INV Ic Jc Im Jm) : INV Ic Jc (u2 Im 0 29 0) Jm := by
  obtain ⟨s, si, h1, h2, h3, h4, h5, h6, h7⟩ := h
  exact inv_of h1 h2 (mo_29 (mo_b0 h3) 0) h4 h5 h6 h7 (fun _ _ => rfl)
/-- the World of now has changed, the Model with it -/
theorem inv_now {Ic q : IS} {Jc : JS} {Im Im' : IS} {Jm : JS} {s' si : SP} (hs : RWo q s') (hw : WF s') (hm : RMo False (B0 Im) Im' s') (hi : IRi Ic Im si) (ha : ∃ sa, RWo (zI 69 Ic) sa) (hx : ITx Ic Im) (hp : ITp Ic Jc Im Jm) : INV (gI 1 34 q Ic) Jc Im' Jm := by
  refine inv_of (rwo_congr hs (fun k hk => gI_in hk)) hw hm hi ?_ hx hp (fun j hj => gI_out (by omega))
  obtain ⟨sa, h⟩ := ha
  exact ⟨sa, rwo_congr h (fun k hk => gI_out (by omega))⟩
