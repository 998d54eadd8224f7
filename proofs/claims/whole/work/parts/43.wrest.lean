/-! ===== the World: rounds, sums, who works on what, plans ===== -/
theorem wor_rounds {I : IS} {s : SP} (h : RWo I s) (hw : WF s) {n : Nat} (hn : n ≤ 400) : ∃ J, f_X6_goRounds (nI n) I = some J ∧ RWo J (eRounds s n) := by
  have key := loop_inv (fun fu j (I : IS) => f_X6_goRounds_b2 fu (nI n) (nI j) I) n (fun j I => RWo I (eRounds s j)) (fun J => RWo J (eRounds s n)) (fun fu I hI => by
    refine ⟨I, ?_, hI⟩
    show f_X6_goRounds_b2 (fu + 1) (nI n) (nI n) I = _
    rw [f_X6_goRounds_b2, if_pos ((nI_leI (by omega) (by omega)).mpr (Nat.le_refl _))]) (fun fu j I hj hI => by
    obtain ⟨J, j1, j2⟩ := wor_round' hI (wf_rounds hw j).1
    refine ⟨J, j2, ?_⟩
    show f_X6_goRounds_b2 (fu + 1) (nI n) (nI j) I = _
    rw [f_X6_goRounds_b2, if_neg (nI_ge hj (by omega)), j1, some_bind, nI_1]) n 0 LF I (by omega) (by unfold LF; omega) h
  exact key
/-- where rounds stop: behind the last that is wanted, or as soon as all is over -/
def isStop (s : SP) (n m : Nat) : Prop := m ≤ n ∧ (m = n ∨ ¬ busy (eRounds s m)) ∧ ∀ k, k < m → busy (eRounds s k)
theorem wor_tillOver {I : IS} {s : SP} (h : RWo I s) (hw : WF s) {n : Nat} (hn : n ≤ 400) : ∃ J, f_X6_goRoundsTillOver (nI n) I = some J ∧ ∃ m, isStop s n m ∧ RWo J (eRounds s m) := by
  have n0 : ¬ (1 : Int32) = 0 := by decide
  have key := loop_ret (fun fu j (I : IS) => f_X6_goRoundsTillOver_b2 fu (nI n) (nI j) I) n (fun j I => RWo I (eRounds s j) ∧ ∀ k, k < j → busy (eRounds s k)) (fun J => ∃ m, isStop s n m ∧ RWo J (eRounds s m)) (fun fu I hI => by
    refine ⟨I, ?_, n, ⟨Nat.le_refl _, Or.inl rfl, hI.2⟩, hI.1⟩
    show f_X6_goRoundsTillOver_b2 (fu + 1) (nI n) (nI n) I = _
    rw [f_X6_goRoundsTillOver_b2, if_pos ((nI_leI (by omega) (by omega)).mpr (Nat.le_refl _))]) (fun fu j I hj hI => by
    obtain ⟨w1, w2, -⟩ := wf_rounds hw j
    obtain ⟨r, r1, r2⟩ := wor_isOver hI.1 w1.1.2.1
    show (∃ r, f_X6_goRoundsTillOver_b2 (fu + 1) (nI n) (nI j) I = some r ∧ _) ∨ ∃ I', _ ∧ f_X6_goRoundsTillOver_b2 (fu + 1) (nI n) (nI j) I = f_X6_goRoundsTillOver_b2 fu (nI n) (nI (j + 1)) I'
    rcases r2 with ⟨rfl, r2⟩ | ⟨rfl, r2⟩
    · left
      refine ⟨I, ?_, j, ⟨by omega, Or.inr r2, hI.2⟩, hI.1⟩
      rw [f_X6_goRoundsTillOver_b2, if_neg (nI_ge hj (by omega)), r1, some_bind, if_neg n0]
    · right
      obtain ⟨J, j1, j2⟩ := wor_round' hI.1 w1
      refine ⟨J, ⟨j2, fun k hk => ?_⟩, ?_⟩
      · by_cases hkj : k = j
        · rw [hkj]
          exact r2
        · exact hI.2 k (by omega)
      · rw [f_X6_goRoundsTillOver_b2, if_neg (nI_ge hj (by omega)), r1, some_bind, if_pos rfl, j1, some_bind, nI_1]) n 0 LF I (by omega) (by unfold LF; omega) ⟨h, fun k hk => absurd hk (Nat.not_lt_zero k)⟩
  exact key
/-- sums -/
def sm (f : Nat → Int32) : Nat → Int32
  | 0 => 0
  | n + 1 => sm f n + f n
theorem sm_congr {f g : Nat → Int32} : ∀ n, (∀ k, k < n → f k = g k) → sm f n = sm g n := by
  intro n
  induction n with
  | zero => intro _; rfl
  | succ n ih =>
    intro h
    show sm f n + f n = sm g n + g n
    rw [ih (fun k hk => h k (by omega)), h n (by omega)]
theorem wor_idle {I : IS} {s : SP} (h : RWo I s) (hn : na s ≤ 4) : f_X6_idleOfAll I = some (sm (af s 1) (na s)) := by
  have e6 : I 0 6 = nI (na s) := h.2.2.2.2.1
  exact loop_up (fun fu j (x : Int32) => f_X6_idleOfAll_b4 fu x (nI j) I) (na s) (fun j => sm (af s 1) j) (fun fu => by
    show f_X6_idleOfAll_b4 (fu + 1) _ (nI (na s)) I = _
    rw [f_X6_idleOfAll_b4, e6, if_pos ((nI_leI (by omega) (by omega)).mpr (Nat.le_refl _))]) (fun fu j hj => by
    have e3 : I (gArm j) 3 = af s 1 j := (h.1 j (by omega)).2.2.1
    show f_X6_idleOfAll_b4 (fu + 1) _ (nI j) I = f_X6_idleOfAll_b4 fu (sm (af s 1) j + af s 1 j) (nI (j + 1)) I
    rw [f_X6_idleOfAll_b4, e6, if_neg (nI_ge hj (by omega)), if_pos (okI_nI (by omega) (by omega)), nI_clamp (by omega), e3, nI_1]) (na s) 0 LF (by omega) (by unfold LF; omega)
theorem wor_stole {I : IS} {s : SP} (h : RWo I s) (hn : na s ≤ 4) : f_X6_stoleOfAll I = some (sm (af s 2) (na s)) := by
  have e6 : I 0 6 = nI (na s) := h.2.2.2.2.1
  exact loop_up (fun fu j (x : Int32) => f_X6_stoleOfAll_b4 fu x (nI j) I) (na s) (fun j => sm (af s 2) j) (fun fu => by
    show f_X6_stoleOfAll_b4 (fu + 1) _ (nI (na s)) I = _
    rw [f_X6_stoleOfAll_b4, e6, if_pos ((nI_leI (by omega) (by omega)).mpr (Nat.le_refl _))]) (fun fu j hj => by
    have e3 : I (gArm j) 4 = af s 2 j := (h.1 j (by omega)).2.2.2
    show f_X6_stoleOfAll_b4 (fu + 1) _ (nI j) I = f_X6_stoleOfAll_b4 fu (sm (af s 2) j + af s 2 j) (nI (j + 1)) I
    rw [f_X6_stoleOfAll_b4, e6, if_neg (nI_ge hj (by omega)), if_pos (okI_nI (by omega) (by omega)), nI_clamp (by omega), e3, nI_1]) (na s) 0 LF (by omega) (by unfold LF; omega)
/-- the first arm of which P holds -/
def isArmOf (n : Nat) (P : Nat → Prop) (x : Int32) : Prop := (x = -5 ∧ ∀ a, a < n → ¬ P a) ∨ ∃ a, a < n ∧ x = nI a ∧ P a ∧ ∀ b, b < a → ¬ P b
theorem wor_armAt {I : IS} {s : SP} (h : RWo I s) (hn : na s ≤ 4) (x : Int32) : ∃ r, f_X6_armAtWorkOn x I = some r ∧ isArmOf (na s) (fun a => af s 0 a = x) r := by
  have e6 : I 0 6 = nI (na s) := h.2.2.2.2.1
  exact loop_ret (fun fu j (_ : Unit) => f_X6_armAtWorkOn_b2 fu x (nI j) I) (na s) (fun j _ => ∀ b, b < j → ¬ af s 0 b = x) (fun r => isArmOf (na s) (fun a => af s 0 a = x) r) (fun fu _ hP => by
    refine ⟨-5, ?_, Or.inl ⟨rfl, hP⟩⟩
    show f_X6_armAtWorkOn_b2 (fu + 1) x (nI (na s)) I = _
    rw [f_X6_armAtWorkOn_b2, e6, if_pos ((nI_leI (by omega) (by omega)).mpr (Nat.le_refl _))]) (fun fu j _ hj hP => by
    have e2 : I (gArm j) 2 = af s 0 j := (h.1 j (by omega)).2.1
    show (∃ r, f_X6_armAtWorkOn_b2 (fu + 1) x (nI j) I = some r ∧ _) ∨ ∃ _, _ ∧ f_X6_armAtWorkOn_b2 (fu + 1) x (nI j) I = f_X6_armAtWorkOn_b2 fu x (nI (j + 1)) I
    by_cases c : af s 0 j = x
    · left
      refine ⟨nI j, ?_, Or.inr ⟨j, hj, rfl, c, hP⟩⟩
      rw [f_X6_armAtWorkOn_b2, e6, if_neg (nI_ge hj (by omega)), if_pos (okI_nI (by omega) (by omega)), nI_clamp (by omega), e2, if_pos c]
    · right
      refine ⟨(), fun b hb => ?_, ?_⟩
      · by_cases hbj : b = j
        · rw [hbj]
          exact c
        · exact hP b (by omega)
      · rw [f_X6_armAtWorkOn_b2, e6, if_neg (nI_ge hj (by omega)), if_pos (okI_nI (by omega) (by omega)), nI_clamp (by omega), e2, if_neg c, nI_1]) (na s) 0 LF () (by omega) (by unfold LF; omega) (fun b hb => absurd hb (Nat.not_lt_zero b))
theorem wor_armRow {I : IS} {s : SP} (h : RWo I s) (hn : na s ≤ 4) (x : Int32) : ∃ r, f_X6_armWithRowOf x I = some r ∧ isArmOf (na s) (fun a => x ∈ rw_ s a) r := by
  have e6 : I 0 6 = nI (na s) := h.2.2.2.2.1
  have n0 : ¬ (1 : Int32) = 0 := by decide
  exact loop_ret (fun fu j (_ : Unit) => f_X6_armWithRowOf_b2 fu x (nI j) I) (na s) (fun j _ => ∀ b, b < j → ¬ x ∈ rw_ s b) (fun r => isArmOf (na s) (fun a => x ∈ rw_ s a) r) (fun fu _ hP => by
    refine ⟨-5, ?_, Or.inl ⟨rfl, hP⟩⟩
    show f_X6_armWithRowOf_b2 (fu + 1) x (nI (na s)) I = _
    rw [f_X6_armWithRowOf_b2, e6, if_pos ((nI_leI (by omega) (by omega)).mpr (Nat.le_refl _))]) (fun fu j _ hj hP => by
    have e2 := arm_holds (h.1 j (by omega)) x
    show (∃ r, f_X6_armWithRowOf_b2 (fu + 1) x (nI j) I = some r ∧ _) ∨ ∃ _, _ ∧ f_X6_armWithRowOf_b2 (fu + 1) x (nI j) I = f_X6_armWithRowOf_b2 fu x (nI (j + 1)) I
    by_cases c : x ∈ rw_ s j
    · left
      rw [if_pos c] at e2
      refine ⟨nI j, ?_, Or.inr ⟨j, hj, rfl, c, hP⟩⟩
      rw [f_X6_armWithRowOf_b2, e6, if_neg (nI_ge hj (by omega)), if_pos (okI_nI (by omega) (by omega)), nI_clamp (by omega), e2, some_bind, if_neg n0]
    · right
      rw [if_neg c] at e2
      refine ⟨(), fun b hb => ?_, ?_⟩
      · by_cases hbj : b = j
        · rw [hbj]
          exact c
        · exact hP b (by omega)
      · rw [f_X6_armWithRowOf_b2, e6, if_neg (nI_ge hj (by omega)), if_pos (okI_nI (by omega) (by omega)), nI_clamp (by omega), e2, some_bind, if_pos rfl, nI_1]) (na s) 0 LF () (by omega) (by unfold LF; omega) (fun b hb => absurd hb (Nat.not_lt_zero b))
/-- one step of a plan -/
noncomputable def eHand (s : SP) (t : Nat) : SP := eUp 4 (eCl (belE s t) s (nT s)).2 t
noncomputable def ePlan (s : SP) (what n : Int32) : SP := if what = 0 then eRound s else if what = 2 then wSd s n else if n < 0 ∨ nI (nT s) ≤ n then s else if tf s 3 n.toNatClampNeg < 3 then eHand s n.toNatClampNeg else s
theorem eHand_k (s : SP) (t : Nat) : na (eHand s t) = na s ∧ nT (eHand s t) = nT s := by
  obtain ⟨b1, b2, -⟩ := eCl_k (belE s t) s (nT s)
  obtain ⟨c1, c2, -⟩ := eUp_k 4 (eCl (belE s t) s (nT s)).2 t
  exact ⟨c2.trans b2, c1.trans b1⟩
theorem wf_plan {s : SP} (h : WF s) (what n : Int32) : WF (ePlan s what n) ∧ na (ePlan s what n) = na s ∧ nT (ePlan s what n) = nT s := by
  have hT : nT s ≤ 32 := h.1.2.2
  unfold ePlan
  by_cases h0 : what = 0
  · rw [if_pos h0]
    exact wf_round h
  · rw [if_neg h0]
    by_cases h2 : what = 2
    · rw [if_pos h2]
      exact ⟨wf_sd h n, rfl, rfl⟩
    · rw [if_neg h2]
      by_cases h3 : n < 0 ∨ nI (nT s) ≤ n
      · rw [if_pos h3]
        exact ⟨h, rfl, rfl⟩
      · rw [if_neg h3]
        by_cases h4 : tf s 3 n.toNatClampNeg < 3
        · rw [if_pos h4]
          obtain ⟨j, hj, e⟩ := nI_of (x := n) (fun q => h3 (Or.inl q))
          have hjT : j < nT s := Nat.lt_of_not_le (fun q => h3 (Or.inr (by rw [e]; exact (nI_leI (by omega) (by omega)).mpr q)))
          have e' : n.toNatClampNeg = j := by rw [e]; exact nI_clamp (by omega)
          rw [e']
          exact ⟨wf_hand h hjT, (eHand_k s j).1, (eHand_k s j).2⟩
        · rw [if_neg h4]
          exact ⟨h, rfl, rfl⟩
theorem wor_plan {I : IS} {s : SP} (h : RWo I s) (hw : WF s) (what n : Int32) : ∃ J, f_X6_goAsPlanned what n I = some J ∧ RWo J (ePlan s what n) := by
  have hT : nT s ≤ 32 := hw.1.2.2
  have n0 : ¬ (1 : Int32) = 0 := by decide
  unfold ePlan
  by_cases h0 : what = 0
  · rw [if_pos h0]
    obtain ⟨J, j1, j2⟩ := wor_round' h hw
    exact ⟨J, by rw [f_X6_goAsPlanned, if_pos h0, j1, some_bind], j2⟩
  · rw [if_neg h0]
    by_cases h2 : what = 2
    · rw [if_pos h2]
      exact ⟨_, by rw [f_X6_goAsPlanned, if_neg h0, if_pos h2], rwo_sd h n⟩
    · rw [if_neg h2]
      rcases pk_ix n (n := nT s) (by omega) with c | c | ⟨j, hj, rfl⟩
      · rw [if_pos (Or.inl c)]
        exact ⟨I, by rw [f_X6_goAsPlanned, if_neg h0, if_neg h2, tas_has_neg c, some_bind, if_pos rfl], h⟩
      · rw [if_pos (Or.inr c)]
        exact ⟨I, by rw [f_X6_goAsPlanned, if_neg h0, if_neg h2, tas_has_big h.2.1 c, some_bind, if_pos rfl], h⟩
      · have c1 : ¬ (nI j < 0 ∨ nI (nT s) ≤ nI j) := fun q => q.elim (nI_lt0 (by omega)) (nI_ge hj (by omega))
        rw [if_neg c1, nI_clamp (by omega)]
        have eE := tas_isEnded h.2.1 (t := j) hj
        by_cases h3 : tf s 3 j < 3
        · rw [if_pos h3]
          rw [if_pos h3] at eE
          obtain ⟨J, j1, j2⟩ := wor_cancelByHand h hw.1.2.1 (wf_p hw) (wf_d hw) hj
          exact ⟨J, by rw [f_X6_goAsPlanned, if_neg h0, if_neg h2, tas_has_in h.2.1 hj, some_bind, if_neg n0, eE, some_bind, if_pos rfl, j1, some_bind], j2⟩
        · rw [if_neg h3]
          rw [if_neg h3] at eE
          exact ⟨I, by rw [f_X6_goAsPlanned, if_neg h0, if_neg h2, tas_has_in h.2.1 hj, some_bind, if_neg n0, eE, some_bind, if_neg n0], h⟩
/-! the Tasks: sums -/
theorem tas_ended {I : IS} {T : Nat} {tf : Nat → Nat → Int32} (h : RTa I T tf) : f_X4_howManyEnded I = some (sm (fun t => if tf 3 t < 3 then 0 else 1) T) := by
  have hT := h.2.1
  exact loop_up (fun fu j (x : Int32) => f_X4_howManyEnded_b4 fu x (nI j) I) T (fun j => sm (fun t => if tf 3 t < 3 then 0 else 1) j) (fun fu => by
    show f_X4_howManyEnded_b4 (fu + 1) _ (nI T) I = _
    rw [f_X4_howManyEnded_b4, h.1, if_pos ((nI_leI (by omega) (by omega)).mpr (Nat.le_refl _))]) (fun fu j hj => by
    show f_X4_howManyEnded_b4 (fu + 1) _ (nI j) I = f_X4_howManyEnded_b4 fu (sm (fun t => if tf 3 t < 3 then 0 else 1) j + (if tf 3 j < 3 then 0 else 1)) (nI (j + 1)) I
    rw [f_X4_howManyEnded_b4, h.1, if_neg (nI_ge hj (by omega)), if_pos (okI_nI (by omega) (by omega)), nI_clamp (by omega), rta_get h hj 3 (by omega)]
    by_cases c : tf 3 j < 3
    · rw [if_pos c, if_pos c, f_X4_howManyEnded_b25, nI_1, Int32.add_zero]
    · rw [if_neg c, if_neg c, f_X4_howManyEnded_b25, nI_1]) T 0 LF (by omega) (by unfold LF; omega)
theorem tas_done {I : IS} {T : Nat} {tf : Nat → Nat → Int32} (h : RTa I T tf) : f_X4_howManyDone I = some (sm (fun t => if tf 3 t = 3 then 1 else 0) T) := by
  have hT := h.2.1
  exact loop_up (fun fu j (x : Int32) => f_X4_howManyDone_b4 fu x (nI j) I) T (fun j => sm (fun t => if tf 3 t = 3 then 1 else 0) j) (fun fu => by
    show f_X4_howManyDone_b4 (fu + 1) _ (nI T) I = _
    rw [f_X4_howManyDone_b4, h.1, if_pos ((nI_leI (by omega) (by omega)).mpr (Nat.le_refl _))]) (fun fu j hj => by
    show f_X4_howManyDone_b4 (fu + 1) _ (nI j) I = f_X4_howManyDone_b4 fu (sm (fun t => if tf 3 t = 3 then 1 else 0) j + (if tf 3 j = 3 then 1 else 0)) (nI (j + 1)) I
    rw [f_X4_howManyDone_b4, h.1, if_neg (nI_ge hj (by omega)), if_pos (okI_nI (by omega) (by omega)), nI_clamp (by omega), rta_get h hj 3 (by omega)]
    by_cases c : tf 3 j = 3
    · rw [if_pos c, if_pos c, f_X4_howManyDone_b25, nI_1]
    · rw [if_neg c, if_neg c, f_X4_howManyDone_b25, nI_1, Int32.add_zero]) T 0 LF (by omega) (by unfold LF; omega)
theorem tas_worths {I : IS} {T : Nat} {tf : Nat → Nat → Int32} (h : RTa I T tf) : f_X4_worthOfAllDone I = some (sm (fun t => if tf 3 t = 3 then tf 2 t else 0) T) := by
  have hT := h.2.1
  exact loop_up (fun fu j (x : Int32) => f_X4_worthOfAllDone_b4 fu x (nI j) I) T (fun j => sm (fun t => if tf 3 t = 3 then tf 2 t else 0) j) (fun fu => by
    show f_X4_worthOfAllDone_b4 (fu + 1) _ (nI T) I = _
    rw [f_X4_worthOfAllDone_b4, h.1, if_pos ((nI_leI (by omega) (by omega)).mpr (Nat.le_refl _))]) (fun fu j hj => by
    show f_X4_worthOfAllDone_b4 (fu + 1) _ (nI j) I = f_X4_worthOfAllDone_b4 fu (sm (fun t => if tf 3 t = 3 then tf 2 t else 0) j + (if tf 3 j = 3 then tf 2 j else 0)) (nI (j + 1)) I
    rw [f_X4_worthOfAllDone_b4, h.1, if_neg (nI_ge hj (by omega)), if_pos (okI_nI (by omega) (by omega)), nI_clamp (by omega), rta_get h hj 3 (by omega)]
    by_cases c : tf 3 j = 3
    · rw [if_pos c, if_pos c, if_pos (okI_nI (by omega) (by omega)), rta_get h hj 2 (by omega), f_X4_worthOfAllDone_b31, nI_1]
    · rw [if_neg c, if_neg c, f_X4_worthOfAllDone_b31, nI_1, Int32.add_zero]) T 0 LF (by omega) (by unfold LF; omega)
theorem sm_low {f : Nat → Int32} : ∀ n, (∀ k, k < n → f k = 0) → sm f n = 0 := by
  intro n
  induction n with
  | zero => intro _; rfl
  | succ n ih =>
    intro h
    show sm f n + f n = 0
    rw [ih (fun k hk => h k (by omega)), h n (by omega)]
    rfl
theorem tas_in {I : IS} {T : Nat} {tf : Nat → Nat → Int32} (h : RTa I T tf) (hw : WFp T tf) {p : Nat} (hp : p < T) : f_X4_howManyIn (nI p) I = some (sm (fun t => if tf 4 t = nI p then 1 else 0) T) := by
  have hT := h.2.1
  have key := loop_up (fun fu j (x : Int32) => f_X4_howManyIn_b6 fu (nI p) x (nI j) I) T (fun j => sm (fun t => if tf 4 t = nI p then 1 else 0) j) (fun fu => by
    show f_X4_howManyIn_b6 (fu + 1) (nI p) _ (nI T) I = _
    rw [f_X4_howManyIn_b6, h.1, if_pos ((nI_leI (by omega) (by omega)).mpr (Nat.le_refl _))]) (fun fu j hj => by
    show f_X4_howManyIn_b6 (fu + 1) (nI p) _ (nI j) I = f_X4_howManyIn_b6 fu (nI p) (sm (fun t => if tf 4 t = nI p then 1 else 0) j + (if tf 4 j = nI p then 1 else 0)) (nI (j + 1)) I
    rw [f_X4_howManyIn_b6, h.1, if_neg (nI_ge hj (by omega)), if_pos (okI_nI (by omega) (by omega)), nI_clamp (by omega), rta_get h hj 4 (by omega)]
    by_cases c : tf 4 j = nI p
    · rw [if_pos c, if_pos c, f_X4_howManyIn_b27, nI_1]
    · rw [if_neg c, if_neg c, f_X4_howManyIn_b27, nI_1, Int32.add_zero]) (T - (p + 1)) (p + 1) LF (by omega) (by unfold LF; omega)
  rw [f_X4_howManyIn, nI_1]
  rw [sm_low (f := fun t => if tf 4 t = nI p then 1 else 0) (p + 1) (fun k hk => by
    show (if tf 4 k = nI p then (1 : Int32) else 0) = 0
    rw [if_neg (fun q => by
      have := wfp_lt hw (t := k) (by omega) hT (p := p) (by omega) q
      omega)])] at key
  exact key
