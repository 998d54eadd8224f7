/-! ===== the World: draws, what an arm takes, what a task that is through does, a round ===== -/
def full (s : SP) (a o : Nat) : Bool := o != a && !(rw_ s o).isEmpty
def fl (s : SP) (a : Nat) : Nat → List Nat
  | 0 => []
  | n + 1 => if full s a n = true then fl s a n ++ [n] else fl s a n
theorem fl_len (s : SP) (a : Nat) : ∀ n, (fl s a n).length ≤ n := by
  intro n
  induction n with
  | zero => exact Nat.le_refl _
  | succ n ih =>
    unfold fl
    by_cases h : full s a n = true
    · rw [if_pos h]; simp; omega
    · rw [if_neg h]; omega
theorem fl_pre (s : SP) (a : Nat) : ∀ (d n k : Nat), k < (fl s a n).length → (fl s a (n + d))[k]? = (fl s a n)[k]? := by
  intro d
  induction d with
  | zero => intro n k _; rfl
  | succ d ih =>
    intro n k hk
    have h1 : k < (fl s a (n + d)).length := by
      have := ih n k hk
      rw [List.getElem?_eq_getElem hk] at this
      exact (List.getElem?_eq_some_iff.mp this).1
    show (if full s a (n + d) = true then fl s a (n + d) ++ [n + d] else fl s a (n + d))[k]? = _
    by_cases h : full s a (n + d) = true
    · rw [if_pos h, List.getElem?_append_left h1]
      exact ih n k hk
    · rw [if_neg h]
      exact ih n k hk
theorem fl_mem (s : SP) (a : Nat) : ∀ (n o : Nat), o ∈ fl s a n → o < n ∧ full s a o = true := by
  intro n
  induction n with
  | zero => intro o h; cases h
  | succ n ih =>
    intro o h
    unfold fl at h
    by_cases hf : full s a n = true
    · rw [if_pos hf] at h
      rcases List.mem_append.mp h with h | h
      · have := ih o h
        exact ⟨by omega, this.2⟩
      · rw [List.mem_singleton.mp h]
        exact ⟨by omega, hf⟩
    · rw [if_neg hf] at h
      have := ih o h
      exact ⟨by omega, this.2⟩
def sdN (d : Int32) : Int32 := d * 1103515245 + 12345
def shN (d : Int32) : Nat := d.toBitVec.toNat / 65536
theorem shN_lt (d : Int32) : shN d < 65536 := by
  unfold shN
  have := d.toBitVec.isLt
  omega
theorem sh_eq (d : Int32) : (d.toUInt32 >>> ((16 : Int32).toUInt32 &&& Int32.toUInt32 31)).toInt32 = nI (shN d) := by
  have h := pk_ushr d 16 16 (by decide)
  have h2 : (nI (shN d)).toBitVec.toNat = shN d := pk_tn (by have := shN_lt d; omega)
  apply Int32.toBitVec_inj.mp
  apply BitVec.eq_of_toNat_eq
  rw [h, h2]
  rfl
noncomputable def eDr (s : SP) (a : Nat) : Option Nat × SP := if (fl s a (na s)).length = 0 then (none, s) else ((fl s a (na s))[shN (sdN (sd s)) % (fl s a (na s)).length]?, wSd s (sdN (sd s)))
theorem full_iff {s : SP} {a o : Nat} : full s a o = true ↔ o ≠ a ∧ (rw_ s o).length ≠ 0 := by
  unfold full
  cases h : rw_ s o <;> simp
theorem rw_wSd (s : SP) (d : Int32) : rw_ (wSd s d) = rw_ s := rfl
theorem dr_le0 {n : Nat} (hn : n ≤ 32) : nI n ≤ (0 : Int32) ↔ n = 0 := by
  rw [show (0 : Int32) = nI 0 from rfl, nI_leI (by omega) (by omega)]
  omega
theorem dr_e0 {n : Nat} (hn : n ≤ 32) : nI n = (0 : Int32) ↔ n = 0 := by
  rw [show (0 : Int32) = nI 0 from rfl, nI_eq (by omega) (by omega)]
theorem dr_cnt {I : IS} {s : SP} {n : Nat} (hn : n ≤ 4) (e6 : I 0 6 = nI n) (hl : ∀ j, j < 4 → I (gArm j) 1 = nI (rw_ s j).length ∧ (rw_ s j).length ≤ 32) {a : Nat} (ha : a < n) : f_X6_drawnArm (nI a) I = f_X6_drawnArm_b4 1 (nI a) (nI (fl s a n).length) (nI n) I := by
  have c : nI n ≤ nI n := (nI_leI (by omega) (by omega)).mpr (Nat.le_refl _)
  have cnt := loop_up (fun fu j (x : Int32) => f_X6_drawnArm_b4 fu (nI a) x (nI j) I) n (fun j => nI (fl s a j).length) (r := f_X6_drawnArm_b4 1 (nI a) (nI (fl s a n).length) (nI n) I) (fun fu => by
    show f_X6_drawnArm_b4 (fu + 1) (nI a) (nI (fl s a n).length) (nI n) I = _
    rw [f_X6_drawnArm_b4, f_X6_drawnArm_b4, e6, if_pos c, if_pos c]) (fun fu j hj => by
    show f_X6_drawnArm_b4 (fu + 1) (nI a) (nI (fl s a j).length) (nI j) I = f_X6_drawnArm_b4 fu (nI a) (nI (fl s a (j + 1)).length) (nI (j + 1)) I
    have c1 : ¬ nI n ≤ nI j := nI_ge hj (by omega)
    have c2 : okI (nI j) 4 = true := okI_nI (by omega) (by omega)
    obtain ⟨g1, g2⟩ := hl j (by omega)
    have ef : fl s a (j + 1) = if full s a j = true then fl s a j ++ [j] else fl s a j := rfl
    by_cases hja : j = a
    · rw [f_X6_drawnArm_b4, e6, if_neg c1, if_pos (by rw [hja]), f_X6_drawnArm_b32, nI_1, ef, if_neg (fun q => (full_iff.mp q).1 hja)]
    · have cja : ¬ nI j = nI a := fun q => hja ((nI_eq (by omega) (by omega)).mp q)
      by_cases h0 : (rw_ s j).length = 0
      · rw [f_X6_drawnArm_b4, e6, if_neg c1, if_neg cja, if_pos c2, nI_clamp (by omega), g1, if_pos ((dr_le0 g2).mpr h0), f_X6_drawnArm_b32, nI_1, ef, if_neg (fun q => (full_iff.mp q).2 h0)]
      · have ee : nI (fl s a j ++ [j]).length = nI ((fl s a j).length + 1) := by rw [List.length_append]; rfl
        rw [f_X6_drawnArm_b4, e6, if_neg c1, if_neg cja, if_pos c2, nI_clamp (by omega), g1, if_neg (fun q => h0 ((dr_le0 g2).mp q)), f_X6_drawnArm_b32, nI_1, nI_1, ef, if_pos (full_iff.mpr ⟨hja, h0⟩), ee]) n 0 LF (by omega) (by unfold LF; omega)
  rw [f_X6_drawnArm]
  exact cnt
theorem dr_pick {J : IS} {s : SP} {n : Nat} (hn : n ≤ 4) (e6 : J 0 6 = nI n) (hl : ∀ j, j < 4 → J (gArm j) 1 = nI (rw_ s j).length ∧ (rw_ s j).length ≤ 32) {a idx o : Nat} (ha : a < n) (hidx : idx < (fl s a n).length) (ho : (fl s a n)[idx]? = some o) : f_X6_drawnArm_b73 LF (nI a) (nI idx) (nI 0) J = some (nI o, J) := by
  have hN : (fl s a n).length ≤ 4 := Nat.le_trans (fl_len s a n) hn
  have key := loop_ret (fun fu j (x : Int32) => f_X6_drawnArm_b73 fu (nI a) x (nI j) J) n (fun j x => (fl s a j).length ≤ idx ∧ x = nI (idx - (fl s a j).length)) (fun r => r = (nI o, J)) (fun fu x hP => by
    exfalso
    have := hP.1
    omega) (fun fu j x hj hP => by
    obtain ⟨hP1, hP2⟩ := hP
    have c1 : ¬ nI n ≤ nI j := nI_ge hj (by omega)
    have c2 : okI (nI j) 4 = true := okI_nI (by omega) (by omega)
    obtain ⟨g1, g2⟩ := hl j (by omega)
    have ef : fl s a (j + 1) = if full s a j = true then fl s a j ++ [j] else fl s a j := rfl
    show (∃ r, f_X6_drawnArm_b73 (fu + 1) (nI a) x (nI j) J = some r ∧ _) ∨ ∃ x', _ ∧ f_X6_drawnArm_b73 (fu + 1) (nI a) x (nI j) J = f_X6_drawnArm_b73 fu (nI a) x' (nI (j + 1)) J
    by_cases hja : j = a
    · right
      refine ⟨x, by rw [ef, if_neg (fun q => (full_iff.mp q).1 hja)]; exact ⟨hP1, hP2⟩, ?_⟩
      rw [f_X6_drawnArm_b73, e6, if_neg c1, if_pos (by rw [hja]), f_X6_drawnArm_b111, nI_1]
    · have cja : ¬ nI j = nI a := fun q => hja ((nI_eq (by omega) (by omega)).mp q)
      by_cases h0 : (rw_ s j).length = 0
      · right
        refine ⟨x, by rw [ef, if_neg (fun q => (full_iff.mp q).2 h0)]; exact ⟨hP1, hP2⟩, ?_⟩
        rw [f_X6_drawnArm_b73, e6, if_neg c1, if_neg cja, if_pos c2, nI_clamp (by omega), g1, if_pos ((dr_le0 g2).mpr h0), f_X6_drawnArm_b111, nI_1]
      · have hf := full_iff.mpr ⟨hja, h0⟩
        have el : (fl s a (j + 1)).length = (fl s a j).length + 1 := by rw [ef, if_pos hf, List.length_append]; rfl
        by_cases hx : idx - (fl s a j).length = 0
        · left
          have hxo : some j = some o := by
            have e1 : (fl s a (j + 1))[idx]? = some j := by
              rw [ef, if_pos hf, show idx = (fl s a j).length by omega]
              simp
            have e2 := fl_pre s a (n - (j + 1)) (j + 1) idx (by omega)
            rw [show j + 1 + (n - (j + 1)) = n by omega, ho, e1] at e2
            exact e2.symm
          cases hxo
          refine ⟨(nI o, J), ?_, rfl⟩
          rw [f_X6_drawnArm_b73, e6, if_neg c1, if_neg cja, if_pos c2, nI_clamp (by omega), g1, if_neg (fun q => h0 ((dr_le0 g2).mp q)), if_pos (by rw [hP2, hx]; rfl)]
        · right
          have hx0 : ¬ x = 0 := by
            rw [hP2]
            exact nI_ne0 (by omega) (by omega)
          refine ⟨x + (-1), ⟨by omega, ?_⟩, ?_⟩
          · rw [hP2, el, show idx - (fl s a j).length = (idx - ((fl s a j).length + 1)) + 1 by omega]
            exact pk_m1 _
          · rw [f_X6_drawnArm_b73, e6, if_neg c1, if_neg cja, if_pos c2, nI_clamp (by omega), g1, if_neg (fun q => h0 ((dr_le0 g2).mp q)), if_neg hx0, f_X6_drawnArm_b111, nI_1]) n 0 LF (nI idx) (by omega) (by unfold LF; omega) ⟨Nat.zero_le _, by show nI idx = nI (idx - 0); rfl⟩
  obtain ⟨r, r1, r2⟩ := key
  rw [r2] at r1
  exact r1
theorem wor_drawn {I : IS} {s : SP} (h : RWo I s) (hn : na s ≤ 4) {a : Nat} (ha : a < na s) : (eDr s a = (none, s) ∧ f_X6_drawnArm (nI a) I = some (-5, I)) ∨ ∃ o J, eDr s a = (some o, wSd s (sdN (sd s))) ∧ o < na s ∧ full s a o = true ∧ f_X6_drawnArm (nI a) I = some (nI o, J) ∧ RWo J (wSd s (sdN (sd s))) := by
  have e6 : I 0 6 = nI (na s) := h.2.2.2.2.1
  have e7 : I 0 7 = sd s := h.2.2.2.2.2.1
  have hl : ∀ j, j < 4 → I (gArm j) 1 = nI (rw_ s j).length ∧ (rw_ s j).length ≤ 32 := fun j hj => ⟨(h.1 j hj).1.1, (h.1 j hj).1.2.1⟩
  have ev := dr_cnt hn e6 hl ha
  have hN : (fl s a (na s)).length ≤ 4 := Nat.le_trans (fl_len s a _) hn
  have c : nI (na s) ≤ nI (na s) := (nI_leI (by omega) (by omega)).mpr (Nat.le_refl _)
  by_cases hz : (fl s a (na s)).length = 0
  · left
    refine ⟨by rw [eDr, if_pos hz], ?_⟩
    rw [ev, f_X6_drawnArm_b4, e6, if_pos c, if_pos ((dr_e0 (by omega)).mpr hz)]
  · right
    have es : I 0 7 * (1103515245 : Int32) + (12345 : Int32) = sdN (sd s) := by rw [e7, sdN]
    rw [eDr, if_neg hz]
    generalize sdN (sd s) = d at es ⊢
    have hidx : shN d % (fl s a (na s)).length < (fl s a (na s)).length := Nat.mod_lt _ (by omega)
    obtain ⟨o, ho⟩ : ∃ o, (fl s a (na s))[shN d % (fl s a (na s)).length]? = some o := ⟨_, List.getElem?_eq_getElem hidx⟩
    have hJ := rwo_sd h d
    obtain ⟨ho1, ho2⟩ := fl_mem s a (na s) o (List.mem_of_getElem? ho)
    refine ⟨o, u2 I 0 7 d, by rw [ho], ho1, ho2, ?_, hJ⟩
    have od : okD (nI (fl s a (na s)).length) = true := by
      unfold okD
      exact decide_eq_true (fun q => hz ((dr_e0 (by omega)).mp q))
    have ei : nI (shN d) - nI (shN d) / nI (fl s a (na s)).length * nI (fl s a (na s)).length = nI (shN d % (fl s a (na s)).length) := pk_rem (by have := shN_lt d; omega) (by omega) (by omega)
    have e6' : u2 I 0 7 d 0 6 = nI (na s) := by
      rw [u2_ne _ _ (Or.inr (by omega))]
      exact e6
    have hl' : ∀ j, j < 4 → u2 I 0 7 d (gArm j) 1 = nI (rw_ s j).length ∧ (rw_ s j).length ≤ 32 := fun j hj => by
      have g := (hJ.1 j hj).1
      rw [rw_wSd] at g
      exact ⟨g.1, g.2.1⟩
    have key := dr_pick hn e6' hl' ha hidx ho
    rw [ev, f_X6_drawnArm_b4, e6, if_pos c, if_neg (fun q => hz ((dr_e0 (by omega)).mp q)), if_pos od, es, u2_eq, sh_eq, ei]
    exact key
