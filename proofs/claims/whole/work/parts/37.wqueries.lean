/-! ===== the World: over, who works on what ===== -/
def busy (s : SP) : Prop := (∃ a, a < na s ∧ (rw_ s a ≠ [] ∨ af s 0 a ≠ -5)) ∨ ∃ t, t < nT s ∧ tf s 3 t = 2
theorem nI_above0 {t : Nat} (h0 : t ≠ 0) (ht : t < 2 ^ 31) : (0 : Int32) < nI t := by
  have c : ¬ nI t ≤ nI 0 := fun q => h0 (by
    have := (nI_leI ht (by omega)).mp q
    omega)
  have h3 : (nI 0).toInt = (0 : Int32).toInt := rfl
  rw [Int32.lt_iff_toInt_lt]
  rw [Int32.le_iff_toInt_le] at c
  omega
theorem wor_isOver {I : IS} {s : SP} (h : RWo I s) (hn : na s ≤ 4) : ∃ r, f_X6_isOver I = some r ∧ (r = 1 ∧ ¬ busy s ∨ r = 0 ∧ busy s) := by
  have hT : nT s ≤ 32 := h.2.1.2.1
  have e6 : I 0 6 = nI (na s) := h.2.2.2.2.1
  have e8 : I 10 8 = nI (nT s) := h.2.1.1
  have second : (∀ a, a < na s → rw_ s a = [] ∧ af s 0 a = -5) → ∃ r, f_X6_isOver_b46 LF 0 I = some r ∧ (r = 1 ∧ ¬ busy s ∨ r = 0 ∧ busy s) := fun hq => by
    have key := loop_ret (fun fu j (_ : Unit) => f_X6_isOver_b46 fu (nI j) I) (nT s) (fun j _ => ∀ t, t < j → tf s 3 t ≠ 2) (fun r => r = 1 ∧ ¬ busy s ∨ r = 0 ∧ busy s) (fun fu _ hP => by
      have c : nI (nT s) ≤ nI (nT s) := (nI_leI (by omega) (by omega)).mpr (Nat.le_refl _)
      refine ⟨1, ?_, Or.inl ⟨rfl, fun q => ?_⟩⟩
      · show f_X6_isOver_b46 (fu + 1) (nI (nT s)) I = _
        rw [f_X6_isOver_b46, e8, if_pos c]
      · rcases q with ⟨a, ha, q⟩ | ⟨t, ht, q⟩
        · rcases q with q | q
          · exact q (hq a ha).1
          · exact q (hq a ha).2
        · exact hP t ht q) (fun fu j _ hj hP => by
      have c1 : ¬ nI (nT s) ≤ nI j := nI_ge hj (by omega)
      have c2 : okI (nI j) 32 = true := okI_nI (by omega) (by omega)
      have e14 : I 14 j = tf s 3 j := rta_get h.2.1 hj 3 (by omega)
      show (∃ r, f_X6_isOver_b46 (fu + 1) (nI j) I = some r ∧ _) ∨ ∃ _, _ ∧ f_X6_isOver_b46 (fu + 1) (nI j) I = f_X6_isOver_b46 fu (nI (j + 1)) I
      by_cases c : tf s 3 j = 2
      · left
        refine ⟨0, ?_, Or.inr ⟨rfl, Or.inr ⟨j, hj, c⟩⟩⟩
        rw [f_X6_isOver_b46, e8, if_neg c1, if_pos c2, nI_clamp (by omega), e14, if_pos c]
      · right
        refine ⟨(), fun t ht => ?_, ?_⟩
        · by_cases htj : t = j
          · rw [htj]
            exact c
          · exact hP t (by omega)
        · rw [f_X6_isOver_b46, e8, if_neg c1, if_pos c2, nI_clamp (by omega), e14, if_neg c, nI_1]) (nT s) 0 LF () (by omega) (by unfold LF; omega) (fun t ht => absurd ht (Nat.not_lt_zero t))
    exact key
  have key := loop_ret (fun fu j (_ : Unit) => f_X6_isOver_b2 fu (nI j) I) (na s) (fun j _ => ∀ a, a < j → rw_ s a = [] ∧ af s 0 a = -5) (fun r => r = 1 ∧ ¬ busy s ∨ r = 0 ∧ busy s) (fun fu _ hP => by
    have c : nI (na s) ≤ nI (na s) := (nI_leI (by omega) (by omega)).mpr (Nat.le_refl _)
    obtain ⟨r, r1, r2⟩ := second hP
    refine ⟨r, ?_, r2⟩
    show f_X6_isOver_b2 (fu + 1) (nI (na s)) I = _
    rw [f_X6_isOver_b2, e6, if_pos c]
    exact r1) (fun fu j _ hj hP => by
    have c1 : ¬ nI (na s) ≤ nI j := nI_ge hj (by omega)
    have c2 : okI (nI j) 4 = true := okI_nI (by omega) (by omega)
    have hA := h.1 j (by omega)
    have g1 : I (gArm j) 1 = nI (rw_ s j).length := hA.1.1
    have g2 : I (gArm j) 2 = af s 0 j := hA.2.1
    have g3 : (rw_ s j).length ≤ 32 := hA.1.2.1
    show (∃ r, f_X6_isOver_b2 (fu + 1) (nI j) I = some r ∧ _) ∨ ∃ _, _ ∧ f_X6_isOver_b2 (fu + 1) (nI j) I = f_X6_isOver_b2 fu (nI (j + 1)) I
    by_cases c : (rw_ s j).length = 0
    · have c3 : ¬ (0 : Int32) < nI (rw_ s j).length := by
        rw [c]
        exact fun q => Int32.lt_irrefl q
      by_cases c4 : af s 0 j = -5
      · right
        refine ⟨(), fun a ha => ?_, ?_⟩
        · by_cases haj : a = j
          · rw [haj]
            exact ⟨List.length_eq_zero_iff.mp c, c4⟩
          · exact hP a (by omega)
        · rw [f_X6_isOver_b2, e6, if_neg c1, if_pos c2, nI_clamp (by omega), g1, if_neg c3, if_pos c2, g2, if_pos c4, nI_1]
      · left
        refine ⟨0, ?_, Or.inr ⟨rfl, Or.inl ⟨j, hj, Or.inr c4⟩⟩⟩
        rw [f_X6_isOver_b2, e6, if_neg c1, if_pos c2, nI_clamp (by omega), g1, if_neg c3, if_pos c2, g2, if_neg c4, f_X6_isOver_b36]
    · left
      refine ⟨0, ?_, Or.inr ⟨rfl, Or.inl ⟨j, hj, Or.inl (fun q => c (by rw [q]; rfl))⟩⟩⟩
      have c3 : (0 : Int32) < nI (rw_ s j).length := nI_above0 c (by omega)
      rw [f_X6_isOver_b2, e6, if_neg c1, if_pos c2, nI_clamp (by omega), g1, if_pos c3, f_X6_isOver_b36]) (na s) 0 LF () (by omega) (by unfold LF; omega) (fun t ht => absurd ht (Nat.not_lt_zero t))
  exact key
