/-! ===== the World: over, rounds ===== -/
def isJ (s : SP) : Prop := (∃ a, a < na s ∧ (rw_ s a ≠ [] ∨ af s 0 a ≠ -5)) ∨ ∃ t, t < nT s ∧ tf s 3 t = 2
theorem wor_isOver {I : IS} {s : SP} (h : RWo I s) (hn : na s ≤ 4) : ∃ r, f_X6_isOver I = some r ∧ (r = 1 ∧ ¬ isJ s ∨ r = 0 ∧ isJ s) := by
  sorry
