/-! ===== the text is read: a task ===== -/
theorem nI_48 {w : Nat} : nI (48 + w) - (48 : Int32) = nI w := by
  have := nI_sub' w 48
  rw [show w + 48 = 48 + w by omega] at this
  exact this
theorem c_begin {N : Nat} {sg : Nat → Int32} {C : IS} {m d : Nat} {c : Int32} {w : Nat} (h : TRc N sg C m d 0) (hm : m < 100) (hd : d ≤ 4) (hw1 : 1 ≤ w) (hw9 : w ≤ 9) (hc : c = nI (48 + w)) : ∃ C', f_X5_goesOn c C = some (1, C') ∧ TRc N sg C' (m + 1) d 1 ∧ (∀ b, C' 2 b = if b = m then nI w else C 2 b) ∧ (∀ b, C' 3 b = if b = m then 0 else C 3 b) ∧ (∀ b, C' 4 b = if b = m then (if d = 0 then -5 else C 5 (d - 1)) else C 4 b) ∧ C' 5 = C 5 ∧ ∀ b, C' 6 b = if d ≠ 0 ∧ b = d - 1 then C 6 b + 1 else C 6 b := by
  obtain ⟨s1, s2, s3, s4, s5⟩ := h
  have cm : okI (nI m) 100 = true := okI_nI hm (by omega)
  have lm : nI m < (100 : Int32) := (nI_ltI (b := 100) (by omega) (by omega)).mpr hm
  have c1 : ¬ c < 49 := fun q => by
    rw [hc, lt_iff32, tnI (by omega)] at q
    have : (49 : Int32).toInt = 49 := rfl
    omega
  have c2 : ¬ 57 < c := fun q => by
    rw [hc, lt_iff32, tnI (by omega)] at q
    have : (57 : Int32).toInt = 57 := rfl
    omega
  -- what all ways have: the end
  have fin : ∀ Y : IS, (∀ b, Y 0 b = C 0 b) → Y 1 = C 1 → TRc N sg (u2 (u2 Y 0 5 (nI (m + 1))) 0 9 1) (m + 1) d 1 ∧ f_X5_begin_b87 Y = some (1, u2 (u2 Y 0 5 (nI (m + 1))) 0 9 1) := fun Y y0 y1 => by
    refine ⟨⟨by rw [u2_ne _ _ (Or.inr (by omega)), u2_ne _ _ (Or.inr (by omega)), y0]; exact s1, by rw [u2_ne _ _ (Or.inr (by omega)), u2_eq], by rw [u2_ne _ _ (Or.inr (by omega)), u2_ne _ _ (Or.inr (by omega)), y0]; exact s3, u2_eq _ _ _ _, fun k hk => by rw [u2_oth _ _ _ (by omega), u2_oth _ _ _ (by omega), y1]; exact s5 k hk⟩, ?_⟩
    rw [f_X5_begin_b87, y0, s2, nI_1]
  have z3 : ∀ b, u2 (u2 C 2 m (nI w)) 3 m 0 0 b = C 0 b := fun b => by rw [u2_oth _ _ _ (by omega), u2_oth _ _ _ (by omega)]
  have z4 : ∀ b, u2 (u2 (u2 C 2 m (nI w)) 3 m 0) 4 m (-5) 0 b = C 0 b := fun b => by rw [u2_oth _ _ _ (by omega), z3]
  have hg : f_X5_goesOn c C = ((f_X5_begin (nI w) C).bind fun q24 => (if q24.1 = 0 then f_X5_goesOn_b34 q24.2 else f_X5_goesOn_b35 1 q24.2)) := by
    rw [f_X5_goesOn, s4, if_pos rfl, if_neg c1, if_neg c2, hc, nI_48]
  have hb : f_X5_begin (nI w) C = (if nI d ≤ 0 then f_X5_begin_b87 (u2 (u2 (u2 C 2 m (nI w)) 3 m 0) 4 m (-5)) else (if okI (nI d - 1) 4 = true then ((some (u2 (u2 (u2 (u2 C 2 m (nI w)) 3 m 0) 4 m (-5)) 4 m (C 5 (nI d - 1).toNatClampNeg))).bind fun I10 => (if okI (I10 0 8 - 1) 4 = true then (if okI (I10 0 8 - 1) 4 = true then ((some (u2 I10 6 (I10 0 8 - 1).toNatClampNeg (I10 6 (I10 0 8 - 1).toNatClampNeg + 1))).bind fun I14 => f_X5_begin_b87 I14) else none) else none)) else none)) := by
    rw [f_X5_begin, s2, if_pos lm, if_pos cm, nI_clamp (by omega), u2_oth _ _ _ (show 0 ≠ 2 by omega), s2, if_pos cm, some_bind, nI_clamp (by omega), z3, s2, if_pos cm, nI_clamp (by omega), z4, s3, z4, s2, if_pos cm, nI_clamp (by omega), u2_oth _ _ _ (show 5 ≠ 4 by omega), u2_oth _ _ _ (show 5 ≠ 3 by omega), u2_oth _ _ _ (show 5 ≠ 2 by omega)]
  rw [hg, hb]
  by_cases d0 : d = 0
  · obtain ⟨f1, f2⟩ := fin (u2 (u2 (u2 C 2 m (nI w)) 3 m 0) 4 m (-5)) z4 (by rw [u2_oth _ _ _ (by omega), u2_oth _ _ _ (by omega), u2_oth _ _ _ (by omega)])
    rw [if_pos ((le0_nI (by omega)).mpr d0), f2, some_bind, if_neg z10, f_X5_goesOn_b35, if_pos okZ1]
    refine ⟨u2 (u2 (u2 (u2 (u2 C 2 m (nI w)) 3 m 0) 4 m (-5)) 0 5 (nI (m + 1))) 0 9 1, rfl, f1, fun b => ?_, fun b => ?_, fun b => ?_, ?_, fun b => ?_⟩
    · rw [u2_oth _ _ _ (by omega), u2_oth _ _ _ (by omega), u2_oth _ _ _ (by omega), u2_oth _ _ _ (by omega), u2_fun]
    · rw [u2_oth _ _ _ (by omega), u2_oth _ _ _ (by omega), u2_oth _ _ _ (by omega), u2_fun, u2_oth _ _ _ (by omega)]
    · rw [u2_oth _ _ _ (by omega), u2_oth _ _ _ (by omega), u2_fun, u2_oth _ _ _ (by omega), u2_oth _ _ _ (by omega), if_pos d0]
    · rw [u2_oth _ _ _ (by omega), u2_oth _ _ _ (by omega), u2_oth _ _ _ (by omega), u2_oth _ _ _ (by omega), u2_oth _ _ _ (by omega)]
    · rw [u2_oth _ _ _ (by omega), u2_oth _ _ _ (by omega), u2_oth _ _ _ (by omega), u2_oth _ _ _ (by omega), u2_oth _ _ _ (by omega), if_neg (fun q => q.1 d0)]
  · have ed : nI d - 1 = nI (d - 1) := by
      have := nI_s1 (d - 1)
      rw [show d - 1 + 1 = d by omega] at this
      exact this
    have co : okI (nI (d - 1)) 4 = true := okI_nI (by omega) (by omega)
    have z5 : ∀ b, u2 (u2 (u2 (u2 C 2 m (nI w)) 3 m 0) 4 m (-5)) 4 m (C 5 (d - 1)) 0 b = C 0 b := fun b => by rw [u2_oth _ _ _ (by omega), z4]
    have z6 : u2 (u2 (u2 (u2 C 2 m (nI w)) 3 m 0) 4 m (-5)) 4 m (C 5 (d - 1)) 6 = C 6 := by rw [u2_oth _ _ _ (by omega), u2_oth _ _ _ (by omega), u2_oth _ _ _ (by omega), u2_oth _ _ _ (by omega)]
    obtain ⟨f1, f2⟩ := fin (u2 (u2 (u2 (u2 (u2 C 2 m (nI w)) 3 m 0) 4 m (-5)) 4 m (C 5 (d - 1))) 6 (d - 1) (C 6 (d - 1) + 1)) (fun b => by rw [u2_oth _ _ _ (by omega), z5]) (by rw [u2_oth _ _ _ (by omega), u2_oth _ _ _ (by omega), u2_oth _ _ _ (by omega), u2_oth _ _ _ (by omega), u2_oth _ _ _ (by omega)])
    rw [if_neg (fun q => d0 ((le0_nI (by omega)).mp q)), ed, if_pos co, nI_clamp (by omega), some_bind, z5, s3, ed, if_pos co, if_pos co, nI_clamp (by omega), z6, some_bind, f2, some_bind, if_neg z10, f_X5_goesOn_b35, if_pos okZ1]
    refine ⟨u2 (u2 (u2 (u2 (u2 (u2 (u2 C 2 m (nI w)) 3 m 0) 4 m (-5)) 4 m (C 5 (d - 1))) 6 (d - 1) (C 6 (d - 1) + 1)) 0 5 (nI (m + 1))) 0 9 1, rfl, f1, fun b => ?_, fun b => ?_, fun b => ?_, ?_, fun b => ?_⟩
    · rw [u2_oth _ _ _ (by omega), u2_oth _ _ _ (by omega), u2_oth _ _ _ (by omega), u2_oth _ _ _ (by omega), u2_oth _ _ _ (by omega), u2_oth _ _ _ (by omega), u2_fun]
    · rw [u2_oth _ _ _ (by omega), u2_oth _ _ _ (by omega), u2_oth _ _ _ (by omega), u2_oth _ _ _ (by omega), u2_oth _ _ _ (by omega), u2_fun, u2_oth _ _ _ (by omega)]
    · rw [u2_oth _ _ _ (by omega), u2_oth _ _ _ (by omega), u2_oth _ _ _ (by omega), u2_fun, u2_fun, u2_oth _ _ _ (by omega), u2_oth _ _ _ (by omega), if_neg d0]
      show (if b = m then C 5 (d - 1) else (if b = m then -5 else C 4 b)) = (if b = m then C 5 (d - 1) else C 4 b)
      by_cases hb : b = m
      · rw [if_pos hb, if_pos hb]
      · rw [if_neg hb, if_neg hb, if_neg hb]
    · rw [u2_oth _ _ _ (by omega), u2_oth _ _ _ (by omega), u2_oth _ _ _ (by omega), u2_oth _ _ _ (by omega), u2_oth _ _ _ (by omega), u2_oth _ _ _ (by omega), u2_oth _ _ _ (by omega)]
    · rw [u2_oth _ _ _ (by omega), u2_oth _ _ _ (by omega), u2_ap, z6]
      by_cases hb : b = d - 1
      · rw [if_pos ⟨rfl, hb⟩, if_pos ⟨d0, hb⟩, hb]
      · rw [if_neg (fun q => hb q.2), if_neg (fun q => hb q.2)]
/-- the Model reads a task, with its mark if one comes -/
theorem m_begin {N : Nat} {sg : Nat → Int32} {M0 M : IS} {p m d w : Nat} (hN : N ≤ 100) (hp : p < N) (h : TRm N sg M p m d) (hm : m < 100) (hd : d ≤ 4) (hw1 : 1 ≤ w) (hw9 : w ≤ 9) (hc : sg p = nI (48 + w)) (hF : FRm M0 M) : ∃ M' p' mk, f_X8_readTask M = some M' ∧ TRm N sg M' p' (m + 1) d ∧ FRm M0 M' ∧ (∀ b, M' 24 b = if b = m then nI w else M 24 b) ∧ (∀ b, M' 25 b = if b = m then mk else M 25 b) ∧ (∀ b, M' 26 b = if b = m then (if d = 0 then -5 else M 27 (d - 1)) else M 26 b) ∧ M' 27 = M 27 ∧ M' 28 = M 28 ∧ ((p' = p + 1 ∧ mk = 0 ∧ ¬ (p + 1 < N ∧ (sg (p + 1) = 33 ∨ sg (p + 1) = 63))) ∨ (p' = p + 2 ∧ p + 1 < N ∧ (mk = 1 ∧ sg (p + 1) = 33 ∨ mk = 2 ∧ sg (p + 1) = 63))) := by
  obtain ⟨t1, t2, t3, t4, t5, t6⟩ := h
  have cm : okI (nI m) 101 = true := okI_nI (by omega) (by omega)
  have hh := m_here hN (show p ≤ N by omega) t1 t2 t6
  rw [if_pos hp] at hh
  have hin : f_X8_in (sg p).toInt64 (49 : Int64) (57 : Int64) = some 1 := m_inT (sg p) 49 57 (by
    rw [hc, le_iff32, le_iff32, tnI (by omega)]
    have : (49 : Int32).toInt = 49 := rfl
    have : (57 : Int32).toInt = 57 := rfl
    omega)
  have e40 : u2 M 0 40 0 = M := u2_self _ _ _ t3
  have n45 : ∀ v : Int32, u2 M 24 m v 0 45 = nI d := fun v => by rw [u2_oth _ _ _ (by omega)]; exact t5
  have ins : (if d = 0 then (-5 : Int32) else M 27 (d - 1)) = (if d = 0 then -5 else M 27 (d - 1)) := rfl
  generalize hv : (if d = 0 then (-5 : Int32) else M 27 (d - 1)) = v at ins
  have hr : f_X8_readTask M = f_X8_readTask_b80 (nI m) (nI m) v (u2 M 24 m (nI w)) := by
    rw [f_X8_readTask, hh, some_bind, hin, some_bind, if_neg z10, t4, f_X8_readTask_b28, if_pos okZ0, e40, t3, if_pos rfl, hh, some_bind, if_pos cm, hc, nI_48, nI_clamp (by omega), n45]
    by_cases d0 : d = 0
    · rw [d0, if_pos (show nI 0 = 0 from rfl), ← hv, if_pos d0]
    · have ed : nI d - 1 = nI (d - 1) := by
        have := nI_s1 (d - 1)
        rw [show d - 1 + 1 = d by omega] at this
        exact this
      rw [if_neg (nI_ne0 (Nat.pos_of_ne_zero d0) (by omega)), ed, if_pos (okI_nI (by omega) (by omega)), nI_clamp (by omega), u2_oth _ _ _ (show 27 ≠ 24 by omega), ← hv, if_neg d0]
  -- the state behind the task itself
  generalize hX : u2 (u2 (u2 (u2 (u2 M 24 m (nI w)) 26 m v) 25 m 0) 0 41 (nI (m + 1))) 0 39 (nI (p + 1)) = X
  have x0 : ∀ b, b ≠ 39 → b ≠ 41 → X 0 b = M 0 b := fun b h1 h2 => by rw [← hX, u2_ne _ _ (Or.inr h1), u2_ne _ _ (Or.inr h2), u2_oth _ _ _ (by omega), u2_oth _ _ _ (by omega), u2_oth _ _ _ (by omega)]
  have xi : ∀ i, i ≠ 0 → i ≠ 24 → i ≠ 25 → i ≠ 26 → X i = M i := fun i h0 h1 h2 h3 => by rw [← hX, u2_oth _ _ _ h0, u2_oth _ _ _ h0, u2_oth _ _ _ h2, u2_oth _ _ _ h3, u2_oth _ _ _ h1]
  have x24 : ∀ b, X 24 b = if b = m then nI w else M 24 b := fun b => by rw [← hX, u2_oth _ _ _ (by omega), u2_oth _ _ _ (by omega), u2_oth _ _ _ (by omega), u2_oth _ _ _ (by omega), u2_fun]
  have x25 : ∀ b, X 25 b = if b = m then 0 else M 25 b := fun b => by rw [← hX, u2_oth _ _ _ (by omega), u2_oth _ _ _ (by omega), u2_fun, u2_oth _ _ _ (by omega), u2_oth _ _ _ (by omega)]
  have x26 : ∀ b, X 26 b = if b = m then v else M 26 b := fun b => by rw [← hX, u2_oth _ _ _ (by omega), u2_oth _ _ _ (by omega), u2_oth _ _ _ (by omega), u2_fun, u2_oth _ _ _ (by omega)]
  have x39 : X 0 39 = nI (p + 1) := by rw [← hX, u2_eq]
  have x41 : X 0 41 = nI (m + 1) := by rw [← hX, u2_ne _ _ (Or.inr (by omega)), u2_eq]
  have xT : TRm N sg X (p + 1) (m + 1) d := ⟨by rw [x0 38 (by omega) (by omega)]; exact t1, x39, by rw [x0 40 (by omega) (by omega)]; exact t3, x41, by rw [x0 45 (by omega) (by omega)]; exact t5, fun k hk => by rw [xi 23 (by omega) (by omega) (by omega) (by omega)]; exact t6 k hk⟩
  have xF : FRm M0 X := ⟨fun i h0 h1 => by rw [xi i h0 (by omega) (by omega) (by omega)]; exact hF.1 i h0 h1, fun b h1 h2 h3 h4 => by rw [x0 b h1 h3]; exact hF.2 b h1 h2 h3 h4⟩
  have hX2 := m_here hN (show p + 1 ≤ N by omega) xT.1 x39 xT.2.2.2.2.2
  have h80 : f_X8_readTask_b80 (nI m) (nI m) v (u2 M 24 m (nI w)) = ((f_X8_here X).bind fun q5 => (if q5 = 33 then f_X8_readTask_b126 (nI m) X else ((f_X8_here X).bind fun q8 => (if q8 = 63 then f_X8_readTask_b126 (nI m) X else some X)))) := by
    have a1 : u2 (u2 (u2 M 24 m (nI w)) 26 m v) 25 m 0 0 41 = nI m := by rw [u2_oth _ _ _ (by omega), u2_oth _ _ _ (by omega), u2_oth _ _ _ (by omega)]; exact t4
    have a2 : u2 (u2 (u2 (u2 M 24 m (nI w)) 26 m v) 25 m 0) 0 41 (nI (m + 1)) 0 39 = nI p := by rw [u2_ne _ _ (Or.inr (by omega)), u2_oth _ _ _ (by omega), u2_oth _ _ _ (by omega), u2_oth _ _ _ (by omega)]; exact t2
    rw [f_X8_readTask_b80, if_pos cm, if_pos cm, nI_clamp (by omega), a1, nI_1, some_bind, a2, nI_1, hX]
  rw [hr, h80, hX2, some_bind]
  have marked : ∀ mk : Int32, p + 1 < N → (mk = 1 ∧ sg (p + 1) = 33 ∨ mk = 2 ∧ sg (p + 1) = 63) → f_X8_readTask_b126 (nI m) X = some (u2 (u2 X 25 m mk) 0 39 (nI (p + 2))) := fun mk hp1 hmk => by
    rw [if_pos hp1] at hX2
    have a1 : ∀ z : Int32, u2 X 25 m z 0 39 = nI (p + 1) := fun z => by rw [u2_oth _ _ _ (by omega)]; exact x39
    rw [f_X8_readTask_b126, hX2, some_bind]
    rcases hmk with ⟨rfl, q⟩ | ⟨rfl, q⟩
    · rw [if_pos q, f_X8_readTask_b145, if_pos cm, nI_clamp (by omega), a1, nI_1]
    · rw [if_neg (by rw [q]; decide), f_X8_readTask_b145, if_pos cm, nI_clamp (by omega), a1, nI_1]
  have mend : ∀ mk0 : Int32, p + 1 < N → (mk0 = 1 ∧ sg (p + 1) = 33 ∨ mk0 = 2 ∧ sg (p + 1) = 63) → ∃ M' p' mk, some (u2 (u2 X 25 m mk0) 0 39 (nI (p + 2))) = some M' ∧ TRm N sg M' p' (m + 1) d ∧ FRm M0 M' ∧ (∀ b, M' 24 b = if b = m then nI w else M 24 b) ∧ (∀ b, M' 25 b = if b = m then mk else M 25 b) ∧ (∀ b, M' 26 b = if b = m then v else M 26 b) ∧ M' 27 = M 27 ∧ M' 28 = M 28 ∧ ((p' = p + 1 ∧ mk = 0 ∧ ¬ (p + 1 < N ∧ (sg (p + 1) = 33 ∨ sg (p + 1) = 63))) ∨ (p' = p + 2 ∧ p + 1 < N ∧ (mk = 1 ∧ sg (p + 1) = 33 ∨ mk = 2 ∧ sg (p + 1) = 63))) := fun mk0 hp1 hmk => by
    obtain ⟨y1, y2, y3, y4, y5, y6⟩ := xT
    refine ⟨u2 (u2 X 25 m mk0) 0 39 (nI (p + 2)), p + 2, mk0, rfl, ⟨by rw [u2_ne _ _ (Or.inr (by omega)), u2_oth _ _ _ (by omega)]; exact y1, u2_eq _ _ _ _, by rw [u2_ne _ _ (Or.inr (by omega)), u2_oth _ _ _ (by omega)]; exact y3, by rw [u2_ne _ _ (Or.inr (by omega)), u2_oth _ _ _ (by omega)]; exact y4, by rw [u2_ne _ _ (Or.inr (by omega)), u2_oth _ _ _ (by omega)]; exact y5, fun k hk => by rw [u2_oth _ _ _ (by omega), u2_oth _ _ _ (by omega)]; exact y6 k hk⟩, ⟨fun i h0 h1 => by rw [u2_oth _ _ _ h0, u2_oth _ _ _ (by omega)]; exact xF.1 i h0 h1, fun b h1 h2 h3 h4 => by rw [u2_ne _ _ (Or.inr h1), u2_oth _ _ _ (by omega)]; exact xF.2 b h1 h2 h3 h4⟩, fun b => by rw [u2_oth _ _ _ (by omega), u2_oth _ _ _ (by omega), x24], fun b => ?_, fun b => by rw [u2_oth _ _ _ (by omega), u2_oth _ _ _ (by omega), x26], by rw [u2_oth _ _ _ (by omega), u2_oth _ _ _ (by omega), xi 27 (by omega) (by omega) (by omega) (by omega)], by rw [u2_oth _ _ _ (by omega), u2_oth _ _ _ (by omega), xi 28 (by omega) (by omega) (by omega) (by omega)], Or.inr ⟨rfl, hp1, hmk⟩⟩
    rw [u2_oth _ _ _ (by omega), u2_ap, x25]
    by_cases hb : b = m
    · rw [if_pos ⟨rfl, hb⟩, if_pos hb]
    · rw [if_neg (fun q => hb q.2), if_neg hb, if_neg hb]
  have plain : ¬ (p + 1 < N ∧ (sg (p + 1) = 33 ∨ sg (p + 1) = 63)) → ∃ M' p' mk, some X = some M' ∧ TRm N sg M' p' (m + 1) d ∧ FRm M0 M' ∧ (∀ b, M' 24 b = if b = m then nI w else M 24 b) ∧ (∀ b, M' 25 b = if b = m then mk else M 25 b) ∧ (∀ b, M' 26 b = if b = m then v else M 26 b) ∧ M' 27 = M 27 ∧ M' 28 = M 28 ∧ ((p' = p + 1 ∧ mk = 0 ∧ ¬ (p + 1 < N ∧ (sg (p + 1) = 33 ∨ sg (p + 1) = 63))) ∨ (p' = p + 2 ∧ p + 1 < N ∧ (mk = 1 ∧ sg (p + 1) = 33 ∨ mk = 2 ∧ sg (p + 1) = 63))) := fun q =>
    ⟨X, p + 1, 0, rfl, xT, xF, x24, x25, x26, xi 27 (by omega) (by omega) (by omega) (by omega), xi 28 (by omega) (by omega) (by omega) (by omega), Or.inl ⟨rfl, rfl, q⟩⟩
  by_cases hp1 : p + 1 < N
  · rw [if_pos hp1]
    by_cases c33 : sg (p + 1) = 33
    · rw [if_pos c33, marked 1 hp1 (Or.inl ⟨rfl, c33⟩)]
      exact mend 1 hp1 (Or.inl ⟨rfl, c33⟩)
    · rw [if_neg c33, some_bind]
      by_cases c63 : sg (p + 1) = 63
      · rw [if_pos c63, marked 2 hp1 (Or.inr ⟨rfl, c63⟩)]
        exact mend 2 hp1 (Or.inr ⟨rfl, c63⟩)
      · rw [if_neg c63]
        exact plain (fun q => q.2.elim c33 c63)
  · rw [if_neg hp1, if_neg (by decide), some_bind, if_neg (by decide)]
    exact plain (fun q => hp1 q.1)
def dpN (dp : Nat → Nat) (m d : Nat) : Nat → Nat := fun k => if k = m then d else dp k
theorem m_badTask {N : Nat} {sg : Nat → Int32} {M : IS} {p m d : Nat} (hN : N ≤ 100) (hp : p ≤ N) (h : TRm N sg M p m d) (hc : ∀ w, 1 ≤ w → w ≤ 9 → (if p < N then sg p else -1) ≠ nI (48 + w)) : f_X8_readTask M = some (u2 M 0 40 1) := by
  obtain ⟨t1, t2, t3, t4, t5, t6⟩ := h
  have hh := m_here hN hp t1 t2 t6
  generalize (if p < N then sg p else (-1 : Int32)) = c at hh hc
  have hin : f_X8_in c.toInt64 (49 : Int64) (57 : Int64) = some 0 := m_inF c 49 57 (fun q => by
    obtain ⟨k, hk, e⟩ := nI_up (x := c) (n := 57) (by omega) (fun r => by
      rw [lt_iff32] at r
      rw [le_iff32] at q
      have := q.1
      have : (49 : Int32).toInt = 49 := rfl
      have : (0 : Int32).toInt = 0 := rfl
      omega) q.2
    have q1 := q.1
    rw [e, le_iff32, tnI (by omega)] at q1
    have : (49 : Int32).toInt = 49 := rfl
    exact hc (k - 48) (by omega) (by omega) (by rw [e]; congr 1; omega))
  rw [f_X8_readTask, hh, some_bind, hin, some_bind, if_pos rfl, f_X8_readTask_b28, if_pos okZ1, u2_eq, if_neg z10]
theorem c_badTask {N : Nat} {sg : Nat → Int32} {C : IS} {m d : Nat} {c : Int32} (h : TRc N sg C m d 0) (hc : ∀ w, 1 ≤ w → w ≤ 9 → c ≠ nI (48 + w)) : f_X5_goesOn c C = some (0, C) := by
  rw [f_X5_goesOn, h.2.2.2.1, if_pos rfl]
  by_cases c1 : c < 49
  · rw [if_pos c1, f_X5_goesOn_b34, f_X5_goesOn_b35, if_pos okZ0]
  · rw [if_neg c1]
    by_cases c2 : 57 < c
    · rw [if_pos c2, f_X5_goesOn_b34, f_X5_goesOn_b35, if_pos okZ0]
    · exfalso
      rw [lt_iff32] at c1 c2
      have e49 : (49 : Int32).toInt = 49 := rfl
      have e57 : (57 : Int32).toInt = 57 := rfl
      obtain ⟨k, hk, e⟩ := nI_up (x := c) (n := 57) (by omega) (fun r => by
        rw [lt_iff32] at r
        have : (0 : Int32).toInt = 0 := rfl
        omega) (by
        rw [le_iff32, show nI 57 = (57 : Int32) from rfl]
        omega)
      rw [e, tnI (by omega)] at c1
      exact hc (k - 48) (by omega) (by omega) (by rw [e]; congr 1; omega)
theorem head_bad {N : Nat} {sg : Nat → Int32} {M0 C M : IS} {p m d : Nat} (hN : N ≤ 100) (hp : p ≤ N) (hC : TRc N sg C m d 0) (hM : TRm N sg M p m d) (hF : FRm M0 M) (hc : ∀ w, 1 ≤ w → w ≤ 9 → (if p < N then sg p else -1) ≠ nI (48 + w)) (fu fv : Nat) (hfu : 1 ≤ fu) (hfv : 2 ≤ fv) : ∃ r q, f_X5_parse_b17 fu (nI p) C = some r ∧ f_X8_readTree_b22 fv 1 M = some q ∧ FIN M0 r q := by
  obtain ⟨f, rfl⟩ : ∃ f, fu = f + 1 := ⟨fu - 1, by omega⟩
  obtain ⟨g, rfl⟩ : ∃ g, fv = g + 1 := ⟨fv - 1, by omega⟩
  have hm := m_badTask hN hp hM hc
  have hF' : FRm M0 (u2 M 0 40 1) := ⟨fun i h0 h1 => by rw [u2_oth _ _ _ h0]; exact hF.1 i h0 h1, fun b h1 h2 h3 h4 => by rw [u2_ne _ _ (Or.inr h2)]; exact hF.2 b h1 h2 h3 h4⟩
  have h39 : u2 M 0 40 1 0 39 = nI p := by rw [u2_ne _ _ (Or.inr (by omega))]; exact hM.2.1
  have hmm : f_X8_readTree_b22 (g + 1) 1 M = some (0, u2 M 0 40 1) := by
    rw [f_X8_readTree_b22, if_neg z10, hM.2.2.1, if_pos rfl, hm, some_bind, u2_eq, if_neg z10, f_X8_readTree_b55, f_X8_readTree_b56, m_stop g _ 1 (u2_eq _ _ _ _) (Or.inr rfl) (by omega), if_neg z10]
  refine ⟨(nI p, C), (0, u2 M 0 40 1), ?_, hmm, hF', Or.inl ⟨p, by omega, rfl, rfl, h39⟩⟩
  by_cases hpN : p < N
  · rw [if_pos hpN] at hc
    exact c_stop hN hC hpN f (c_badTask hC hc)
  · have : p = N := by omega
    subst this
    rw [f_X5_parse_b17, hC.1, if_pos ((nI_leI (by omega) (by omega)).mpr (Nat.le_refl _)), hC.2.2.2.1, if_pos rfl, f_X5_parse_b60, f_X5_parse_b69, hC.1]
theorem head_step {N : Nat} {sg : Nat → Int32} {M0 : IS} {p : Nat} (hN : N ≤ 100) (hp : p ≤ N) (hA : ∀ p', p < p' → p' ≤ N → AFT N sg M0 p') (hH : ∀ p', p < p' → p' ≤ N → HEAD N sg M0 p') : HEAD N sg M0 p := by
  intro C M m d dp fu fv hmp hd hC hM hT hO hF _ hfu hfv
  by_cases hw : p < N ∧ ∃ w, 1 ≤ w ∧ w ≤ 9 ∧ sg p = nI (48 + w)
  · obtain ⟨hpN, w, hw1, hw9, hc⟩ := hw
    obtain ⟨f, rfl⟩ : ∃ f, fu = f + 1 := ⟨fu - 1, by omega⟩
    obtain ⟨g, rfl⟩ : ∃ g, fv = g + 1 := ⟨fv - 1, by omega⟩
    obtain ⟨C1, c1, c2, c3, c4, c5, c6, c7⟩ := c_begin hC (show m < 100 by omega) hd hw1 hw9 hc
    obtain ⟨M1, p', mk, m1, m2, m3, m4, m5, m6, m7, m8, m9⟩ := m_begin hN hpN hM (show m < 100 by omega) hd hw1 hw9 hc hF
    -- the class behind the mark, if one came
    have hcls : ∃ C2 r, (r = 1 ∨ r = 2) ∧ (p' < N → (sg p' = 33 ∨ sg p' = 63) → r ≠ 1) ∧ p < p' ∧ p' ≤ N ∧ (∀ fu', N - p + 1 ≤ fu' + 1 → ∃ f', N - p' + 1 ≤ f' ∧ f_X5_parse_b17 (fu' + 1) (nI p) C = f_X5_parse_b17 f' (nI p') C2) ∧ TRc N sg C2 (m + 1) d r ∧ (∀ b, C2 2 b = if b = m then nI w else C 2 b) ∧ (∀ b, C2 3 b = if b = m then mk else C 3 b) ∧ (∀ b, C2 4 b = if b = m then (if d = 0 then -5 else C 5 (d - 1)) else C 4 b) ∧ C2 5 = C 5 ∧ ∀ b, C2 6 b = if d ≠ 0 ∧ b = d - 1 then C 6 b + 1 else C 6 b := by
      rcases m9 with ⟨e1, e2, e3⟩ | ⟨e1, e2, e3⟩
      · subst e1
        subst e2
        refine ⟨C1, 1, Or.inl rfl, fun h1 h2 => absurd ⟨h1, h2⟩ e3, by omega, by omega, fun fu' hfu' => ⟨fu', by omega, c_goes hN hC hpN fu' c1⟩, c2, c3, c4, c5, c6, c7⟩
      · subst e1
        obtain ⟨y1, y2, y3, y4, y5⟩ := c2
        have hmk : f_X5_goesOn (sg (p + 1)) C1 = some (1, u2 (u2 C1 3 m mk) 0 9 2) := by
          have n0 : ¬ nI (m + 1) = 0 := nI_ne0 (by omega) (by omega)
          have km : f_X5_marks mk C1 = some (1, u2 (u2 C1 3 m mk) 0 9 2) := by
            rw [f_X5_marks, y4, if_pos rfl, y2, if_neg n0, nI_s1, if_pos (okI_nI (by omega) (by omega)), nI_clamp (by omega)]
          rcases e3 with ⟨q1, q2⟩ | ⟨q1, q2⟩
          · rw [q1] at km ⊢
            rw [q2, f_X5_goesOn, y4, if_neg z10, if_pos rfl, km, some_bind, if_pos okZ1]
          · rw [q1] at km ⊢
            rw [q2, f_X5_goesOn, y4, if_neg z10, if_neg (by decide), if_neg (by decide), if_neg (by decide), if_neg (by decide), if_pos rfl, km, some_bind, if_pos okZ1]
        refine ⟨u2 (u2 C1 3 m mk) 0 9 2, 2, Or.inr rfl, fun _ _ => by decide, by omega, by omega, fun fu' hfu' => ?_, ⟨by rw [u2_ne _ _ (Or.inr (by omega)), u2_oth _ _ _ (by omega)]; exact y1, by rw [u2_ne _ _ (Or.inr (by omega)), u2_oth _ _ _ (by omega)]; exact y2, by rw [u2_ne _ _ (Or.inr (by omega)), u2_oth _ _ _ (by omega)]; exact y3, u2_eq _ _ _ _, fun k hk => by rw [u2_oth _ _ _ (by omega), u2_oth _ _ _ (by omega)]; exact y5 k hk⟩, fun b => by rw [u2_oth _ _ _ (by omega), u2_oth _ _ _ (by omega)]; exact c3 b, fun b => ?_, fun b => by rw [u2_oth _ _ _ (by omega), u2_oth _ _ _ (by omega)]; exact c5 b, by rw [u2_oth _ _ _ (by omega), u2_oth _ _ _ (by omega)]; exact c6, fun b => by rw [u2_oth _ _ _ (by omega), u2_oth _ _ _ (by omega)]; exact c7 b⟩
        · obtain ⟨f'', rfl⟩ : ∃ f'', fu' = f'' + 1 := ⟨fu' - 1, by omega⟩
          exact ⟨f'', by omega, by rw [c_goes hN hC hpN (f'' + 1) c1, c_goes hN ⟨y1, y2, y3, y4, y5⟩ e2 f'' hmk]⟩
        · rw [u2_oth _ _ _ (by omega), u2_ap, c4]
          by_cases hb : b = m
          · rw [if_pos ⟨rfl, hb⟩, if_pos hb]
          · rw [if_neg (fun q => hb q.2), if_neg hb, if_neg hb]
    obtain ⟨C2, r, r12, r33, hpp, hp'N, hgo, d2, d3, d4, d5, d6, d7⟩ := hcls
    obtain ⟨f', hf', ego⟩ := hgo f (by omega)
    -- what is read so far
    have hT2 : TRt C2 M1 (dpN dp m d) (m + 1) := by
      intro k hk
      rw [d3, d4, d5, m4, m5, m6]
      unfold dpN
      by_cases hkm : k = m
      · subst hkm
        rw [if_pos rfl, if_pos rfl, if_pos rfl, if_pos rfl, if_pos rfl, if_pos rfl, if_pos rfl]
        by_cases d0 : d = 0
        · rw [if_pos d0, if_pos d0]
          exact ⟨rfl, rfl, rfl, ⟨w, hw1, hw9, rfl⟩, hd, Or.inl ⟨rfl, d0⟩⟩
        · rw [if_neg d0, if_neg d0]
          obtain ⟨o, v, o1, o2, o3, o4, -⟩ := hO (d - 1) (by omega)
          rw [o3, o4]
          refine ⟨rfl, rfl, rfl, ⟨w, hw1, hw9, rfl⟩, hd, Or.inr ⟨o, o1, rfl, ?_⟩⟩
          rw [if_neg (by omega), o2]
          omega
      · have hk' : k < m := by omega
        obtain ⟨a1, a2, a3, a4, a5, a6⟩ := hT k hk'
        rw [if_neg hkm, if_neg hkm, if_neg hkm, if_neg hkm, if_neg hkm, if_neg hkm, if_neg hkm]
        refine ⟨a1, a2, a3, a4, a5, ?_⟩
        rcases a6 with q | ⟨q, q1, q2, q3⟩
        · exact Or.inl q
        · exact Or.inr ⟨q, q1, q2, by rw [if_neg (by omega)]; exact q3⟩
    have hO2 : TRo C2 M1 (dpN dp m d) (m + 1) d 0 := by
      intro i hi
      obtain ⟨o, v, o1, o2, o3, o4, o5, o6, o7⟩ := hO i hi
      have e0 : ∀ b : Prop, ∀ _ : Decidable b, (if b then 0 else 0) = 0 := fun b _ => by split <;> rfl
      rw [d6, d7, m7, m8, e0]
      unfold dpN
      by_cases hid : i + 1 = d
      · rw [if_pos hid] at o6 o7
        refine ⟨o, v + 1, by omega, by rw [if_neg (by omega)]; exact o2, o3, o4, ?_, by omega, o7⟩
        rw [if_pos ⟨by omega, by omega⟩, o5, nI_1]
      · rw [if_neg hid] at o6 o7
        refine ⟨o, v, by omega, by rw [if_neg (by omega)]; exact o2, o3, o4, ?_, by omega, o7⟩
        rw [if_neg (fun q => hid (by omega)), o5]
    have emod : f_X8_readTree_b22 (g + 1) 1 M = tailM g (f_X8_goesOn M1) := by
      rw [f_X8_readTree_b22, if_neg z10, hM.2.2.1, if_pos rfl, m1, some_bind, m2.2.2.1, if_pos rfl]
      rfl
    have hh := m_here hN hp'N m2.1 m2.2.1 m2.2.2.2.2.2
    rw [ego, emod]
    by_cases hop : (p' < N ∧ sg p' = 40) ∧ d < 4
    · obtain ⟨⟨hp'l, hsg⟩, hd4⟩ := hop
      obtain ⟨y1, y2, y3, y4, y5⟩ := d2
      obtain ⟨t1, t2, t3, t4, t5, t6⟩ := m2
      rw [if_pos hp'l] at hh
      have cd : okI (nI d) 5 = true := okI_nI (by omega) (by omega)
      have cd4 : okI (nI d) 4 = true := okI_nI (by omega) (by omega)
      obtain ⟨f'', rfl⟩ : ∃ f'', f' = f'' + 1 := ⟨f' - 1, by omega⟩
      have hopn : f_X5_goesOn (sg p') C2 = some (1, u2 (u2 (u2 (u2 C2 5 d (nI m)) 6 d 0) 0 8 (nI (d + 1))) 0 9 0) := by
        have r3 : ¬ r = 3 := by rcases r12 with rfl | rfl <;> decide
        have r0 : ¬ r = 0 := by rcases r12 with rfl | rfl <;> decide
        have ko : f_X5_opens C2 = some (1, u2 (u2 (u2 (u2 C2 5 d (nI m)) 6 d 0) 0 8 (nI (d + 1))) 0 9 0) := by
          have a1 : ∀ v : Int32, u2 C2 5 d v 0 8 = nI d := fun v => by rw [u2_oth _ _ _ (by omega)]; exact y3
          have a2 : ∀ v v' : Int32, u2 (u2 C2 5 d v) 6 d v' 0 8 = nI d := fun v v' => by rw [u2_oth _ _ _ (by omega), a1]
          rw [f_X5_opens, y4, if_neg r3, y3, if_pos (show nI d < (4 : Int32) from (nI_ltI (b := 4) (by omega) (by omega)).mpr hd4), if_pos cd4, nI_clamp (by omega), y2, nI_s1, a1, if_pos cd4, some_bind, nI_clamp (by omega), a2, nI_1]
        rw [hsg, f_X5_goesOn, y4, if_neg r0, if_neg (by decide), if_pos rfl, ko, some_bind, if_pos okZ1]
      have hmo : f_X8_goesOn M1 = some (1, u2 (u2 (u2 (u2 M1 27 d (nI m)) 28 d 1) 0 45 (nI (d + 1))) 0 39 (nI (p' + 1))) := by
        have a1 : ∀ v : Int32, u2 M1 27 d v 0 45 = nI d := fun v => by rw [u2_oth _ _ _ (by omega)]; exact t5
        have a2 : ∀ v v' : Int32, u2 (u2 M1 27 d v) 28 d v' 0 45 = nI d := fun v v' => by rw [u2_oth _ _ _ (by omega), a1]
        have a3 : ∀ v v' v'' : Int32, u2 (u2 (u2 M1 27 d v) 28 d v') 0 45 v'' 0 39 = nI p' := fun v v' v'' => by rw [u2_ne _ _ (Or.inr (by omega)), u2_oth _ _ _ (by omega), u2_oth _ _ _ (by omega)]; exact t2
        rw [f_X8_goesOn, hh, some_bind, if_pos hsg, t5, if_neg (show ¬ (4 : Int32) ≤ nI d from nI_ge (b := 4) hd4 (by omega)), if_pos cd, nI_clamp (by omega), t4, nI_s1, a1, if_pos cd, some_bind, nI_clamp (by omega), a2, nI_1, a3, nI_1, some_bind]
      rw [c_goes hN ⟨y1, y2, y3, y4, y5⟩ hp'l f'' hopn, hmo, tailM, some_bind, if_neg z10, f_X8_readTree_b56]
      refine hH (p' + 1) (by omega) (by omega) (u2 (u2 (u2 (u2 C2 5 d (nI m)) 6 d 0) 0 8 (nI (d + 1))) 0 9 0) (u2 (u2 (u2 (u2 M1 27 d (nI m)) 28 d 1) 0 45 (nI (d + 1))) 0 39 (nI (p' + 1))) (m + 1) (d + 1) (dpN dp m d) f'' g (by omega) (by omega) ?_ ?_ ?_ ?_ ?_ (fun q => by omega) (by omega) (by omega)
      · exact ⟨by rw [u2_ne _ _ (Or.inr (by omega)), u2_ne _ _ (Or.inr (by omega)), u2_oth _ _ _ (by omega), u2_oth _ _ _ (by omega)]; exact y1, by rw [u2_ne _ _ (Or.inr (by omega)), u2_ne _ _ (Or.inr (by omega)), u2_oth _ _ _ (by omega), u2_oth _ _ _ (by omega)]; exact y2, by rw [u2_ne _ _ (Or.inr (by omega)), u2_eq], u2_eq _ _ _ _, fun k hk => by rw [u2_oth _ _ _ (by omega), u2_oth _ _ _ (by omega), u2_oth _ _ _ (by omega), u2_oth _ _ _ (by omega)]; exact y5 k hk⟩
      · exact ⟨by rw [u2_ne _ _ (Or.inr (by omega)), u2_ne _ _ (Or.inr (by omega)), u2_oth _ _ _ (by omega), u2_oth _ _ _ (by omega)]; exact t1, u2_eq _ _ _ _, by rw [u2_ne _ _ (Or.inr (by omega)), u2_ne _ _ (Or.inr (by omega)), u2_oth _ _ _ (by omega), u2_oth _ _ _ (by omega)]; exact t3, by rw [u2_ne _ _ (Or.inr (by omega)), u2_ne _ _ (Or.inr (by omega)), u2_oth _ _ _ (by omega), u2_oth _ _ _ (by omega)]; exact t4, by rw [u2_ne _ _ (Or.inr (by omega)), u2_eq], fun k hk => by rw [u2_oth _ _ _ (by omega), u2_oth _ _ _ (by omega), u2_oth _ _ _ (by omega), u2_oth _ _ _ (by omega)]; exact t6 k hk⟩
      · intro k hk
        have := hT2 k hk
        simp only [u2_oth _ _ _ (show 2 ≠ 0 by omega), u2_oth _ _ _ (show 3 ≠ 0 by omega), u2_oth _ _ _ (show 4 ≠ 0 by omega), u2_oth _ _ _ (show 2 ≠ 5 by omega), u2_oth _ _ _ (show 3 ≠ 5 by omega), u2_oth _ _ _ (show 4 ≠ 5 by omega), u2_oth _ _ _ (show 2 ≠ 6 by omega), u2_oth _ _ _ (show 3 ≠ 6 by omega), u2_oth _ _ _ (show 4 ≠ 6 by omega), u2_oth _ _ _ (show 24 ≠ 0 by omega), u2_oth _ _ _ (show 25 ≠ 0 by omega), u2_oth _ _ _ (show 26 ≠ 0 by omega), u2_oth _ _ _ (show 24 ≠ 27 by omega), u2_oth _ _ _ (show 25 ≠ 27 by omega), u2_oth _ _ _ (show 26 ≠ 27 by omega), u2_oth _ _ _ (show 24 ≠ 28 by omega), u2_oth _ _ _ (show 25 ≠ 28 by omega), u2_oth _ _ _ (show 26 ≠ 28 by omega)]
        exact this
      · intro i hi
        simp only [u2_oth _ _ _ (show 5 ≠ 0 by omega), u2_oth _ _ _ (show 6 ≠ 0 by omega), u2_oth _ _ _ (show 5 ≠ 6 by omega), u2_oth _ _ _ (show 6 ≠ 5 by omega), u2_oth _ _ _ (show 27 ≠ 0 by omega), u2_oth _ _ _ (show 28 ≠ 0 by omega), u2_oth _ _ _ (show 27 ≠ 28 by omega), u2_oth _ _ _ (show 28 ≠ 27 by omega)]
        by_cases hid : i = d
        · subst hid
          rw [u2_eq, u2_eq, u2_eq, u2_eq, if_pos rfl]
          refine ⟨m, 0, by omega, ?_, rfl, rfl, rfl, by omega, rfl⟩
          unfold dpN
          rw [if_pos rfl]
        · obtain ⟨o, v, o1, o2, o3, o4, o5, o6, o7⟩ := hO2 i (by omega)
          have e0 : (if i + 1 = d then 0 else 0) = 0 := by split <;> rfl
          rw [e0] at o6 o7
          have hid' : ∀ (X : IS) (a c : Nat) (v : Int32), u2 X a d v c i = X c i := fun X a c v => u2_ne _ _ (Or.inr hid)
          simp only [hid']
          rw [if_neg (by omega)]
          exact ⟨o, v, o1, o2, o3, o4, o5, o6, o7⟩
      · exact ⟨fun i h0 h1 => by rw [u2_oth _ _ _ h0, u2_oth _ _ _ h0, u2_oth _ _ _ (by omega), u2_oth _ _ _ (by omega)]; exact m3.1 i h0 h1, fun b h1 h2 h3 h4 => by rw [u2_ne _ _ (Or.inr h1), u2_ne _ _ (Or.inr h4), u2_oth _ _ _ (by omega), u2_oth _ _ _ (by omega)]; exact m3.2 b h1 h2 h3 h4⟩
    · have hg : f_X8_goesOn M1 = f_X8_goesOn_b64 LF M1 := by
        rw [f_X8_goesOn, hh, some_bind]
        by_cases c40 : (if p' < N then sg p' else -1) = 40
        · have hp'l : p' < N := by
            by_cases q : p' < N
            · exact q
            · rw [if_neg q] at c40
              exact absurd c40 (by decide)
          rw [if_pos hp'l] at c40
          have hd4 : ¬ d < 4 := fun q => hop ⟨⟨hp'l, c40⟩, q⟩
          rw [if_pos hp'l, if_pos c40, m2.2.2.2.2.1, if_pos (show (4 : Int32) ≤ nI d from (nI_leI (a := 4) (by omega) (by omega)).mpr (by omega))]
        · rw [if_neg c40]
      rw [hg]
      exact hA p' hpp hp'N C2 M1 (m + 1) d r (dpN dp m d) f' g LF (by omega) (by omega) hd (r12.elim Or.inl (fun q => Or.inr (Or.inl q))) d2 m2 hT2 hO2 m3 (fun h1 h2 => Or.inr (by
        by_cases q : d < 4
        · exact absurd ⟨⟨h1, h2⟩, q⟩ hop
        · omega)) r33 (by omega) (by omega) (by unfold LF; omega)
  · refine head_bad hN hp hC hM hF (fun w h1 h9 q => ?_) fu fv (by omega) (by omega)
    by_cases hpN : p < N
    · rw [if_pos hpN] at q
      exact hw ⟨hpN, w, h1, h9, q⟩
    · rw [if_neg hpN] at q
      have := congrArg Int32.toInt q
      rw [tnI (by omega), show (-1 : Int32).toInt = -1 from rfl] at this
      omega
theorem both_read {N : Nat} {sg : Nat → Int32} {M0 : IS} (hN : N ≤ 100) : HEAD N sg M0 0 := by
  have all : ∀ n p, p ≤ N → N ≤ p + n → HEAD N sg M0 p ∧ AFT N sg M0 p := by
    intro n
    induction n with
    | zero =>
      intro p hp hn
      refine ⟨head_step hN hp (fun p' h1 h2 => by omega) (fun p' h1 h2 => by omega), aft_step hN hp (fun h => by omega) (fun h => by omega)⟩
    | succ n ih =>
      intro p hp hn
      exact ⟨head_step hN hp (fun p' h1 h2 => (ih p' h2 (by omega)).2) (fun p' h1 h2 => (ih p' h2 (by omega)).1), aft_step hN hp (fun h => (ih (p + 1) (by omega) (by omega)).2) (fun h => (ih (p + 1) (by omega) (by omega)).1)⟩
  exact (all N 0 (by omega) (by omega)).1
