/-! ===== the World: what a quiet arm takes ===== -/
def eWk (s : SP) (a : Nat) (k : Int32) (t : Nat) : SP := eEnt (eSet (uA s a (rw_ s a) (nI t) (af s 1 a) (af s 2 a)) 3 t 1) (nI a) k (nI t)
def eIdl (s : SP) (a : Nat) : SP := uA s a (rw_ s a) (af s 0 a) (af s 1 a + 1) (af s 2 a)
def eInc (s : SP) (a : Nat) : SP := uA s a (rw_ s a) (af s 0 a) (af s 1 a) (af s 2 a + 1)
def ePop (s : SP) (a : Nat) : SP := uA s a (rw_ s a).dropLast (af s 0 a) (af s 1 a) (af s 2 a)
def eStl (s : SP) (a o : Nat) (x : Int32) : SP := eWk (eInc (dA s x o) a) a 1 x.toNatClampNeg
noncomputable def eTake (s : SP) (a : Nat) : SP :=
  match (rw_ s a).getLast? with
  | some x => eWk (ePop s a) a 0 x.toNatClampNeg
  | none =>
    match (eDr s a).1 with
    | none => eIdl s a
    | some o => eStl (eDr s a).2 a o ((rw_ (eDr s a).2 o).headD (-5))
theorem eTake_near {s : SP} {a : Nat} {x : Int32} (h : (rw_ s a).getLast? = some x) : eTake s a = eWk (ePop s a) a 0 x.toNatClampNeg := by
  unfold eTake
  simp only [h]
theorem eTake_idle {s : SP} {a : Nat} {s' : SP} (h : (rw_ s a).getLast? = none) (h' : eDr s a = (none, s')) : eTake s a = eIdl s a := by
  unfold eTake
  simp only [h, h']
theorem eTake_far {s : SP} {a o : Nat} {s' : SP} (h : (rw_ s a).getLast? = none) (h' : eDr s a = (some o, s')) : eTake s a = eStl s' a o ((rw_ s' o).headD (-5)) := by
  unfold eTake
  simp only [h, h']
theorem uA_self (s : SP) (a : Nat) : uA s a (rw_ s a) (af s 0 a) (af s 1 a) (af s 2 a) = s := by
  have e1 : va_up (rw_ s) a (rw_ s a) = rw_ s := by
    funext b
    by_cases h : b = a
    · subst h
      exact if_pos rfl
    · exact if_neg h
  have e2 : (fun f b => if b = a then (if f = 0 then af s 0 a else if f = 1 then af s 1 a else if f = 2 then af s 2 a else af s f b) else af s f b) = af s := by
    funext f b
    by_cases h : b = a
    · subst h
      rw [if_pos rfl]
      by_cases h0 : f = 0
      · rw [if_pos h0, h0]
      · rw [if_neg h0]
        by_cases h1 : f = 1
        · rw [if_pos h1, h1]
        · rw [if_neg h1]
          by_cases h2 : f = 2
          · rw [if_pos h2, h2]
          · rw [if_neg h2]
    · rw [if_neg h]
  unfold uA
  rw [e1, e2]
  rfl
theorem nT_wSd (s : SP) (d : Int32) : nT (wSd s d) = nT s := rfl
theorem na_wSd (s : SP) (d : Int32) : na (wSd s d) = na s := rfl
theorem wor_wk {I : IS} {s : SP} (h : RWo I s) {a : Nat} (ha : a < 4) (k : Int32) {t : Nat} (ht : t < nT s) : ∃ J, f_X6_takeOne_b70 (nI a) a (nI t) k I = some J ∧ RWo J (eWk s a k t) := by
  have hT : nT s ≤ 32 := h.2.1.2.1
  have h1 := rwo_u2w h ha (nI t)
  have h2 := rwo_eSet h1 (f := 3) (by omega) t 1
  obtain ⟨q, e1, e2⟩ := rwo_eEnt h2 (nI a) k (nI t)
  refine ⟨_, ?_, e2⟩
  have c1 : okI (nI t) 32 = true := okI_nI (by omega) (by omega)
  have c0 : ¬ (1 : Int32) = 0 := by decide
  rw [f_X6_takeOne_b70, tas_has_in h.2.1 ht, some_bind, if_neg c0, if_pos c1, nI_clamp (by omega), e1, some_bind]
theorem wor_takeFar {J : IS} {s : SP} (h : RWo J s) {a o : Nat} (ha : a < 4) (ho : o < 4) {x : Int32} {l : List Int32} (hr : rw_ s o = x :: l) {t : Nat} (ht : t < nT s) (e : x = nI t) : ∃ J', ((f_X0_takeFar (zI (gArm o) J)).bind fun q9 => ((some (u2 (gI (gArm o) 2 q9.2 J) (gArm a) 4 ((gI (gArm o) 2 q9.2 J) (gArm a) 4 + 1))).bind fun I11 => f_X6_takeOne_b70 (nI a) a q9.1 1 I11)) = some J' ∧ RWo J' (eStl s a o ((rw_ s o).headD (-5))) := by
  have hT : nT s ≤ 32 := h.2.1.2.1
  have cx : x ≠ -5 := by
    rw [e]
    exact m5_ne (by omega)
  have hA := h.1 o ho
  rw [hr] at hA
  obtain ⟨q9, f1, f2⟩ := arm_takeFar hA cx
  have g9 := rwo_garm h ho f2
  have eD : uA s o ((x :: l).filter (fun y => y != x)) (if af s 0 o = x then -5 else af s 0 o) (af s 1 o) (af s 2 o) = dA s x o := by
    unfold dA
    rw [hr]
  rw [eD] at g9
  have e4 : gI (gArm o) 2 q9 J (gArm a) 4 = af (dA s x o) 2 a := (g9.1 a ha).2.2.2
  have g10 := rwo_u2s g9 ha (af (dA s x o) 2 a + 1)
  have ht' : t < nT (eInc (dA s x o) a) := ht
  obtain ⟨J', j1, j2⟩ := wor_wk (s := eInc (dA s x o) a) g10 ha 1 ht'
  refine ⟨J', ?_, ?_⟩
  · rw [f1, some_bind, some_bind]
    show f_X6_takeOne_b70 (nI a) a x 1 (u2 (gI (gArm o) 2 q9 J) (gArm a) 4 (gI (gArm o) 2 q9 J (gArm a) 4 + 1)) = _
    rw [e4, e]
    rw [e] at j1
    exact j1
  · rw [hr]
    unfold eStl
    rw [List.headD_cons, show x.toNatClampNeg = t by rw [e]; exact nI_clamp (by omega)]
    exact j2
theorem wor_take {I : IS} {s : SP} (h : RWo I s) (hw : WF s) {a : Nat} (ha : a < na s) : ∃ J, f_X6_takeOne (nI a) I = some J ∧ RWo J (eTake s a) := by
  have hn : na s ≤ 4 := hw.1.2.1
  have hT : nT s ≤ 32 := hw.1.2.2
  have ca : okI (nI a) 4 = true := okI_nI (by omega) (by omega)
  obtain ⟨q2, n1, n2⟩ := arm_takeNear (h.1 a (by omega)) (wf_rowne hw a)
  have g := rwo_garm h (show a < 4 by omega) n2
  cases hl : (rw_ s a).getLast? with
  | some x =>
    obtain ⟨t, ht, e, -⟩ := hw.2.1.2.2 a x (List.mem_of_getLast? hl)
    have cx : ¬ x = -5 := by
      rw [e]
      exact m5_ne (by omega)
    rw [eTake_near hl, e, nI_clamp (by omega)]
    obtain ⟨J, e1, e2⟩ := wor_wk (s := ePop s a) g (show a < 4 by omega) 0 ht
    refine ⟨J, ?_, e2⟩
    rw [f_X6_takeOne, if_pos ca, nI_clamp (by omega), n1, some_bind, hl]
    show (if x = -5 then _ else _) = _
    rw [if_neg cx, e]
    exact e1
  | none =>
    have hnil : rw_ s a = [] := List.getLast?_eq_none_iff.mp hl
    have hp : RWo (gI (gArm a) 2 q2 I) s := by
      have e0 : uA s a (rw_ s a).dropLast (af s 0 a) (af s 1 a) (af s 2 a) = s := by
        have := uA_self s a
        rw [hnil] at this ⊢
        exact this
      rw [e0] at g
      exact g
    generalize hI' : gI (gArm a) 2 q2 I = I' at g hp
    rcases wor_drawn hp hn ha with ⟨d1, d2⟩ | ⟨o, J, d1, d2, d3, d4, d5⟩
    · rw [eTake_idle hl d1]
      have e3 : I' (gArm a) 3 = af s 1 a := (hp.1 a (by omega)).2.2.1
      refine ⟨u2 I' (gArm a) 3 (af s 1 a + 1), ?_, rwo_u2i hp (show a < 4 by omega) (af s 1 a + 1)⟩
      rw [f_X6_takeOne, if_pos ca, nI_clamp (by omega), n1, some_bind, hl]
      show (if (-5 : Int32) = -5 then _ else _) = _
      rw [if_pos rfl]
      show Option.bind (f_X6_drawnArm (nI a) (gI (gArm a) 2 q2 I)) _ = _
      rw [hI', d2, some_bind, if_pos rfl]
      show some (u2 I' (gArm a) 3 (I' (gArm a) 3 + 1)) = _
      rw [e3]
    · rw [eTake_far hl d1]
      have k1 := rw_wSd s (sdN (sd s))
      have k2 := nT_wSd s (sdN (sd s))
      clear d1
      generalize wSd s (sdN (sd s)) = s' at d5 k1 k2 ⊢
      have hl0 := (full_iff.mp d3).2
      cases hr : rw_ s o with
      | nil => exact absurd (by rw [hr]; rfl) hl0
      | cons x l =>
        obtain ⟨t, ht, e, -⟩ := hw.2.1.2.2 o x (by rw [hr]; exact List.mem_cons_self)
        have hr' : rw_ s' o = x :: l := by rw [k1, hr]
        have co : okI (nI o) 4 = true := okI_nI (by omega) (by omega)
        have c5 : ¬ nI o = -5 := m5_ne (by omega)
        obtain ⟨J', j1, j2⟩ := wor_takeFar d5 (show a < 4 by omega) (show o < 4 by omega) hr' (t := t) (by omega) e
        refine ⟨J', ?_, j2⟩
        rw [f_X6_takeOne, if_pos ca, nI_clamp (by omega), n1, some_bind, hl]
        show (if (-5 : Int32) = -5 then _ else _) = _
        rw [if_pos rfl]
        show Option.bind (f_X6_drawnArm (nI a) (gI (gArm a) 2 q2 I)) _ = _
        rw [hI', d4, some_bind]
        show (if nI o = -5 then _ else _) = _
        rw [if_neg c5]
        show (if okI (nI o) 4 = true then _ else _) = _
        rw [if_pos co, nI_clamp (by omega)]
        exact j1
