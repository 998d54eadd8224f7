/-! ===== the calls that ask on what is in mind: on, till, told ===== -/
def B1 (I : IS) : BS := fun i => if i = 22 ∨ i = 29 ∨ i = 30 then none else some (I i)
theorem B1_n {I : IS} {i : Nat} (h : i = 22 ∨ i = 29 ∨ i = 30) : B1 I i = none := if_pos h
theorem mo_b1 {W : Prop} {B : BS} {I : IS} {s : SP} (h : RMo W B I s) : RMo W (B1 I) I s := by
  obtain ⟨h1, h2, h3, h4, h5, h6, h7, -⟩ := h
  refine ⟨h1, h2, h3, h4, h5, h6, h7, fun i f _ hf => ?_, fun f hf => ?_⟩
  · unfold B1 at hf
    by_cases c : i = 22 ∨ i = 29 ∨ i = 30
    · rw [if_pos c] at hf
      cases hf
    · rw [if_neg c] at hf
      exact Option.some.inj hf
  · unfold B1 at hf
    rw [if_neg (by omega)] at hf
    rw [← Option.some.inj hf]
    exact ⟨rfl, rfl⟩
theorem mo_b10 {W W' : Prop} {Im J X : IS} {s s' : SP} (h : RMo W (B0 Im) J s) (g : RMo W' (B1 J) X s') : RMo W' (B0 Im) X s' := by
  obtain ⟨g1, g2, g3, g4, g5, g6, g7, g8⟩ := g
  have k := h.2.2.2.2.2.2.2
  refine ⟨g1, g2, g3, g4, g5, g6, g7, fun i f hi hf => ?_, fun f hf => ?_⟩
  · have hf' := hf
    unfold B0 at hf'
    by_cases c : i = 20 ∨ i = 22 ∨ i = 29 ∨ i = 30
    · rw [if_pos c] at hf'
      cases hf'
    · rw [g8.1 i (J i) hi (if_neg (by omega))]
      exact k.1 i f hi hf
  · obtain ⟨a1, a2⟩ := g8.2 (J 0) (if_neg (by omega))
    obtain ⟨c1, c2⟩ := k.2 f hf
    exact ⟨a1.trans c1, a2.trans c2⟩
theorem b1_20 {W : Prop} {J X : IS} {s : SP} (g : RMo W (B1 J) X s) : X 20 = J 20 := g.2.2.2.2.2.2.2.1 20 (J 20) (by omega) (if_neg (by omega))
/-- only the asked World differs -/
def FR69 (I J : IS) : Prop := ∀ j, j < 69 ∨ 103 ≤ j → J j = I j
theorem fr69_g {I J q : IS} (h : FR69 I J) : FR69 I (gI 69 34 q J) := fun j hj => by rw [gI_out (by omega)]; exact h j hj
theorem fr69_r (I : IS) : FR69 I I := fun _ _ => rfl
theorem g69 (q I : IS) (k : Nat) (hk : k < 34) : zI 69 (gI 69 34 q I) k = q k := gI_in hk
theorem rwo_69 {q I : IS} {s : SP} (h : RWo q s) : RWo (zI 69 (gI 69 34 q I)) s := rwo_congr h (fun k hk => g69 q I k hk)
theorem inv_asked {Ic J : IS} {Jc : JS} {Im Im' : IS} {Jm : JS} {s si sa : SP} (h1 : RWo (zI 1 Ic) s) (h2 : WF s) (hm : RMo False (B0 Im) Im' s) (h4 : IRi Ic Im si) (hx : ITx Ic Im) (hp : ITp Ic Jc Im Jm) (hf : FR69 Ic J) (ha : RWo (zI 69 J) sa) : INV J Jc Im' Jm :=
  inv_of (rwo_congr h1 (fun k hk => hf _ (by omega))) h2 hm h4 ⟨sa, ha⟩ hx hp (fun j hj => hf _ (by omega))
theorem c_askT {J : IS} {s : SP} (h : RWo (zI 69 J) s) : RTa (zI 79 J) (nT s) (tf s) := by
  rw [zz (a := 69) (b := 10) rfl]
  exact h.2.1
theorem sc_on : SC_on INV := by
  intro Ic Jc Im Jm h x y
  have hq := inv_q h
  obtain ⟨s, si, h1, h2, h3, h4, h5, h6, h7⟩ := h
  obtain ⟨sa, ha⟩ := h5
  have mF : ¬ ((0 : Int32) ≤ y ∧ y ≤ 3) → f_X8_in y.toInt64 (0 : Int64) (3 : Int64) = some 0 := m_inF y 0 3
  have mT : ((0 : Int32) ≤ y ∧ y ≤ 3) → f_X8_in y.toInt64 (0 : Int64) (3 : Int64) = some 1 := m_inT y 0 3
  have nF : ¬ ((0 : Int32) ≤ x ∧ x ≤ 60) → f_X8_in x.toInt64 (0 : Int64) (60 : Int64) = some 0 := m_inF x 0 60
  have nT' : ((0 : Int32) ≤ x ∧ x ≤ 60) → f_X8_in x.toInt64 (0 : Int64) (60 : Int64) = some 1 := m_inT x 0 60
  by_cases c1 : y < 0
  · refine ⟨(-1, Ic), (-1, u2 Im 0 29 0), ?_, ?_, rfl, hq⟩
    · rw [f_X7_on, if_pos c1, f_X7_on_b9]
    · rw [f_X8_on, mF (fun q => not_le_lt c1 q.1), some_bind, if_pos rfl]
  · by_cases c2 : y ≤ 3
    · by_cases d1 : x < 0
      · refine ⟨(-2, Ic), (-2, u2 Im 0 29 0), ?_, ?_, rfl, hq⟩
        · rw [f_X7_on, if_neg c1, if_pos c2, if_pos d1, f_X7_on_b21]
        · rw [f_X8_on, mT ⟨le0_of c1, c2⟩, some_bind, if_neg z10, nF (fun q => not_le_lt d1 q.1), some_bind, if_pos rfl]
      · by_cases d2 : x ≤ 60
        · obtain ⟨n, hn, rfl⟩ := nI_up (n := 60) (by omega) d1 d2
          obtain ⟨q, q1, q2, q3⟩ := become_at 69 1 h1 ha
          have wA := wf_lg h2 (lg sa)
          obtain ⟨q', r1, r2⟩ := wor_rounds (rwo_69 (I := Ic) q3) wA (n := n) (by omega)
          have hR := rwo_69 (I := gI 69 34 q Ic) r2
          have hF : FR69 Ic (gI 69 34 q' (gI 69 34 q Ic)) := fr69_g (fr69_g (fr69_r Ic))
          obtain ⟨J0, o1, o2, o3⟩ := mo_open (mo_29 (mo_b0 h3) 0) (B0_n (by omega))
          obtain ⟨X, x1, x2⟩ := mo_rounds (mo_untrack (mo_b1 o2) (lg sa)) (B1_n (by omega)) (B1_n (by omega)) (B1_n (by omega)) wA (n := n) (by omega)
          obtain ⟨w1, w2, -⟩ := wf_rounds wA n
          obtain ⟨J', a1, a2, -⟩ := mo_again (mo_b10 o2 x2) (by rw [b1_20 x2]; exact o3) h2.1.2.1
          have hI : INV (gI 69 34 q' (gI 69 34 q Ic)) Jc J' Jm := inv_asked h1 h2 a2 h4 h6 h7 hF hR
          generalize eRounds (wLg s (lg sa)) n = s' at r2 hR x2 w1 w2
          have hc : f_X7_on (nI n) y Ic = (if y = 0 then ((f_X4_howManyEnded (zI 79 (gI 69 34 q' (gI 69 34 q Ic)))).bind fun q10 => some (q10, gI 69 34 q' (gI 69 34 q Ic))) else if y = 1 then ((f_X4_howManyDone (zI 79 (gI 69 34 q' (gI 69 34 q Ic)))).bind fun q10 => some (q10, gI 69 34 q' (gI 69 34 q Ic))) else if y = 2 then ((f_X6_idleOfAll (zI 69 (gI 69 34 q' (gI 69 34 q Ic)))).bind fun q10 => some (q10, gI 69 34 q' (gI 69 34 q Ic))) else ((f_X6_stoleOfAll (zI 69 (gI 69 34 q' (gI 69 34 q Ic)))).bind fun q10 => some (q10, gI 69 34 q' (gI 69 34 q Ic)))) := by
            rw [f_X7_on, if_neg c1, if_pos c2, if_neg d1, if_pos d2, q1, some_bind, q2, r1, some_bind]
          have hm : f_X8_on (nI n) y Im = (if y = 0 then ((f_X8_endedMany X).bind fun q17 => f_X8_on_b71 q17 X) else if y = 1 then ((f_X8_doneMany X).bind fun q17 => f_X8_on_b71 q17 X) else ((f_X8_ofArms y X).bind fun q17 => f_X8_on_b71 q17 X)) := by
            rw [f_X8_on, mT ⟨le0_of c1, c2⟩, some_bind, if_neg z10, nT' ⟨le0_of d1, d2⟩, some_bind, if_neg z10, o1, some_bind, x1, some_bind]
          have hb : ∀ v, f_X8_on_b71 v X = some (v, J') := fun v => by rw [f_X8_on_b71, a1, some_bind]
          rw [hc, hm]
          by_cases y0 : y = 0
          · rw [if_pos y0, if_pos y0, tas_ended (c_askT hR), mt_ended x2.2.2.1, some_bind, some_bind, hb]
            exact ⟨_, _, rfl, rfl, rfl, hI⟩
          · rw [if_neg y0, if_neg y0]
            by_cases y1 : y = 1
            · rw [if_pos y1, if_pos y1, tas_done (c_askT hR), mt_done x2.2.2.1, some_bind, some_bind, hb]
              exact ⟨_, _, rfl, rfl, rfl, hI⟩
            · rw [if_neg y1, if_neg y1, mo_ofArms x2 w1.1.2.1, some_bind, hb]
              by_cases y2 : y = 2
              · rw [if_pos y2, if_pos y2, wor_idle hR w1.1.2.1, some_bind]
                exact ⟨_, _, rfl, rfl, rfl, hI⟩
              · rw [if_neg y2, if_neg y2, wor_stole hR w1.1.2.1, some_bind]
                exact ⟨_, _, rfl, rfl, rfl, hI⟩
        · refine ⟨(-2, Ic), (-2, u2 Im 0 29 0), ?_, ?_, rfl, hq⟩
          · rw [f_X7_on, if_neg c1, if_pos c2, if_neg d1, if_neg d2, f_X7_on_b21]
          · rw [f_X8_on, mT ⟨le0_of c1, c2⟩, some_bind, if_neg z10, nF (fun q => d2 q.2), some_bind, if_pos rfl]
    · refine ⟨(-1, Ic), (-1, u2 Im 0 29 0), ?_, ?_, rfl, hq⟩
      · rw [f_X7_on, if_neg c1, if_neg c2, f_X7_on_b9]
      · rw [f_X8_on, mF (fun q => c2 q.2), some_bind, if_pos rfl]
/-- how long all takes, by n arms: both -/
theorem c_till {Ic : IS} {s sa : SP} (h1 : RWo (zI 1 Ic) s) (h2 : WF s) (ha : RWo (zI 69 Ic) sa) {n : Nat} (hn : 1 ≤ n) (hn4 : n ≤ 4) : ∃ r J sa', f_X7_roundsTillOver (nI n) Ic = some (r, J) ∧ isTill (eChg (wLg s (lg sa)) n) r ∧ RWo (zI 69 J) sa' ∧ FR69 Ic J := by
  obtain ⟨q, q1, q2, q3⟩ := become_at 69 1 h1 ha
  have wA := wf_lg h2 (lg sa)
  obtain ⟨q', r1, r2⟩ := wor_chg (rwo_69 (I := Ic) q3) wA hn hn4
  have hR := rwo_69 (I := gI 69 34 q Ic) r2
  have hF : FR69 Ic (gI 69 34 q' (gI 69 34 q Ic)) := fr69_g (fr69_g (fr69_r Ic))
  have wC := (wf_chg wA hn hn4).1
  generalize eChg (wLg s (lg sa)) n = s0 at r2 hR wC
  have key := loop_ret (fun fu j (J : IS) => f_X7_roundsTillOver_b21 fu (nI j) J) 301 (fun j J => RWo (zI 69 J) (eRounds s0 j) ∧ FR69 Ic J ∧ ∀ k, k < j → busy (eRounds s0 k)) (fun q => isTill s0 q.1 ∧ (∃ sa', RWo (zI 69 q.2) sa') ∧ FR69 Ic q.2) (fun fu J hJ => by
    obtain ⟨j1, j2, j3⟩ := hJ
    refine ⟨(-5, J), ?_, Or.inr ⟨fun k hk => j3 k (by omega), rfl⟩, ⟨_, j1⟩, j2⟩
    show f_X7_roundsTillOver_b21 (fu + 1) (nI 301) J = _
    have c : (300 : Int32) < nI 301 := by decide
    rw [f_X7_roundsTillOver_b21, if_pos c]) (fun fu j J hj hJ => by
    obtain ⟨j1, j2, j3⟩ := hJ
    obtain ⟨w1, w2, -⟩ := wf_rounds wC j
    obtain ⟨r, r1, r2⟩ := wor_isOver j1 w1.1.2.1
    have c : ¬ (300 : Int32) < nI j := fun q => by
      have := (nI_ltI (a := 300) (by omega) (by omega)).mp q
      omega
    show (∃ r, f_X7_roundsTillOver_b21 (fu + 1) (nI j) J = some r ∧ _) ∨ ∃ J', _ ∧ f_X7_roundsTillOver_b21 (fu + 1) (nI j) J = f_X7_roundsTillOver_b21 fu (nI (j + 1)) J'
    rcases r2 with ⟨rfl, r2⟩ | ⟨rfl, r2⟩
    · left
      refine ⟨(nI j, J), ?_, Or.inl ⟨j, by omega, r2, j3, rfl⟩, ⟨_, j1⟩, j2⟩
      rw [f_X7_roundsTillOver_b21, if_neg c, r1, some_bind, if_neg z10]
    · right
      obtain ⟨q5, k1, k2⟩ := wor_round' j1 w1
      refine ⟨gI 69 34 q5 J, ⟨rwo_69 k2, fr69_g j2, fun k hk => ?_⟩, ?_⟩
      · by_cases hkj : k = j
        · rw [hkj]
          exact r2
        · exact j3 k (by omega)
      · rw [f_X7_roundsTillOver_b21, if_neg c, r1, some_bind, if_pos rfl, k1, some_bind, nI_1]) 301 0 LF _ (by omega) (by unfold LF; omega) ⟨hR, hF, fun k hk => absurd hk (Nat.not_lt_zero k)⟩
  obtain ⟨⟨r, J⟩, k1, k2, ⟨sa', k3⟩, k4⟩ := key
  refine ⟨r, J, sa', ?_, k2, k3, k4⟩
  rw [f_X7_roundsTillOver, q1, some_bind, q2, r1, some_bind]
  exact k1
theorem m_till {Im I : IS} {s : SP} (h : RMo False (B0 Im) I s) (h2 : WF s) (l : List Int32) {n : Nat} (hn : 1 ≤ n) (hn4 : n ≤ 4) : ∃ r J, f_X8_tillBy (nI n) I = some (r, J) ∧ isTill (eChg (wLg s l) n) r ∧ RMo False (B0 Im) J s := by
  obtain ⟨J0, o1, o2, o3⟩ := mo_open h (B0_n (by omega))
  have wA := wf_lg h2 l
  obtain ⟨X, x1, x2⟩ := mo_chg (mo_untrack (mo_b1 o2) l) wA hn hn4
  have wC := (wf_chg wA hn hn4).1
  obtain ⟨r, Y, s', y1, y2, y3⟩ := mo_till x2 (B1_n (by omega)) (B1_n (by omega)) (B1_n (by omega)) wC
  obtain ⟨J', a1, a2, -⟩ := mo_again (mo_b10 o2 y3) (by rw [b1_20 y3]; exact o3) h2.1.2.1
  refine ⟨r, J', ?_, y2, a2⟩
  rw [f_X8_tillBy, o1, some_bind, x1, some_bind, y1, some_bind, a1, some_bind]
theorem sc_till : SC_till INV := by
  intro Ic Jc Im Jm h x
  have hq := inv_q h
  obtain ⟨s, si, h1, h2, h3, h4, h5, h6, h7⟩ := h
  obtain ⟨sa, ha⟩ := h5
  have mF : ¬ ((1 : Int32) ≤ x ∧ x ≤ 4) → f_X8_in x.toInt64 (1 : Int64) (4 : Int64) = some 0 := m_inF x 1 4
  have mT : ((1 : Int32) ≤ x ∧ x ≤ 4) → f_X8_in x.toInt64 (1 : Int64) (4 : Int64) = some 1 := m_inT x 1 4
  by_cases c1 : x < 1
  · refine ⟨(-2, Ic), (-2, u2 Im 0 29 0), ?_, ?_, rfl, hq⟩
    · rw [f_X7_till, if_pos c1, f_X7_till_b10, f_X7_till_b20]
    · rw [f_X8_till, mF (fun q => not_le_lt c1 q.1), some_bind, if_pos rfl, f_X8_till_b27]
  · by_cases c2 : x ≤ 4
    · have c0 : ¬ x < 0 := fun q => c1 (by
        rw [Int32.lt_iff_toInt_lt] at q ⊢
        have : (1 : Int32).toInt = 1 := rfl
        have : (0 : Int32).toInt = 0 := rfl
        omega)
      obtain ⟨n, hn4, rfl⟩ := nI_up (n := 4) (by omega) c0 c2
      have hn1 : 1 ≤ n := by
        rcases Nat.eq_zero_or_pos n with q | q
        · rw [q] at c1
          exact absurd (by decide) c1
        · exact q
      obtain ⟨r, J, sa', k1, k2, k3, k4⟩ := c_till h1 h2 ha hn1 hn4
      obtain ⟨r', J', p1, p2, p3⟩ := m_till (mo_29 (mo_b0 h3) 0) h2 (lg sa) hn1 hn4
      refine ⟨(r, J), (r', J'), ?_, ?_, isTill_one k2 p2, inv_asked h1 h2 p3 h4 h6 h7 k4 k3⟩
      · rw [f_X7_till, if_neg c1, if_pos c2, k1, some_bind, f_X7_till_b20]
      · rw [f_X8_till, mT ⟨le1_of c1, c2⟩, some_bind, if_neg z10, p1, some_bind, f_X8_till_b27]
    · refine ⟨(-2, Ic), (-2, u2 Im 0 29 0), ?_, ?_, rfl, hq⟩
      · rw [f_X7_till, if_neg c1, if_neg c2, f_X7_till_b10, f_X7_till_b20]
      · rw [f_X8_till, mF (fun q => c2 q.2), some_bind, if_pos rfl, f_X8_till_b27]
/-- two loops side by side -/
theorem loop2 {σ τ R S : Type} (L1 : Nat → Nat → σ → Option R) (L2 : Nat → Nat → τ → Option S) (e : Nat) (P : Nat → σ → τ → Prop) (Q : R → S → Prop) (hx : ∀ fu fv s t, P e s t → ∃ r q, L1 (fu + 1) e s = some r ∧ L2 (fv + 1) e t = some q ∧ Q r q) (hs : ∀ fu fv j s t, j < e → P j s t → ∃ s' t', P (j + 1) s' t' ∧ L1 (fu + 1) j s = L1 fu (j + 1) s' ∧ L2 (fv + 1) j t = L2 fv (j + 1) t') : ∀ (k j fu fv : Nat) (s : σ) (t : τ), j + k = e → k < fu → k < fv → P j s t → ∃ r q, L1 fu j s = some r ∧ L2 fv j t = some q ∧ Q r q := by
  intro k
  induction k with
  | zero =>
    intro j fu fv s t hj hf hg hP
    obtain ⟨f, rfl⟩ : ∃ f, fu = f + 1 := ⟨fu - 1, by omega⟩
    obtain ⟨g, rfl⟩ : ∃ g, fv = g + 1 := ⟨fv - 1, by omega⟩
    have : j = e := by omega
    subst this
    exact hx f g s t hP
  | succ k ih =>
    intro j fu fv s t hj hf hg hP
    obtain ⟨f, rfl⟩ : ∃ f, fu = f + 1 := ⟨fu - 1, by omega⟩
    obtain ⟨g, rfl⟩ : ∃ g, fv = g + 1 := ⟨fv - 1, by omega⟩
    obtain ⟨s', t', hP', e1, e2⟩ := hs f g j s t (by omega) hP
    rw [e1, e2]
    exact ih (j + 1) f g s' t' (by omega) (by omega) (by omega) hP'
theorem isTill_rng {s : SP} {r : Int32} (h : isTill s r) : r = -5 ∨ ∃ m, m ≤ 300 ∧ r = nI m := by
  rcases h with ⟨m, m1, -, -, m4⟩ | ⟨-, m2⟩
  · exact Or.inr ⟨m, m1, m4⟩
  · exact Or.inl m2
theorem both_best {Ic : IS} {Im I : IS} {s sa : SP} (h1 : RWo (zI 1 Ic) s) (h2 : WF s) (ha : RWo (zI 69 Ic) sa) (hm : RMo False (B0 Im) I s) : ∃ r J J' sa', f_X7_bestArms Ic = some (r, J) ∧ f_X8_bestArms I = some (r, J') ∧ RWo (zI 69 J) sa' ∧ FR69 Ic J ∧ RMo False (B0 Im) J' s := by
  have key := loop2 (fun fu j (q : Int32 × Int32 × IS) => f_X7_bestArms_b9 fu q.1 q.2.1 (nI (j + 1)) q.2.2) (fun fu j (q : Int32 × Int32 × IS) => f_X8_bestArms_b9 fu q.1 q.2.1 (nI (j + 1)) q.2.2) 4 (fun _ q q' => q.1 = q'.1 ∧ q.2.1 = q'.2.1 ∧ (∃ sa, RWo (zI 69 q.2.2) sa) ∧ FR69 Ic q.2.2 ∧ RMo False (B0 Im) q'.2.2 s) (fun r r' => r.1 = r'.1 ∧ (∃ sa, RWo (zI 69 r.2) sa) ∧ FR69 Ic r.2 ∧ RMo False (B0 Im) r'.2 s) ?_ ?_ 4 0 LF LF (-5, 301, Ic) (-5, 301, I) (by omega) (by unfold LF; omega) (by unfold LF; omega) ⟨rfl, rfl, ⟨sa, ha⟩, fr69_r Ic, hm⟩
  · obtain ⟨⟨r, J⟩, ⟨r', J'⟩, k1, k2, k3, ⟨sa', k4⟩, k5, k6⟩ := key
    have k3 : r = r' := k3
    subst k3
    exact ⟨r, J, J', sa', k1, k2, k4, k5, k6⟩
  · rintro fu fv ⟨b, l, J⟩ ⟨b', l', J'⟩ ⟨g1, g2, g3, g4, g5⟩
    have c : (4 : Int32) < nI (4 + 1) := by decide
    refine ⟨(b, J), (b', J'), ?_, ?_, g1, g3, g4, g5⟩
    · show f_X7_bestArms_b9 (fu + 1) b l (nI (4 + 1)) J = _
      rw [f_X7_bestArms_b9, if_pos c]
    · show f_X8_bestArms_b9 (fv + 1) b' l' (nI (4 + 1)) J' = _
      rw [f_X8_bestArms_b9, if_pos c]
  · rintro fu fv j ⟨b, l, J⟩ ⟨b', l', J'⟩ hj ⟨g1, g2, ⟨sj, g3⟩, g4, g5⟩
    have g1 : b = b' := g1
    have g2 : l = l' := g2
    subst g1
    subst g2
    have c : ¬ (4 : Int32) < nI (j + 1) := fun q => by
      have := (nI_ltI (a := 4) (by omega) (by omega)).mp q
      omega
    have g4 : FR69 Ic J := g4
    have h1' : RWo (zI 1 J) s := rwo_congr h1 (fun k hk => g4 _ (by omega))
    obtain ⟨r, X, sa', k1, k2, k3, k4⟩ := c_till h1' h2 g3 (n := j + 1) (by omega) (by omega)
    obtain ⟨r', Y, p1, p2, p3⟩ := m_till g5 h2 (lg sj) (n := j + 1) (by omega) (by omega)
    have hr := isTill_one k2 p2
    subst hr
    have hF : FR69 Ic X := fun i hi => (k4 i hi).trans (g4 i hi)
    have hc : f_X7_bestArms_b9 (fu + 1) b l (nI (j + 1)) J = (if r = -5 then f_X7_bestArms_b9 fu b l (nI (j + 1 + 1)) X else if l ≤ r then f_X7_bestArms_b9 fu b l (nI (j + 1 + 1)) X else f_X7_bestArms_b9 fu (nI (j + 1)) r (nI (j + 1 + 1)) X) := by
      rw [f_X7_bestArms_b9, if_neg c, k1, some_bind, f_X7_bestArms_b39, f_X7_bestArms_b39, nI_1]
    have hm' : f_X8_bestArms_b9 (fv + 1) b l (nI (j + 1)) J' = (if r < 0 then f_X8_bestArms_b36 (f_X8_bestArms_b9 fv) b l (nI (j + 1)) r Y else if l ≤ r then f_X8_bestArms_b36 (f_X8_bestArms_b9 fv) b l (nI (j + 1)) r Y else f_X8_bestArms_b37 (f_X8_bestArms_b9 fv) l (nI (j + 1)) r (nI (j + 1)) Y) := by
      rw [f_X8_bestArms_b9, if_neg c, p1, some_bind]
    show ∃ (q q' : Int32 × Int32 × IS), _ ∧ f_X7_bestArms_b9 (fu + 1) b l (nI (j + 1)) J = f_X7_bestArms_b9 fu q.1 q.2.1 (nI (j + 1 + 1)) q.2.2 ∧ f_X8_bestArms_b9 (fv + 1) b l (nI (j + 1)) J' = f_X8_bestArms_b9 fv q'.1 q'.2.1 (nI (j + 1 + 1)) q'.2.2
    rw [hc, hm']
    rcases isTill_rng k2 with e | ⟨m, m1, e⟩
    · have e0 : r < 0 := by rw [e]; decide
      refine ⟨(b, l, X), (b, l, Y), ⟨rfl, rfl, ⟨sa', k3⟩, hF, p3⟩, ?_, ?_⟩
      · rw [if_pos e]
      · rw [if_pos e0, f_X8_bestArms_b36, f_X8_bestArms_b37, if_pos e0, f_X8_bestArms_b54, f_X8_bestArms_b55, nI_1]
    · have e0 : ¬ r < 0 := by rw [e]; exact nI_lt0 (by omega)
      have e5 : ¬ r = -5 := by rw [e]; exact m5_ne (by omega)
      by_cases cl : l ≤ r
      · refine ⟨(b, l, X), (b, l, Y), ⟨rfl, rfl, ⟨sa', k3⟩, hF, p3⟩, ?_, ?_⟩
        · rw [if_neg e5, if_pos cl]
        · rw [if_neg e0, if_pos cl, f_X8_bestArms_b36, f_X8_bestArms_b37, if_neg e0, if_pos cl, f_X8_bestArms_b54, f_X8_bestArms_b55, nI_1]
      · refine ⟨(nI (j + 1), r, X), (nI (j + 1), r, Y), ⟨rfl, rfl, ⟨sa', k3⟩, hF, p3⟩, ?_, ?_⟩
        · rw [if_neg e5, if_neg cl]
        · rw [if_neg e0, if_neg cl, f_X8_bestArms_b37, if_neg e0, if_neg cl, f_X8_bestArms_b55, nI_1]
theorem sc_told : SC_told INV := by
  intro Ic Jc Im Jm h x
  have hq := inv_q h
  obtain ⟨s, si, h1, h2, h3, h4, h5, h6, h7⟩ := h
  obtain ⟨sa, ha⟩ := h5
  have g3 := mo_29 (mo_b0 h3) 0
  have e6 : Ic 1 6 = nI (na s) := h1.2.2.2.2.1
  have e7 : Ic 1 7 = sd s := h1.2.2.2.2.2.1
  have e8 : Ic 1 8 = rd s := h1.2.2.2.2.2.2.1
  obtain ⟨m0, m14, m15⟩ := g3.2.2.2.2.2.1
  have m16 := g3.2.2.2.1.1
  have hE : Ic 20 7 = nI (tr_ s).length := by
    obtain ⟨_, _, _, q, _⟩ := h1.2.2.1
    exact q
  obtain ⟨r, r1, r2⟩ := wor_isOver h1 h2.1.2.1
  obtain ⟨r', r1', r2'⟩ := mo_isOver g3 h2
  have rr : r = r' := by
    rcases r2 with ⟨q1, q2⟩ | ⟨q1, q2⟩
    · rcases r2' with ⟨p1, p2⟩ | ⟨p1, p2⟩
      · rw [q1, p1]
      · exact absurd p2 q2
    · rcases r2' with ⟨p1, p2⟩ | ⟨p1, p2⟩
      · exact absurd q2 p2
      · rw [q1, p1]
  obtain ⟨t, J, sa', k1, k2, k3, k4⟩ := c_till h1 h2 ha h2.1.1 h2.1.2.1
  obtain ⟨t', J', p1, p2, p3⟩ := m_till g3 h2 (lg sa) h2.1.1 h2.1.2.1
  obtain ⟨b, X, X', sb, b1, b2, b3, b4, b5⟩ := both_best h1 h2 ha g3
  unfold f_X7_told f_X8_told
  rw [e6, e7, e8, m0, m14, m15, m16, hE, r1, r1', k1, p1, b1, b2]
  by_cases c0 : x = 0
  · rw [if_pos c0, if_pos c0]
    exact ⟨_, _, rfl, rfl, rfl, hq⟩
  · rw [if_neg c0, if_neg c0]
    by_cases c1 : x = 1
    · rw [if_pos c1, if_pos c1]
      exact ⟨_, _, rfl, rfl, rfl, hq⟩
    · rw [if_neg c1, if_neg c1]
      by_cases c2 : x = 2
      · rw [if_pos c2, if_pos c2]
        exact ⟨_, _, rfl, rfl, rfl, hq⟩
      · rw [if_neg c2, if_neg c2]
        by_cases c3 : x = 3
        · rw [if_pos c3, if_pos c3, some_bind, some_bind, ← rr]
          by_cases r0 : r = 0
          · rw [if_pos r0, if_pos r0]
            exact ⟨_, _, rfl, rfl, rfl, hq⟩
          · rw [if_neg r0, if_neg r0]
            exact ⟨_, _, rfl, rfl, rfl, hq⟩
        · rw [if_neg c3, if_neg c3]
          by_cases c4 : x = 4
          · rw [if_pos c4, if_pos c4, some_bind, some_bind]
            exact ⟨_, _, rfl, rfl, isTill_one k2 p2, inv_asked h1 h2 p3 h4 h6 h7 k4 k3⟩
          · rw [if_neg c4, if_neg c4]
            by_cases c5 : x = 5
            · rw [if_pos c5, if_pos c5, some_bind, some_bind]
              exact ⟨_, _, rfl, rfl, rfl, inv_asked h1 h2 b5 h4 h6 h7 b4 b3⟩
            · rw [if_neg c5, if_neg c5]
              by_cases c6 : x = 6
              · rw [if_pos c6, if_pos c6]
                exact ⟨_, _, rfl, rfl, rfl, hq⟩
              · rw [if_neg c6, if_neg c6]
                exact ⟨_, _, rfl, rfl, rfl, hq⟩
