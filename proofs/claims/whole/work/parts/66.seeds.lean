/-! ===== the call: seeds ===== -/
/-- all that is told as seen came so -/
def seenOk (sn : List (Int32 × Int32)) (l : List Int32) : Prop := ∀ q, q ∈ sn → ∀ k, k < 40 → q.2 = nI k → l[k]? = some q.1
theorem c_seen {Ic : IS} {s sa : SP} (h1 : RWo (zI 1 Ic) s) (h2 : WF s) (ha : RWo (zI 69 Ic) sa) (v : Int32) : ∃ r J sa', f_X7_isAsSeen v Ic = some (r, J) ∧ (r = 1 ∧ seenOk (tol s).1 (lg (eRounds (wSd (wLg s []) v) 60)) ∨ r = 0 ∧ ¬ seenOk (tol s).1 (lg (eRounds (wSd (wLg s []) v) 60))) ∧ RWo (zI 69 J) sa' ∧ FR69 Ic J := by
  have hT := h2.1.2.2
  obtain ⟨q, q1, q2, q3⟩ := become_at 69 1 h1 ha
  have gs := rwo_sd (rwo_69 (I := Ic) q3) v
  rw [← zI_u2 (e := 69) (i := 0)] at gs
  have gs : RWo (zI 69 (u2 (gI 69 34 q Ic) 69 7 v)) (wSd (wLg s (lg sa)) v) := gs
  have hF1 : FR69 Ic (u2 (gI 69 34 q Ic) 69 7 v) := fun i hi => by
    rw [u2_oth _ _ _ (by omega)]
    exact fr69_g (fr69_r Ic) i hi
  have hd : f_X7_isAsSeen v Ic = ((f_X1_watch (zI 88 (u2 (gI 69 34 q Ic) 69 7 v))).bind fun q3 => ((f_X6_goRoundsTillOver 60 (zI 69 (gI 88 6 q3 (u2 (gI 69 34 q Ic) 69 7 v)))).bind fun q5 => (f_X7_isAsSeen_b40 LF 0 (gI 69 34 q5 (gI 88 6 q3 (u2 (gI 69 34 q Ic) 69 7 v)))))) := by
    rw [f_X7_isAsSeen, q1, some_bind, q2]
  generalize u2 (gI 69 34 q Ic) 69 7 v = I1 at gs hF1 hd
  have hE : RTr (zI 88 I1) (tr_ (wSd (wLg s (lg sa)) v)) := by
    rw [zz (a := 69) (b := 19) rfl]
    exact gs.2.2.1
  obtain ⟨p3, w1, w2, w3⟩ := ent_watch hE
  have g2 := rwo_ent gs w2 w3
  rw [← zI_gI (e := 69) (e' := 19)] at g2
  have g2 : RWo (zI 69 (gI 88 6 p3 I1)) (wSd (wLg s []) v) := g2
  have hF2 : FR69 Ic (gI 88 6 p3 I1) := fun i hi => by
    rw [gI_out (by omega)]
    exact hF1 i hi
  have wA : WF (wSd (wLg s []) v) := wf_sd (wf_lg h2 []) v
  rw [w1, some_bind] at hd
  generalize gI 88 6 p3 I1 = I2 at g2 hF2 hd
  generalize wSd (wLg s []) v = sA at g2 wA ⊢
  obtain ⟨Q, e1, m, e2, e3⟩ := wor_tillOver g2 wA (n := 60) (by omega)
  have e1 : f_X6_goRoundsTillOver 60 (zI 69 I2) = some Q := e1
  rw [e1, some_bind] at hd
  rw [(stop_busy wA e2).2, hd]
  have hR := rwo_69 (I := I2) e3
  have hF3 : FR69 Ic (gI 69 34 Q I2) := fr69_g hF2
  generalize gI 69 34 Q I2 = I3 at hR hF3 ⊢
  have hW : RWa (zI 88 I3) (lg (eRounds sA m)) := by
    rw [zz (a := 69) (b := 19) rfl]
    exact hR.2.2.2.1
  generalize lg (eRounds sA m) = l at hW ⊢
  obtain ⟨p1, p2, p3⟩ := h1.2.2.2.2.2.2.2.1
  have p1 : I3 26 2 = nI (tol s).1.length := by rw [hF3 26 (by omega)]; exact p1
  have p3 : ∀ k, k < (tol s).1.length → (tol s).1[k]? = some (I3 27 k, I3 28 k) := fun k hk => by
    rw [hF3 27 (by omega), hF3 28 (by omega)]
    exact p3 k hk
  have t1 := h2.2.2.2.2.2.2.1
  have key := loop_ret (fun fu j (_ : Unit) => f_X7_isAsSeen_b40 fu (nI j) I3) (tol s).1.length (fun j _ => ∀ i, i < j → ∀ k, k < 40 → I3 28 i = nI k → l[k]? = some (I3 27 i)) (fun r => r.2 = I3 ∧ (r.1 = 1 ∧ seenOk (tol s).1 l ∨ r.1 = 0 ∧ ¬ seenOk (tol s).1 l)) (fun fu _ hP => by
    refine ⟨(1, I3), ?_, rfl, Or.inl ⟨rfl, fun q hq k hk e => ?_⟩⟩
    · show f_X7_isAsSeen_b40 (fu + 1) (nI _) I3 = _
      rw [f_X7_isAsSeen_b40, p1, if_pos ((nI_leI (by omega) (by omega)).mpr (Nat.le_refl _))]
    · obtain ⟨i, hi⟩ := List.getElem?_of_mem hq
      have hil := (List.getElem?_eq_some_iff.mp hi).1
      rw [p3 i hil] at hi
      have hi := Option.some.inj hi
      rw [← hi] at e ⊢
      exact hP i hil k hk e) (fun fu j _ hj hP => by
    have ej := p3 j hj
    obtain ⟨⟨t, ht, et⟩, k, hk, ek⟩ := t1 _ (List.mem_of_getElem? ej)
    have et : I3 27 j = nI t := et
    have ek : I3 28 j = nI k := ek
    have c1 : ¬ nI (tol s).1.length ≤ nI j := nI_ge hj (by omega)
    have co : okI (nI j) 5 = true := okI_nI (by omega) (by omega)
    have ew := ent_watched hW hk
    have hd2 : f_X7_isAsSeen_b40 (fu + 1) (nI j) I3 = (if (l[k]?).getD (-5) = nI t then f_X7_isAsSeen_b40 fu (nI (j + 1)) I3 else some (0, I3)) := by
      rw [f_X7_isAsSeen_b40, p1, if_neg c1, if_pos co, nI_clamp (by omega), ek, ew, some_bind, if_pos co, et, nI_1]
    show (∃ r, f_X7_isAsSeen_b40 (fu + 1) (nI j) I3 = some r ∧ _) ∨ ∃ _, _ ∧ f_X7_isAsSeen_b40 (fu + 1) (nI j) I3 = f_X7_isAsSeen_b40 fu (nI (j + 1)) I3
    rw [hd2]
    by_cases c : (l[k]?).getD (-5) = nI t
    · right
      refine ⟨(), fun i hi k' hk' e => ?_, if_pos c⟩
      by_cases hij : i = j
      · subst hij
        have : k' = k := nIne (by omega) (by omega) (e.symm.trans ek)
        subst this
        rw [et]
        cases hl : l[k']? with
        | none =>
          rw [hl] at c
          exact absurd c.symm (m5_ne (by omega))
        | some w =>
          rw [hl] at c
          rw [show w = nI t from c]
      · exact hP i (by omega) k' hk' e
    · left
      refine ⟨(0, I3), if_neg c, rfl, Or.inr ⟨rfl, fun ok => c ?_⟩⟩
      rw [ok _ (List.mem_of_getElem? ej) k hk ek]
      exact et) (tol s).1.length 0 LF () (by omega) (by unfold LF; omega) (fun i hi => absurd hi (Nat.not_lt_zero i))
  obtain ⟨⟨r, J⟩, k1, k2, k3⟩ := key
  have k2 : J = I3 := k2
  subst k2
  exact ⟨r, J, _, k1, k3, hR, hF3⟩
theorem mo_track {B : BS} {I : IS} {s : SP} (h : RMo False B I s) : RMo True B (u2 (u2 I 0 27 0) 0 28 0) (wLg s []) := by
  obtain ⟨h1, h2, h3, h4, h5, h6, h7, h8⟩ := h
  have o : ∀ i, i ≠ 0 → u2 (u2 I 0 27 0) 0 28 0 i = I i := fun i hi => by rw [u2_oth _ _ _ hi, u2_oth _ _ _ hi]
  have o0 : ∀ b, b ≠ 27 → b ≠ 28 → u2 (u2 I 0 27 0) 0 28 0 0 b = I 0 b := fun b hb hb2 => by rw [u2_ne _ _ (Or.inr hb2), u2_ne _ _ (Or.inr hb)]
  refine ⟨rmr_c h1 (o _ (by omega)) (o _ (by omega)) rfl, rma_c h2 (o _ (by omega)) (o _ (by omega)) (o _ (by omega)) rfl rfl, rmt_c h3 (o0 _ (by omega) (by omega)) (fun i _ _ => o i (by omega)) rfl rfl, rme_c h4 (o0 _ (by omega) (by omega)) (o _ (by omega)) rfl, rmp_c h5 ⟨o0 _ (by omega) (by omega), o0 _ (by omega) (by omega), o0 _ (by omega) (by omega)⟩ (fun i _ _ => o i (by omega)) rfl, rmn_c h6 ⟨o0 _ (by omega) (by omega), o0 _ (by omega) (by omega), o0 _ (by omega) (by omega)⟩ rfl rfl rfl, ⟨Or.inl (u2_eq _ _ _ _), fun _ => ⟨by rw [u2_ne _ _ (Or.inr (by omega)), u2_eq]; rfl, ?_⟩⟩, keep_c h8 (fun i hi => o i (by omega)) ⟨o0 _ (by omega) (by omega), o0 _ (by omega) (by omega)⟩⟩
  rw [u2_eq]
  refine ⟨fun q => absurd q z01, fun ⟨q, q1, j, q2, _⟩ => absurd q2 (Nat.not_lt_zero j)⟩
theorem seen_dec {sn : List (Int32 × Int32)} {l1 l2 l' : List Int32} {L : Nat} (hs : ∀ q, q ∈ sn → ∃ k, k < 40 ∧ q.2 = nI k ∧ k + 1 ≤ L) (hL : L = 0 ∨ ∃ q, q ∈ sn ∧ q.2 = nI (L - 1)) (hL40 : L ≤ 40) (hl : l1.length < 2 ^ 31) (he : l2 = l1 ++ l') (hx : l' = [] ∨ L ≤ l1.length ∨ oth sn l1) : (L ≤ l1.length ∧ ¬ oth sn l1) ↔ seenOk sn l2 := by
  constructor
  · rintro ⟨h1, h2⟩ q hq k hk e
    obtain ⟨k', hk', e', hkL⟩ := hs q hq
    have : k = k' := nIne (by omega) (by omega) (e.symm.trans e')
    subst this
    have hkl : k < l1.length := by omega
    rw [he, List.getElem?_append_left hkl]
    by_cases c : l1[k]? = some q.1
    · exact c
    · exact absurd ⟨q, hq, k, hkl, e.symm, c⟩ h2
  · intro ok
    have no : ¬ oth sn l1 := by
      rintro ⟨q, hq, j, hj, e, hne⟩
      obtain ⟨k, hk, e', -⟩ := hs q hq
      have : j = k := nIne (by omega) (by omega) (e.trans e')
      subst this
      have := ok q hq j hk e'
      rw [he, List.getElem?_append_left hj] at this
      exact hne this
    refine ⟨?_, no⟩
    rcases hx with hx | hx | hx
    · rcases hL with h0 | ⟨q, hq, e⟩
      · omega
      · by_cases h0 : L = 0
        · omega
        · have := ok q hq (L - 1) (by omega) e
          rw [he, hx, List.append_nil] at this
          have := (List.getElem?_eq_some_iff.mp this).1
          omega
    · exact hx
    · exact absurd hx no
theorem m_last {I : IS} {sn : List (Int32 × Int32)} (hs : RPm 5 (I 0 18) (I 14) (I 15) sn) (ht : ∀ q, q ∈ sn → ∃ k, k < 40 ∧ q.2 = nI k) (v : Int32) : ∃ (x : Int32) (L : Nat), f_X8_allSeen v I = f_X8_allSeen_b56 LF x 0 (u2 (u2 (u2 I 0 14 v) 0 27 0) 0 28 0) ∧ L ≤ 40 ∧ x.toInt = (L : Int) - 1 ∧ (∀ q, q ∈ sn → ∃ k, k < 40 ∧ q.2 = nI k ∧ k + 1 ≤ L) ∧ (L = 0 ∨ ∃ q, q ∈ sn ∧ q.2 = nI (L - 1)) := by
  obtain ⟨s1, s2, s3⟩ := hs
  have key := loop_to (fun fu j (x : Int32) => f_X8_allSeen_b4 fu v x (nI j) I) (fun x => f_X8_allSeen_b56 LF x 0 (u2 (u2 (u2 I 0 14 v) 0 27 0) 0 28 0)) sn.length (fun j x => ∃ L : Nat, L ≤ 40 ∧ x.toInt = (L : Int) - 1 ∧ (∀ i, i < j → ∃ k, k < 40 ∧ I 15 i = nI k ∧ k + 1 ≤ L) ∧ (L = 0 ∨ ∃ q, q ∈ sn ∧ q.2 = nI (L - 1))) (fun x => ∃ L : Nat, L ≤ 40 ∧ x.toInt = (L : Int) - 1 ∧ (∀ i, i < sn.length → ∃ k, k < 40 ∧ I 15 i = nI k ∧ k + 1 ≤ L) ∧ (L = 0 ∨ ∃ q, q ∈ sn ∧ q.2 = nI (L - 1))) (fun fu x hx => by
    refine ⟨x, hx, ?_⟩
    show f_X8_allSeen_b4 (fu + 1) v x (nI sn.length) I = _
    rw [f_X8_allSeen_b4, s1, if_pos ((nI_leI (by omega) (by omega)).mpr (Nat.le_refl _))]) (fun fu j x hj hx => by
    obtain ⟨L, L1, L2, L3, L4⟩ := hx
    have ej := s3 j hj
    obtain ⟨k, hk, ek⟩ := ht _ (List.mem_of_getElem? ej)
    have ek : I 15 j = nI k := ek
    have c1 : ¬ nI sn.length ≤ nI j := nI_ge hj (by omega)
    have co : okI (nI j) 5 = true := okI_nI (by omega) (by omega)
    show ∃ x', _ ∧ f_X8_allSeen_b4 (fu + 1) v x (nI j) I = f_X8_allSeen_b4 fu v x' (nI (j + 1)) I
    have hc : nI k ≤ x ↔ k + 1 ≤ L := by
      rw [Int32.le_iff_toInt_le, tnI (by omega), L2]
      omega
    by_cases c : nI k ≤ x
    · refine ⟨x, ⟨L, L1, L2, fun i hi => ?_, L4⟩, ?_⟩
      · by_cases hij : i = j
        · rw [hij]
          exact ⟨k, hk, ek, hc.mp c⟩
        · exact L3 i (by omega)
      · rw [f_X8_allSeen_b4, s1, if_neg c1, if_pos co, nI_clamp (by omega), ek, if_pos c, f_X8_allSeen_b32, nI_1]
    · have hk2 : L < k + 1 := Nat.lt_of_not_le (fun q => c (hc.mpr q))
      refine ⟨nI k, ⟨k + 1, by omega, by rw [tnI (by omega)]; omega, fun i hi => ?_, Or.inr ⟨_, List.mem_of_getElem? ej, ek⟩⟩, ?_⟩
      · by_cases hij : i = j
        · rw [hij]
          exact ⟨k, hk, ek, Nat.le_refl _⟩
        · obtain ⟨k', g1, g2, g3⟩ := L3 i (by omega)
          exact ⟨k', g1, g2, by omega⟩
      · rw [f_X8_allSeen_b4, s1, if_neg c1, if_pos co, nI_clamp (by omega), ek, if_neg c, if_pos co, f_X8_allSeen_b32, nI_1]) sn.length 0 LF (-1) (by omega) (by unfold LF; omega) ⟨0, by omega, rfl, fun i hi => absurd hi (Nat.not_lt_zero i), Or.inl rfl⟩
  obtain ⟨x, ⟨L, L1, L2, L3, L4⟩, k2⟩ := key
  refine ⟨x, L, k2, L1, L2, fun q hq => ?_, L4⟩
  obtain ⟨i, hi⟩ := List.getElem?_of_mem hq
  have hil := (List.getElem?_eq_some_iff.mp hi).1
  rw [s3 i hil] at hi
  rw [← Option.some.inj hi]
  exact L3 i hil
theorem m_seen {Im J0 X : IS} {s s0 : SP} (h2 : WF s) (o2 : RMo False (B0 Im) J0 s0) (o3 : PKs (J0 20) s) (hX : RMo False (B1 J0) X s) (v : Int32) : ∃ r X', f_X8_allSeen v X = some (r, X') ∧ (r = 1 ∧ seenOk (tol s).1 (lg (eRounds (wSd (wLg s []) v) 60)) ∨ r = 0 ∧ ¬ seenOk (tol s).1 (lg (eRounds (wSd (wLg s []) v) 60))) ∧ RMo False (B1 J0) X' s := by
  obtain ⟨x, L, a1, a2, a3, a4, a5⟩ := m_last hX.2.2.2.2.1.1 (fun q hq => (h2.2.2.2.2.2.2.1 q hq).2) v
  have gT := mo_track (mo_sd hX v)
  have gT : RMo True (B1 J0) (u2 (u2 (u2 X 0 14 v) 0 27 0) 0 28 0) (wSd (wLg s []) v) := gT
  have wA : WF (wSd (wLg s []) v) := wf_sd (wf_lg h2 []) v
  have eT : tol (wSd (wLg s []) v) = tol s := rfl
  have eG : lg (wSd (wLg s []) v) = [] := rfl
  rw [a1]
  generalize wSd (wLg s []) v = sA at gT wA eT eG ⊢
  generalize u2 (u2 (u2 X 0 14 v) 0 27 0) 0 28 0 = X1 at gT ⊢
  have fin : ∀ (Y : IS) (m : Nat), m ≤ 60 → RMo True (B1 J0) Y (eRounds sA m) → (m = 60 ∨ L ≤ (lg (eRounds sA m)).length ∨ oth (tol s).1 (lg (eRounds sA m))) → ∃ r X', f_X8_allSeen_b87 x Y = some (r, X') ∧ (r = 1 ∧ seenOk (tol s).1 (lg (eRounds sA 60)) ∨ r = 0 ∧ ¬ seenOk (tol s).1 (lg (eRounds sA 60))) ∧ RMo False (B1 J0) X' s := by
    intro Y m hm gY hx
    obtain ⟨k1, lm, k2, k3⟩ := lgx_rounds wA m
    obtain ⟨-, l', k5, -⟩ := lgx_rounds (wf_rounds wA m).1 (60 - m)
    rw [← eRounds_add, show m + (60 - m) = 60 by omega] at k5
    have hlen : (lg (eRounds sA m)).length < 2 ^ 31 := by
      rw [k2, eG, List.nil_append]
      omega
    obtain ⟨g28, gw⟩ := gY.2.2.2.2.2.2.1
    obtain ⟨g27, giff⟩ := gw trivial
    rw [k1, eT] at giff
    have dec := seen_dec a4 a5 a2 hlen k5 (by
      rcases hx with q | q
      · left
        rw [q] at k5
        have := congrArg List.length k5
        rw [List.length_append] at this
        exact List.length_eq_zero_iff.mp (by omega)
      · exact Or.inr q)
    have hcame : Y 0 27 ≤ x ↔ ¬ L ≤ (lg (eRounds sA m)).length := by
      rw [g27, Int32.le_iff_toInt_le, tnI hlen, a3]
      omega
    obtain ⟨Z, z1, z2, -⟩ := mo_again gY (by rw [b1_20 gY]; exact o3) h2.1.2.1
    have hb : ∀ r : Int32, okZ r = true → f_X8_allSeen_b107 r Y = some (r, Z) := fun r hr => by rw [f_X8_allSeen_b107, z1, some_bind, if_pos hr]
    by_cases c1 : Y 0 27 ≤ x
    · refine ⟨0, Z, ?_, Or.inr ⟨rfl, fun q => (hcame.mp c1) (dec.mpr q).1⟩, z2⟩
      rw [f_X8_allSeen_b87, if_pos c1, f_X8_allSeen_b106, hb 0 okZ0]
    · by_cases c2 : Y 0 28 = 0
      · refine ⟨1, Z, ?_, Or.inl ⟨rfl, dec.mp ⟨?_, fun q => ?_⟩⟩, z2⟩
        · rw [f_X8_allSeen_b87, if_neg c1, if_pos c2, hb 1 okZ1]
        · by_cases c : L ≤ (lg (eRounds sA m)).length
          · exact c
          · exact absurd (hcame.mpr c) c1
        · have := giff.mpr q
          rw [c2] at this
          exact z01 this
      · refine ⟨0, Z, ?_, Or.inr ⟨rfl, fun q => (dec.mpr q).2 (giff.mp (g28.resolve_left c2))⟩, z2⟩
        rw [f_X8_allSeen_b87, if_neg c1, if_neg c2, f_X8_allSeen_b106, hb 0 okZ0]
  have key := loop_ret (fun fu j (Y : IS) => f_X8_allSeen_b56 fu x (nI j) Y) 60 (fun j Y => RMo True (B1 J0) Y (eRounds sA j)) (fun q => (q.1 = 1 ∧ seenOk (tol s).1 (lg (eRounds sA 60)) ∨ q.1 = 0 ∧ ¬ seenOk (tol s).1 (lg (eRounds sA 60))) ∧ RMo False (B1 J0) q.2 s) (fun fu Y hY => by
    obtain ⟨r, X', f1, f2, f3⟩ := fin Y 60 (Nat.le_refl _) hY (Or.inl rfl)
    refine ⟨(r, X'), ?_, f2, f3⟩
    show f_X8_allSeen_b56 (fu + 1) x (nI 60) Y = _
    rw [f_X8_allSeen_b56, if_pos (by decide), f1]) (fun fu j Y hj hY => by
    have c60 : ¬ (60 : Int32) ≤ nI j := nI_ge (b := 60) hj (by omega)
    obtain ⟨k1, lm, k2, k3⟩ := lgx_rounds wA j
    have hlen : (lg (eRounds sA j)).length < 2 ^ 31 := by
      rw [k2, eG, List.nil_append]
      omega
    obtain ⟨g28, gw⟩ := hY.2.2.2.2.2.2.1
    obtain ⟨g27, giff⟩ := gw trivial
    rw [k1, eT] at giff
    have hcame : x < Y 0 27 ↔ L ≤ (lg (eRounds sA j)).length := by
      rw [g27, Int32.lt_iff_toInt_lt, tnI hlen, a3]
      omega
    show (∃ r, f_X8_allSeen_b56 (fu + 1) x (nI j) Y = some r ∧ _) ∨ ∃ Y', _ ∧ f_X8_allSeen_b56 (fu + 1) x (nI j) Y = f_X8_allSeen_b56 fu x (nI (j + 1)) Y'
    by_cases c1 : x < Y 0 27
    · left
      obtain ⟨r, X', f1, f2, f3⟩ := fin Y j (by omega) hY (Or.inr (Or.inl (hcame.mp c1)))
      exact ⟨(r, X'), by rw [f_X8_allSeen_b56, if_neg c60, if_pos c1, f1], f2, f3⟩
    · by_cases c2 : Y 0 28 = 0
      · right
        obtain ⟨Y', y1, y2⟩ := mo_round hY (B1_n (by omega)) (B1_n (by omega)) (B1_n (by omega)) (wf_rounds wA j).1
        exact ⟨Y', y2, by rw [f_X8_allSeen_b56, if_neg c60, if_neg c1, if_pos c2, y1, some_bind, nI_1]⟩
      · left
        obtain ⟨r, X', f1, f2, f3⟩ := fin Y j (by omega) hY (Or.inr (Or.inr (giff.mp (g28.resolve_left c2))))
        exact ⟨(r, X'), by rw [f_X8_allSeen_b56, if_neg c60, if_neg c1, if_neg c2, f1], f2, f3⟩) 60 0 LF X1 (by omega) (by unfold LF; omega) gT
  obtain ⟨⟨r, X'⟩, f1, f2, f3⟩ := key
  exact ⟨r, X', f1, f2, f3⟩
theorem sc_seeds : SC_seeds INV := by
  intro Ic Jc Im Jm h _
  obtain ⟨s, si, h1, h2, h3, h4, h5, h6, h7⟩ := h
  obtain ⟨sa, ha⟩ := h5
  obtain ⟨J0, o1, o2, o3⟩ := mo_open (mo_29 (mo_b0 h3) 0) (B0_n (by omega))
  have key := loop2 (fun fu j (q : Int32 × IS) => f_X7_seeds_b4 fu q.1 (nI j) q.2) (fun fu j (q : Int32 × IS) => f_X8_seeds_b13 fu q.1 (nI j) q.2) 31 (fun _ q q' => q.1 = q'.1 ∧ (∃ s', RWo (zI 69 q.2) s') ∧ FR69 Ic q.2 ∧ RMo False (B1 J0) q'.2 s) (fun r q => r.1 = q.1 ∧ INV r.2 Jc q.2 Jm) ?_ ?_ 31 0 LF LF (0, Ic) (0, J0) (by omega) (by unfold LF; omega) (by unfold LF; omega) ⟨rfl, ⟨sa, ha⟩, fr69_r Ic, mo_b1 o2⟩
  · obtain ⟨r, r', k1, k2, k3, k4⟩ := key
    refine ⟨r, r', ?_, ?_, k3, k4⟩
    · rw [f_X7_seeds]
      exact k1
    · rw [f_X8_seeds, o1, some_bind]
      exact k2
  · rintro fu fv ⟨v, J⟩ ⟨v', X⟩ ⟨g1, ⟨s', g3⟩, g4, g5⟩
    have g1 : v = v' := g1
    subst g1
    refine ⟨(v, J), (v, X), ?_, ?_, rfl, inv_asked h1 h2 (mo_b10 o2 g5) h4 h6 h7 g4 g3⟩
    · show f_X7_seeds_b4 (fu + 1) v (nI 31) J = _
      rw [f_X7_seeds_b4, if_pos (by decide)]
    · show f_X8_seeds_b13 (fv + 1) v (nI 31) X = _
      rw [f_X8_seeds_b13, if_pos (by decide)]
  · rintro fu fv j ⟨v, J⟩ ⟨v', X⟩ hj ⟨g1, ⟨s', g3⟩, g4, g5⟩
    have g1 : v = v' := g1
    subst g1
    have g3 : RWo (zI 69 J) s' := g3
    have g4 : FR69 Ic J := g4
    have g5 : RMo False (B1 J0) X s := g5
    have c31 : ¬ (31 : Int32) ≤ nI j := nI_ge (b := 31) hj (by omega)
    have c30 : ¬ (30 : Int32) < nI j := fun q => by
      have := (nI_ltI (a := 30) (by omega) (by omega)).mp q
      omega
    obtain ⟨r, J', sb, a1, a2, a3, a4⟩ := c_seen (rwo_congr h1 (fun k hk => g4 _ (by omega))) h2 g3 (nI j)
    obtain ⟨r', X', b1, b2, b3⟩ := m_seen h2 o2 o3 g5 (nI j)
    have rr : r = r' := by
      rcases a2 with ⟨p1, p2⟩ | ⟨p1, p2⟩
      · rcases b2 with ⟨p3, p4⟩ | ⟨p3, p4⟩
        · rw [p1, p3]
        · exact absurd p2 p4
      · rcases b2 with ⟨p3, p4⟩ | ⟨p3, p4⟩
        · exact absurd p4 p2
        · rw [p1, p3]
    subst rr
    have hF : FR69 Ic J' := fun i hi => (a4 i hi).trans (g4 i hi)
    have hc : f_X7_seeds_b4 (fu + 1) v (nI j) J = (if r = 0 then f_X7_seeds_b4 fu v (nI (j + 1)) J' else f_X7_seeds_b4 fu (v ||| ((1 : Int32) <<< (nI j &&& 31))) (nI (j + 1)) J') := by
      rw [f_X7_seeds_b4, if_neg c31, a1, some_bind, f_X7_seeds_b24, f_X7_seeds_b24, nI_1]
    have hm : f_X8_seeds_b13 (fv + 1) v (nI j) X = (if r = 0 then f_X8_seeds_b13 fv v (nI (j + 1)) X' else f_X8_seeds_b13 fv (v ||| ((1 : Int32) <<< (nI j &&& 31))) (nI (j + 1)) X') := by
      rw [f_X8_seeds_b13, if_neg c30, b1, some_bind, f_X8_seeds_b35, f_X8_seeds_b35, nI_1, Int32.or_zero]
    show ∃ (q q' : Int32 × IS), _ ∧ f_X7_seeds_b4 (fu + 1) v (nI j) J = f_X7_seeds_b4 fu q.1 (nI (j + 1)) q.2 ∧ f_X8_seeds_b13 (fv + 1) v (nI j) X = f_X8_seeds_b13 fv q'.1 (nI (j + 1)) q'.2
    rw [hc, hm]
    by_cases o0 : r = 0
    · rw [if_pos o0, if_pos o0]
      exact ⟨(v, J'), (v, X'), ⟨rfl, ⟨sb, a3⟩, hF, b3⟩, rfl, rfl⟩
    · rw [if_neg o0, if_neg o0]
      exact ⟨(v ||| ((1 : Int32) <<< (nI j &&& 31)), J'), (v ||| ((1 : Int32) <<< (nI j &&& 31)), X'), ⟨rfl, ⟨sb, a3⟩, hF, b3⟩, rfl, rfl⟩
