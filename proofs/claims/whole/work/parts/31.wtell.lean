/-! ===== the World: what an end does upward ===== -/
def eFin (s : SP) (p : Nat) : SP := wTf s (u2 (u2 (tf s) 3 p 3) 2 p (smW (tf s) p (nT s)))
noncomputable def bel (s : SP) (p : Nat) : Nat → Bool := fun t => pB (∃ k, anc (tf s) (k + 1) t = some p)
noncomputable def belE (s : SP) (c : Nat) : Nat → Bool := fun t => pB (∃ k, anc (tf s) k t = some c)
noncomputable def eFail (s : SP) (t p : Nat) : SP := eEnt (eSet (eSet (eCl (bel s p) s (nT s)).2 3 p 4) 6 p (nI t)) (-5) 4 (nI p)
noncomputable def eUp : Nat → SP → Nat → SP
  | 0, s, _ => s
  | k + 1, s, t => match prn (tf s) t with
    | none => s
    | some p => if tf s 3 p = 2 then (if tf s 3 t = 4 ∧ tf s 5 p ≠ 2 then eUp k (eFail s t p) p else if pB (allE (nT s) (tf s) p) = true then eUp k (eEnt (eFin s p) (-5) 3 (nI p)) p else s) else s
theorem rwo_fin {I : IS} {s : SP} (h : RWo I s) (hw : WFp (nT s) (tf s)) {p : Nat} (hp : p < nT s) : ∃ q, f_X4_finish (nI p) (zI 10 I) = some q ∧ RWo (gI 10 9 q I) (eFin s p) ∧ q 4 p = 3 := by
  obtain ⟨q, h1, h2⟩ := tas_finish h.2.1 hw hp
  refine ⟨q, h1, rwo_gtas h h2, ?_⟩
  have := h2.2.2 3 (by omega) p hp
  rw [this, u2_ne _ _ (Or.inl (by omega)), u2_eq]
theorem eFail_k (s : SP) (t p : Nat) : nT (eFail s t p) = nT s ∧ na (eFail s t p) = na s ∧ tf (eFail s t p) 4 = tf s 4 := by
  obtain ⟨h1, h2, h3⟩ := eCl_k (bel s p) s (nT s)
  refine ⟨h1, h2, ?_⟩
  show u2 (u2 (tf (eCl (bel s p) s (nT s)).2) 3 p 4) 6 p (nI t) 4 = _
  rw [u2_oth _ _ _ (by omega), u2_oth _ _ _ (by omega)]
  exact h3
theorem eFin_k (s : SP) (p : Nat) : nT (eFin s p) = nT s ∧ na (eFin s p) = na s ∧ tf (eFin s p) 4 = tf s 4 := by
  refine ⟨rfl, rfl, ?_⟩
  show u2 (u2 (tf s) 3 p 3) 2 p (smW (tf s) p (nT s)) 4 = _
  rw [u2_oth _ _ _ (by omega), u2_oth _ _ _ (by omega)]
theorem eUp_k : ∀ (k : Nat) (s : SP) (t : Nat), nT (eUp k s t) = nT s ∧ na (eUp k s t) = na s ∧ tf (eUp k s t) 4 = tf s 4 := by
  intro k
  induction k with
  | zero => exact fun s t => ⟨rfl, rfl, rfl⟩
  | succ k ih =>
    intro s t
    unfold eUp
    cases prn (tf s) t with
    | none => exact ⟨rfl, rfl, rfl⟩
    | some p =>
      dsimp only
      by_cases h2 : tf s 3 p = 2
      · rw [if_pos h2]
        by_cases h4 : tf s 3 t = 4 ∧ tf s 5 p ≠ 2
        · rw [if_pos h4]
          obtain ⟨a1, a2, a3⟩ := ih (eFail s t p) p
          obtain ⟨b1, b2, b3⟩ := eFail_k s t p
          exact ⟨a1.trans b1, a2.trans b2, a3.trans b3⟩
        · rw [if_neg h4]
          by_cases ha : pB (allE (nT s) (tf s) p) = true
          · rw [if_pos ha]
            obtain ⟨a1, a2, a3⟩ := ih (eEnt (eFin s p) (-5) 3 (nI p)) p
            obtain ⟨b1, b2, b3⟩ := eFin_k s p
            exact ⟨a1.trans b1, a2.trans b2, a3.trans b3⟩
          · rw [if_neg ha]
            exact ⟨rfl, rfl, rfl⟩
      · rw [if_neg h2]
        exact ⟨rfl, rfl, rfl⟩
theorem bel_iff {s : SP} {p t : Nat} : bel s p t = true ↔ ∃ k, anc (tf s) (k + 1) t = some p := pB_iff
theorem belE_iff {s : SP} {p t : Nat} : belE s p t = true ↔ ∃ k, anc (tf s) k t = some p := pB_iff
theorem bel_gt {s : SP} (hw : WFp (nT s) (tf s)) (hT : nT s ≤ 32) {p t : Nat} (ht : t < nT s) (h : bel s p t = true) : p < t := by
  obtain ⟨k, hk⟩ := bel_iff.mp h
  have := anc_lt hw hT (k + 1) t p ht hk
  omega
theorem wor_failCl {I : IS} {s : SP} (h : RWo I s) (hn : na s ≤ 4) (hw : WFp (nT s) (tf s)) (hd : WFd (nT s) (tf s)) {p : Nat} (hp : p < nT s) : ∃ J, RWo J (eCl (bel s p) s (nT s)).2 ∧ f_X6_cancelFrom (nI (p + 1)) (nI p) I = some (nI (eCl (bel s p) s (nT s)).1, J) := by
  have hT := h.2.1.2.1
  refine wor_cancelFrom h hn hw hd (start := p + 1) (top := p) (by omega) hp (fun j hj => ?_) (fun j h1 h2 => ?_)
  · cases hb : bel s p j with
    | false => rfl
    | true => exact absurd (bel_gt hw hT (t := j) (by omega) hb) (by omega)
  · rw [bel_iff]
    refine ⟨Or.inr, fun q => q.elim (fun e => ?_) (fun e => e)⟩
    omega
theorem wor_tell {I : IS} {s : SP} (h : RWo I s) (hn : na s ≤ 4) (hw : WFp (nT s) (tf s)) (hd : WFd (nT s) (tf s)) {t : Nat} (ht : t < nT s) : ∃ J, f_X6_tellUpward (nI t) I = some J ∧ RWo J (eUp 4 s t) := by
  have key : ∀ (k j fu : Nat) (I : IS) (s : SP) (t : Nat), j + k = 4 → k < fu → RWo I s → na s ≤ 4 → WFp (nT s) (tf s) → WFd (nT s) (tf s) → t < nT s → ∃ J, f_X6_tellUpward_b15 fu (nI t) (encO (prn (tf s) t)) (nI j) I = some J ∧ RWo J (eUp k s t) := by
    intro k
    induction k with
    | zero =>
      intro j fu I s t hj hf h hn hw hd ht
      obtain ⟨f, rfl⟩ : ∃ f, fu = f + 1 := ⟨fu - 1, by omega⟩
      have : j = 4 := by omega
      subst this
      have c4 : (4 : Int32) ≤ nI 4 := by decide
      exact ⟨I, by rw [f_X6_tellUpward_b15, if_pos c4], h⟩
    | succ k ih =>
      intro j fu I s t hj hf h hn hw hd ht
      obtain ⟨f, rfl⟩ : ∃ f, fu = f + 1 := ⟨fu - 1, by omega⟩
      have hT := h.2.1.2.1
      have c4 : ¬ (4 : Int32) ≤ nI j := nI_ge (b := 4) (by omega) (by omega)
      unfold eUp
      cases hpr : prn (tf s) t with
      | none =>
        refine ⟨I, ?_, h⟩
        rw [f_X6_tellUpward_b15, if_neg c4, show encO none = -5 from rfl, tas_isJoining_neg (by decide), some_bind, if_pos rfl]
      | some p =>
        dsimp only
        have hpt : p < t := (prn_enc hw hT ht).2 p hpr
        have hp : p < nT s := by omega
        have cp := okI_nI (j := p) (n := 32) (by omega) (by omega)
        have ct := okI_nI (j := t) (n := 32) (by omega) (by omega)
        have e14 : ∀ x, x < nT s → I 14 x = tf s 3 x := fun x hx => rta_get h.2.1 hx 3 (by omega)
        have e16 : I 16 p = tf s 5 p := rta_get h.2.1 hp 5 (by omega)
        have n0 : ¬ (1 : Int32) = 0 := by decide
        -- behind the one above: the entry, and on
        have nxt : ∀ (J : IS) (s' : SP) (v : Int32), RWo J s' → J 14 p = v → nT s' = nT s → na s' = na s → tf s' 4 = tf s 4 → ∃ J', f_X6_tellUpward_b113 (f_X6_tellUpward_b15 f) (nI p) (nI j) J = some J' ∧ RWo J' (eUp k (eEnt s' (-5) v (nI p)) p) := by
          intro J s' v hJ hv k1 k2 k3
          obtain ⟨q, q1, q2⟩ := rwo_eEnt hJ (-5) v (nI p)
          have e4 : tf (eEnt s' (-5) v (nI p)) 4 = tf s 4 := k3
          obtain ⟨J', g1, g2⟩ := ih (j + 1) f _ (eEnt s' (-5) v (nI p)) p (by omega) (by omega) q2 (by show na s' ≤ 4; omega) (by show WFp (nT s') _; rw [k1]; exact wfp_congr e4.symm hw) (by show WFd (nT s') _; rw [k1]; exact wfd_congr e4.symm hd) (by show p < nT s'; omega)
          refine ⟨J', ?_, g2⟩
          have e15 : (gI 19 6 q J) 15 p = encO (prn (tf (eEnt s' (-5) v (nI p))) p) := by
            have hr := rta_get q2.2.1 (t := p) (by show p < nT s'; omega) 4 (by omega)
            have h15 : (gI 19 6 q J) 15 p = tf (eEnt s' (-5) v (nI p)) 4 p := hr
            rw [h15, e4, (prn_enc hw hT hp).1, prn_congr e4]
          rw [f_X6_tellUpward_b113, if_pos cp, nI_clamp (by omega), hv, q1, some_bind, if_pos cp, e15, nI_1]
          exact g1
        have fin : ∀ _ : ¬ (tf s 3 t = 4 ∧ tf s 5 p ≠ 2), ∃ J, f_X6_tellUpward_b90 (f_X6_tellUpward_b15 f) (nI p) (nI j) I = some J ∧ RWo J (if pB (allE (nT s) (tf s) p) = true then eUp k (eEnt (eFin s p) (-5) 3 (nI p)) p else s) := by
          intro _
          obtain ⟨r, r1, r2⟩ := tas_allIn h.2.1 hw hp
          rcases r2 with ⟨rfl, r3⟩ | ⟨rfl, r3⟩
          · rw [if_pos (pB_iff.mpr r3), f_X6_tellUpward_b90, r1, some_bind, if_neg n0]
            obtain ⟨q, q1, q2, q3⟩ := rwo_fin h hw hp
            rw [q1, some_bind]
            obtain ⟨b1, b2, b3⟩ := eFin_k s p
            exact nxt _ _ 3 q2 (by rw [gI_ap, if_pos ⟨by omega, by omega⟩]; exact q3) b1 b2 b3
          · rw [if_neg (by rw [pB_iff]; exact r3), f_X6_tellUpward_b90, r1, some_bind, if_pos rfl]
            exact ⟨I, rfl, h⟩
        rw [f_X6_tellUpward_b15, if_neg c4, show encO (some p) = nI p from rfl, tas_isJoining h.2.1 hp, some_bind]
        by_cases h2 : tf s 3 p = 2
        · rw [if_pos h2, if_pos h2, if_neg n0, if_pos ct, nI_clamp (by omega), e14 t ht]
          by_cases ht4 : tf s 3 t = 4
          · rw [if_pos ht4, if_pos cp, nI_clamp (by omega), e16]
            by_cases hp2 : tf s 5 p = 2
            · rw [if_pos hp2, if_neg (fun q => q.2 hp2)]
              exact fin (fun q => q.2 hp2)
            · rw [if_neg hp2, if_pos ⟨ht4, hp2⟩]
              obtain ⟨J, j1, j2⟩ := wor_failCl h hn hw hd hp
              rw [nI_1, j2, some_bind, if_pos cp, if_pos cp]
              obtain ⟨b1, b2, b3⟩ := eCl_k (bel s p) s (nT s)
              have s1 := rwo_eSet j1 (f := 3) (by omega) p 4
              have s2 := rwo_eSet s1 (f := 6) (by omega) p (nI t)
              refine nxt _ _ 4 s2 ?_ b1 b2 ?_
              · show u2 (u2 J 14 p 4) 17 p (nI t) 14 p = 4
                rw [u2_ne _ _ (Or.inl (by omega)), u2_eq]
              · show u2 (u2 (tf (eCl (bel s p) s (nT s)).2) 3 p 4) 6 p (nI t) 4 = _
                rw [u2_oth _ _ _ (by omega), u2_oth _ _ _ (by omega)]
                exact b3
          · rw [if_neg ht4, if_neg (fun q => ht4 q.1)]
            exact fin (fun q => ht4 q.1)
        · rw [if_neg h2, if_neg h2, if_pos rfl]
          exact ⟨I, rfl, h⟩
  have hT := h.2.1.2.1
  obtain ⟨J, h1, h2⟩ := key 4 0 LF I s t (by omega) (by unfold LF; omega) h hn hw hd ht
  refine ⟨J, ?_, h2⟩
  have e15 : I 15 t = encO (prn (tf s) t) := by
    have h15 : I 15 t = tf s 4 t := rta_get h.2.1 ht 4 (by omega)
    rw [h15, (prn_enc hw hT ht).1]
  rw [f_X6_tellUpward, if_pos (okI_nI (by omega) (by omega)), nI_clamp (by omega), e15]
  exact h1
theorem wor_cancelByHand {I : IS} {s : SP} (h : RWo I s) (hn : na s ≤ 4) (hw : WFp (nT s) (tf s)) (hd : WFd (nT s) (tf s)) {t : Nat} (ht : t < nT s) : ∃ J, f_X6_cancelByHand (nI t) I = some (nI (eCl (belE s t) s (nT s)).1, J) ∧ RWo J (eUp 4 (eCl (belE s t) s (nT s)).2 t) := by
  have hT := h.2.1.2.1
  obtain ⟨J, j1, j2⟩ := wor_cancelFrom h hn hw hd (start := t) (top := t) (P := belE s t) (by omega) ht (fun j hj => by
    cases hb : belE s t j with
    | false => rfl
    | true =>
      obtain ⟨k, hk⟩ := belE_iff.mp hb
      have := anc_lt hw hT k j t (by omega) hk
      omega) (fun j h1 h2 => by
    rw [belE_iff]
    constructor
    · rintro ⟨k, hk⟩
      cases k with
      | zero => cases hk; exact Or.inl rfl
      | succ k => exact Or.inr ⟨k, hk⟩
    · rintro (rfl | ⟨k, hk⟩)
      · exact ⟨0, rfl⟩
      · exact ⟨k + 1, hk⟩)
  obtain ⟨b1, b2, b3⟩ := eCl_k (belE s t) s (nT s)
  obtain ⟨J', g1, g2⟩ := wor_tell j1 (by rw [b2]; exact hn) (by rw [b1]; exact wfp_congr b3.symm hw) (by rw [b1]; exact wfd_congr b3.symm hd) (t := t) (by rw [b1]; exact ht)
  refine ⟨J', ?_, g2⟩
  rw [f_X6_cancelByHand, j2, some_bind, g1, some_bind]
