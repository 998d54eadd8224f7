/-! ===== what holds of the state is kept: ends ===== -/
theorem eSet_fs (s : SP) (t : Nat) (v : Int32) (x : Nat) : tf (eSet s 3 t v) 3 x = if x = t then v else tf s 3 x := by
  show u2 (tf s) 3 t v 3 x = _
  rw [u2_ap]
  by_cases h : x = t
  · rw [if_pos ⟨rfl, h⟩, if_pos h]
  · rw [if_neg (fun q => h q.2), if_neg h]
theorem eSet_fo (s : SP) {g : Nat} (t : Nat) (v : Int32) {f : Nat} (h : f ≠ g) : tf (eSet s g t v) f = tf s f := u2_oth _ _ _ h
/-- what is in one neither waits in a row nor is at work nor joins -/
def noK (s : SP) (t : Nat) : Prop := ∀ x, x < nT s → prn (tf s) x = some t → tf s 3 x ≠ 1 ∧ tf s 3 x ≠ 2 ∧ ∀ a, nI x ∉ rw_ s a
theorem wf_set3 {s : SP} (h : WF s) {t : Nat} (ht : t < nT s) (h2 : tf s 3 t = 2) (hk : noK s t) {v : Int32} (hv : v = 3 ∨ v = 4) : WF (eSet s 3 t v) := by
  obtain ⟨h1, ⟨r1, r2, r3⟩, hA, ⟨k1, k2, k3, k4⟩, h5, h6, h7⟩ := h
  have hT : nT s ≤ 32 := h1.2.2
  have e4 : tf (eSet s 3 t v) 4 = tf s 4 := eSet_fo s t v (by omega)
  have eP : prn (tf (eSet s 3 t v)) = prn (tf s) := prn_congr e4
  have up' : ∀ x, prn (tf s) x ≠ some t → upE (fun _ => False) s x → upE (fun _ => False) (eSet s 3 t v) x := by
    intro x hx hu
    refine Or.inr (fun p hp => ?_)
    rw [eP] at hp
    rw [eSet_fs, if_neg (fun q => hx (by rw [← q]; exact hp))]
    exact (hu.resolve_left (fun q => q)) p hp
  refine ⟨h1, ⟨r1, r2, fun a x hx => ?_⟩, ⟨fun a => ?_, hA.2.1, fun x hx hs => ?_, hA.2.2.2⟩, ⟨wfp_congr e4.symm k1, wfd_congr e4.symm k2, fun x hx => ?_, fun x hx hs => ?_⟩, fun x hx => ?_, ?_, h7⟩
  · obtain ⟨u, hu, e, h0, hup⟩ := r3 a x hx
    have hut : u ≠ t := fun q => by
      rw [q, h2] at h0
      exact absurd h0 (by decide)
    refine ⟨u, hu, e, by rw [eSet_fs, if_neg hut]; exact h0, up' u (fun q => (hk u hu q).2.2 a (by rw [← e]; exact hx)) hup⟩
  · rcases hA.1 a with h4 | ⟨u, hu, e, hs⟩
    · exact Or.inl h4
    · have hut : u ≠ t := fun q => by
        rw [q, h2] at hs
        exact absurd hs (by decide)
      exact Or.inr ⟨u, hu, e, by rw [eSet_fs, if_neg hut]; exact hs⟩
  · rw [eSet_fs] at hs
    by_cases hxt : x = t
    · rw [if_pos hxt] at hs
      rcases hv with hv | hv <;> rw [hv] at hs <;> exact absurd hs (by decide)
    · rw [if_neg hxt] at hs
      exact hA.2.2.1 x hx hs
  · rw [eSet_fs]
    by_cases hxt : x = t
    · rw [if_pos hxt]
      rcases hv with hv | hv <;> rw [hv] <;> decide
    · rw [if_neg hxt]
      exact k3 x hx
  · rw [eSet_fs] at hs
    by_cases hxt : x = t
    · rw [if_pos hxt] at hs
      rcases hv with hv | hv <;> rw [hv] at hs <;> exact absurd hs (by decide)
    · rw [if_neg hxt] at hs
      refine up' x (fun q => ?_) (k4 x hx hs)
      rcases hs with hs | hs
      · exact (hk x hx q).1 hs
      · exact (hk x hx q).2.1 hs
  · rw [eSet_fo s t v (by omega), eSet_fs]
    rcases h5 x hx with h0 | ⟨h4, h0⟩
    · exact Or.inl h0
    · by_cases hxt : x = t
      · rw [hxt, h2] at h4
        exact absurd h4 (by decide)
      · rw [if_neg hxt]
        exact Or.inr ⟨h4, h0⟩
  · intro x hx
    rw [eSet_fo s t v (by omega), eSet_fo s t v (by omega), anc_congr_all e4]
    exact h6 x hx
theorem wf_set6 {s : SP} (h : WF s) {t c : Nat} (h4 : tf s 3 t = 4) (hc : c < nT s) (htc : t < c) : WF (eSet s 6 t (nI c)) := by
  obtain ⟨h1, hR, hA, hK, h5, h6, h7⟩ := h
  have e4 : tf (eSet s 6 t (nI c)) 4 = tf s 4 := eSet_fo s t _ (by omega)
  refine ⟨h1, hR, hA, hK, fun x hx => ?_, fun x hx => by rw [anc_congr_all e4]; exact h6 x hx, h7⟩
  show u2 (tf s) 6 t (nI c) 6 x = -5 ∨ (tf s 3 x = 4 ∧ ∃ c', c' < nT s ∧ x < c' ∧ u2 (tf s) 6 t (nI c) 6 x = nI c')
  rw [u2_ap]
  by_cases hxt : x = t
  · rw [if_pos ⟨rfl, hxt⟩, hxt]
    exact Or.inr ⟨h4, c, hc, htc, rfl⟩
  · rw [if_neg (fun q => hxt q.2)]
    exact h5 x hx
theorem wf_set2 {s : SP} (h : WF s) {t : Nat} {v : Int32} (hv : ∃ w, v = nI w ∧ ∀ k q, anc (tf s) k t = some q → w ≤ 9 * pow33 (4 - k)) : WF (eSet s 2 t v) := by
  obtain ⟨h1, hR, hA, hK, h5, h6, h7⟩ := h
  have e4 : tf (eSet s 2 t v) 4 = tf s 4 := eSet_fo s t v (by omega)
  refine ⟨h1, hR, hA, hK, h5, fun x hx => ?_, h7⟩
  rw [anc_congr_all e4]
  refine ⟨(h6 x hx).1, ?_⟩
  show ∃ w, u2 (tf s) 2 t v 2 x = nI w ∧ _
  rw [u2_ap]
  by_cases hxt : x = t
  · rw [if_pos ⟨rfl, hxt⟩, hxt]
    exact hv
  · rw [if_neg (fun q => hxt q.2)]
    exact (h6 x hx).2
theorem wf_set1 {s : SP} (h : WF s) (t : Nat) (v : Int32) : WF (eSet s 1 t v) := by
  obtain ⟨h1, hR, hA, hK, h5, h6, h7⟩ := h
  have e4 : tf (eSet s 1 t v) 4 = tf s 4 := eSet_fo s t _ (by omega)
  exact ⟨h1, hR, hA, hK, h5, fun x hx => by rw [anc_congr_all e4]; exact h6 x hx, h7⟩
theorem wf_ent {s : SP} (h : WF s) (a k t : Int32) : WF (eEnt s a k t) := h
theorem pow33_pos : ∀ k, 1 ≤ pow33 k := by
  intro k
  induction k with
  | zero => exact Nat.le_refl _
  | succ k ih =>
    show 1 ≤ 33 * pow33 k
    omega
theorem smW_ok {s : SP} (h : WF s) {p : Nat} (hp : p < nT s) : ∀ n, n ≤ nT s → ∃ w, smW (tf s) p n = nI w ∧ ∀ k q, anc (tf s) k p = some q → (k ≤ 3 → w ≤ 9 + n * (9 * pow33 (3 - k))) ∧ (4 ≤ k → w ≤ 9) := by
  have hT : nT s ≤ 32 := h.1.2.2
  obtain ⟨-, -, -, ⟨k1, k2, -, -⟩, -, h6, -⟩ := h
  intro n
  induction n with
  | zero =>
    intro _
    obtain ⟨w, w1, w2, w3⟩ := (h6 p hp).1
    exact ⟨w, w3, fun k q _ => ⟨fun _ => by omega, fun _ => w2⟩⟩
  | succ n ih =>
    intro hn
    obtain ⟨w, w1, w2⟩ := ih (by omega)
    by_cases c : tf s 4 n = nI p ∧ tf s 3 n = 3
    · obtain ⟨v, v1, v2⟩ := (h6 n (by omega)).2
      have hpn : prn (tf s) n = some p := prn_of (by omega) c.1
      refine ⟨w + v, by rw [smW, if_pos c, w1, v1, nI_add], fun k q hq => ?_⟩
      have ha : anc (tf s) (k + 1) n = some q := by
        show (prn (tf s) n).bind (anc (tf s) k) = _
        rw [hpn]
        exact hq
      have hv := v2 (k + 1) q ha
      refine ⟨fun hk => ?_, fun hk => ?_⟩
      · have hw := (w2 k q hq).1 hk
        rw [show 4 - (k + 1) = 3 - k by omega] at hv
        rw [Nat.add_mul]
        omega
      · exfalso
        have := anc_none (tf s) (k2 n (by omega)) (k + 1 - 5)
        rw [show 5 + (k + 1 - 5) = k + 1 by omega, ha] at this
        cases this
    · refine ⟨w, by rw [smW, if_neg c, w1], fun k q hq => ⟨fun hk => ?_, (w2 k q hq).2⟩⟩
      have := (w2 k q hq).1 hk
      rw [Nat.add_mul]
      omega
theorem noK_all {s : SP} (h : WF s) {p : Nat} (ha : allE (nT s) (tf s) p) : noK s p := by
  have hT : nT s ≤ 32 := h.1.2.2
  intro x hx hp
  have e : tf s 4 x = nI p := by
    have := (prn_enc (wf_p h) hT hx).1
    rw [hp] at this
    exact this
  have h3 := ha x hx e
  refine ⟨fun q => h3 (st1_lt q), fun q => h3 (st2_lt q), fun a hm => ?_⟩
  obtain ⟨u, hu, e', h0, -⟩ := h.2.1.2.2 a _ hm
  have := nIne (by omega) (by omega) e'
  rw [← this] at h0
  exact h3 (st0_lt h0)
theorem wf_fin {s : SP} (h : WF s) {p : Nat} (hp : p < nT s) (h2 : tf s 3 p = 2) (ha : allE (nT s) (tf s) p) : WF (eFin s p) := by
  have e : eFin s p = eSet (eSet s 3 p 3) 2 p (smW (tf s) p (nT s)) := rfl
  rw [e]
  refine wf_set2 (wf_set3 h hp h2 (noK_all h ha) (Or.inl rfl)) ?_
  rw [anc_congr_all (eSet_fo s p 3 (show 4 ≠ 3 by omega))]
  obtain ⟨w, w1, w2⟩ := smW_ok h hp (nT s) (Nat.le_refl _)
  refine ⟨w, w1, fun k q hq => ?_⟩
  have hT : nT s ≤ 32 := h.1.2.2
  by_cases hk : k ≤ 3
  · have hw := (w2 k q hq).1 hk
    have hp := pow33_pos (3 - k)
    have e3 : pow33 (4 - k) = 33 * pow33 (3 - k) := by
      rw [show 4 - k = (3 - k) + 1 by omega]
      rfl
    rw [e3]
    have : nT s * (9 * pow33 (3 - k)) ≤ 32 * (9 * pow33 (3 - k)) := Nat.mul_le_mul_right _ hT
    omega
  · have hw := (w2 k q hq).2 (by omega)
    have hp := pow33_pos (4 - k)
    omega
theorem wf_fail {s : SP} (h : WF s) {p t : Nat} (ht : t < nT s) (hpt : p < t) (h2 : tf s 3 p = 2) : WF (eFail s t p) := by
  have hT : nT s ≤ 32 := h.1.2.2
  have hc := wf_clT h (bel_cl s p)
  obtain ⟨e1, e2, e3⟩ := eCl_k (bel s p) s (nT s)
  have hst := eCl_st (bel s p) s (nT s)
  have hb : ¬ (p < nT s ∧ bel s p p = true) := fun q => absurd (bel_gt (wf_p h) hT (t := p) (by omega) q.2) (Nat.lt_irrefl p)
  have s2 : tf (eCl (bel s p) s (nT s)).2 3 p = 2 := ((hst p).2 hb).trans h2
  have hk : noK (eCl (bel s p) s (nT s)).2 p := by
    intro x hx hp
    rw [e1] at hx
    rw [prn_congr e3] at hp
    have hx3 := (hst x).1 ⟨hx, bel_iff.mpr ⟨0, by
      show (prn (tf s) x).bind (anc (tf s) 0) = _
      rw [hp]
      rfl⟩⟩
    refine ⟨fun q => hx3 (st1_lt q), fun q => hx3 (st2_lt q), fun a hm => ?_⟩
    obtain ⟨u, hu, e', h0, -⟩ := hc.2.1.2.2 a _ hm
    rw [e1] at hu
    have := nIne (by omega) (by omega) e'
    rw [← this] at h0
    exact hx3 (st0_lt h0)
  unfold eFail
  generalize (eCl (bel s p) s (nT s)).2 = s1 at hc e1 s2 hk ⊢
  have g1 := wf_set3 hc (t := p) (by omega) s2 hk (v := 4) (Or.inr rfl)
  have g2 := wf_set6 g1 (t := p) (c := t) (by rw [eSet_fs, if_pos rfl]) (by show t < nT s1; omega) hpt
  exact wf_ent g2 (-5) 4 (nI p)
theorem wf_up : ∀ (k : Nat) (s : SP) (t : Nat), WF s → t < nT s → WF (eUp k s t) := by
  intro k
  induction k with
  | zero => exact fun s t h _ => h
  | succ k ih =>
    intro s t h ht
    have hT : nT s ≤ 32 := h.1.2.2
    unfold eUp
    cases hp : prn (tf s) t with
    | none => exact h
    | some p =>
      have hpt : p < t := (prn_enc (wf_p h) hT ht).2 p hp
      dsimp only
      by_cases h2 : tf s 3 p = 2
      · rw [if_pos h2]
        by_cases h4 : tf s 3 t = 4 ∧ tf s 5 p ≠ 2
        · rw [if_pos h4]
          refine ih _ _ (wf_fail h ht hpt h2) ?_
          rw [(eFail_k s t p).1]
          omega
        · rw [if_neg h4]
          by_cases ha : pB (allE (nT s) (tf s) p) = true
          · rw [if_pos ha]
            refine ih _ _ (wf_ent (wf_fin h (by omega) h2 (pB_iff.mp ha)) _ _ _) ?_
            show p < nT (eFin s p)
            rw [(eFin_k s p).1]
            omega
          · rw [if_neg ha]
            exact h
      · rw [if_neg h2]
        exact h
theorem wf_hand {s : SP} (h : WF s) {t : Nat} (ht : t < nT s) : WF (eUp 4 (eCl (belE s t) s (nT s)).2 t) :=
  wf_up 4 _ t (wf_clT h (belE_cl s t)) (by rw [(eCl_k (belE s t) s (nT s)).1]; exact ht)
