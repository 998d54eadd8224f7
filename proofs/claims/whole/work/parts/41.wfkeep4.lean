/-! ===== what holds of the state is kept: an arm's step, a round ===== -/
def eAir (s : SP) (a t : Nat) : SP := eSet (uA s a (rw_ s a) (-5) (af s 1 a) (af s 2 a)) 3 t 2
theorem eAir_k (s : SP) (a t : Nat) : na (eAir s a t) = na s ∧ nT (eAir s a t) = nT s ∧ tol (eAir s a t) = tol s ∧ (∀ b, rw_ (eAir s a t) b = rw_ s b) ∧ (∀ b, af (eAir s a t) 0 b = if b = a then -5 else af s 0 b) ∧ (∀ f b, b ≠ a → af (eAir s a t) f b = af s f b) ∧ (∀ x, tf (eAir s a t) 3 x = if x = t then 2 else tf s 3 x) ∧ (∀ f, f ≠ 3 → tf (eAir s a t) f = tf s f) := ⟨rfl, rfl, rfl, fun b => uA_r s a _ _ _ b, fun b => uA_f0 s a _ _ _ _ b, fun f b hb => uA_ao s _ _ _ _ f hb, fun x => eSet_fs _ t 2 x, fun f hf => eSet_fo _ t 2 hf⟩
theorem wf_air {s : SP} (h : WF s) {a t : Nat} (ha : a < na s) (ht : t < nT s) (e0 : af s 0 a = nI t) : WF (eAir s a t) ∧ noK (eAir s a t) t ∧ tf s 3 t = 1 := by
  have hT : nT s ≤ 32 := h.1.2.2
  obtain ⟨h1, ⟨r1, r2, r3⟩, hA, ⟨g1, g2, g3, g4⟩, hC, hW, hO⟩ := h
  have s1 : tf s 3 t = 1 := by
    rcases hA.1 a with h4 | ⟨u, hu, e, hs⟩
    · exact absurd (e0.symm.trans h4) (m5_ne (by omega))
    · have := nIne (by omega) (by omega) (e.symm.trans e0)
      rw [← this]
      exact hs
  obtain ⟨eN, eT, eO, eR, eA, eC, eS, eF⟩ := eAir_k s a t
  generalize eAir s a t = s2 at eN eT eO eR eA eC eS eF ⊢
  have e4 := eF 4 (by omega)
  have up' : ∀ x, upE (fun _ => False) s x → upE (fun _ => False) s2 x := fun x hu => by
    refine Or.inr (fun p hp => ?_)
    rw [prn_congr e4] at hp
    have h2 := (hu.resolve_left (fun q => q)) p hp
    rw [eS]
    by_cases hpt : p = t
    · rw [if_pos hpt]
    · rw [if_neg hpt]
      exact h2
  have noP : ∀ x, upE (fun _ => False) s x → prn (tf s) x ≠ some t := fun x hu q => by
    have h2 := (hu.resolve_left (fun q => q)) t q
    rw [s1] at h2
    exact absurd h2 (by decide)
  refine ⟨⟨by unfold WNum; rw [eT, eN]; exact h1, ⟨fun b => by rw [eR]; exact r1 b, fun b c x hb hc => r2 b c x (by rw [← eR]; exact hb) (by rw [← eR]; exact hc), fun b x hx => ?_⟩, ⟨fun b => ?_, fun b c => ?_, fun x hx hs => ?_, fun b hb => ?_⟩, ⟨by rw [eT]; exact wfp_congr e4.symm g1, by rw [eT]; exact wfd_congr e4.symm g2, fun x hx => ?_, fun x hx hs => ?_⟩, fun x hx => ?_, fun x hx => ?_, ?_⟩, fun x hx hp => ⟨fun q => ?_, fun q => ?_, fun b hm => ?_⟩, s1⟩
  · rw [eR] at hx
    obtain ⟨u, hu, e, hs, hup⟩ := r3 b x hx
    have hut : u ≠ t := fun q => by
      rw [q, s1] at hs
      exact absurd hs (by decide)
    exact ⟨u, by rw [eT]; exact hu, e, by rw [eS, if_neg hut]; exact hs, up' u hup⟩
  · rw [eA]
    by_cases hb : b = a
    · exact Or.inl (if_pos hb)
    · rw [if_neg hb]
      rcases hA.1 b with h4 | ⟨u, hu, e, hs⟩
      · exact Or.inl h4
      · have hut : u ≠ t := fun q => by
          rw [q] at e
          exact hb (hA.2.1 b a (e.trans e0.symm) (by rw [e]; exact m5_ne (by omega)))
        exact Or.inr ⟨u, by rw [eT]; exact hu, e, by rw [eS, if_neg hut]; exact hs⟩
  · rw [eA, eA]
    by_cases hb : b = a
    · rw [if_pos hb]
      exact fun _ q => absurd rfl q
    · rw [if_neg hb]
      by_cases hc : c = a
      · rw [if_pos hc]
        exact fun q1 q2 => absurd q1 q2
      · rw [if_neg hc]
        exact hA.2.1 b c
  · rw [eT] at hx
    rw [eS] at hs
    rw [eN]
    by_cases hxt : x = t
    · rw [if_pos hxt] at hs
      exact absurd hs (by decide)
    · rw [if_neg hxt] at hs
      obtain ⟨b, hb, e⟩ := hA.2.2.1 x hx hs
      have hba : b ≠ a := fun q => by
        rw [q, e0] at e
        exact hxt (nIne (by omega) (by omega) e.symm)
      exact ⟨b, hb, by rw [eA, if_neg hba]; exact e⟩
  · rw [eN] at hb
    have hba : b ≠ a := by omega
    rw [eR, eC 0 b hba, eC 1 b hba, eC 2 b hba]
    exact hA.2.2.2 b hb
  · rw [eT] at hx
    rw [eS]
    by_cases hxt : x = t
    · rw [if_pos hxt]
      decide
    · rw [if_neg hxt]
      exact g3 x hx
  · rw [eT] at hx
    rw [eS] at hs
    by_cases hxt : x = t
    · rw [hxt]
      exact up' t (g4 t ht (Or.inl s1))
    · rw [if_neg hxt] at hs
      exact up' x (g4 x hx hs)
  · rw [eT] at hx
    rw [eF 6 (by omega), eS, eT]
    rcases hC x hx with q | ⟨q4, q⟩
    · exact Or.inl q
    · by_cases hxt : x = t
      · rw [hxt, s1] at q4
        exact absurd q4 (by decide)
      · rw [if_neg hxt]
        exact Or.inr ⟨q4, q⟩
  · rw [eT] at hx
    rw [eF 0 (by omega), eF 2 (by omega), anc_congr_all e4]
    exact hW x hx
  · unfold WTol
    rw [eO, eT]
    exact hO
  · rw [eT] at hx
    rw [prn_congr e4] at hp
    rw [eS] at q
    by_cases hxt : x = t
    · rw [if_pos hxt] at q
      exact absurd q (by decide)
    · rw [if_neg hxt] at q
      exact noP x (g4 x hx (Or.inl q)) hp
  · rw [eT] at hx
    rw [prn_congr e4] at hp
    rw [eS] at q
    by_cases hxt : x = t
    · have := (prn_enc g1 hT hx).2 t hp
      omega
    · rw [if_neg hxt] at q
      exact noP x (g4 x hx (Or.inr q)) hp
  · rw [eT] at hx
    rw [prn_congr e4] at hp
    rw [eR] at hm
    obtain ⟨u, hu, e, hs, hup⟩ := r3 b _ hm
    have := nIne (by omega) (by omega) e
    rw [← this] at hup
    exact noP x hup hp
theorem eFk_k (s : SP) (t a n : Nat) : na (eFk s t a n) = na s ∧ nT (eFk s t a n) = nT s ∧ tol (eFk s t a n) = tol s ∧ (∀ b, rw_ (eFk s t a n) b = if b = a then rw_ s a ++ kids s t n else rw_ s b) ∧ (∀ b, af (eFk s t a n) 0 b = af s 0 b) ∧ (∀ f b, b ≠ a → af (eFk s t a n) f b = af s f b) ∧ tf (eFk s t a n) = tf s := by
  refine ⟨rfl, rfl, rfl, fun b => ?_, fun b => ?_, fun f b hb => uA_ao s _ _ _ _ f hb, rfl⟩
  · unfold eFk
    by_cases h : b = a
    · rw [if_pos h, h, uA_rs]
    · rw [if_neg h, uA_ro _ _ _ _ _ h]
  · unfold eFk
    rw [uA_f0]
    by_cases h : b = a
    · rw [if_pos h, h]
    · rw [if_neg h]
theorem wf_fork {s : SP} (h : WF s) {t a : Nat} (ht : t < nT s) (ha : a < na s) (h2 : tf s 3 t = 2) (hk : noK s t) : WF (eFk s t a (nT s)) := by
  have hT : nT s ≤ 32 := h.1.2.2
  obtain ⟨h1, ⟨r1, r2, r3⟩, hA, hK, hC, hW, hO⟩ := h
  have g1 := hK.1
  have g3 := hK.2.2.1
  have km : ∀ x, x ∈ kids s t (nT s) → ∃ k, k < nT s ∧ x = nI k ∧ tf s 3 k = 0 ∧ prn (tf s) k = some t ∧ ∀ b, x ∉ rw_ s b := fun x hx => by
    obtain ⟨k, k1, k2, k3, k4⟩ := kids_mem s t (nT s) x hx
    have hp : prn (tf s) k = some t := prn_of (by omega) k3
    obtain ⟨n1, n2, n3⟩ := hk k k1 hp
    refine ⟨k, k1, k2, ?_, hp, fun b => by rw [k2]; exact n3 b⟩
    rcases g3 k k1 with q | q | q | q | q | q
    · exact q
    · exact absurd q n1
    · exact absurd q n2
    · rw [q] at k4; exact absurd k4 (by decide)
    · rw [q] at k4; exact absurd k4 (by decide)
    · rw [q] at k4; exact absurd k4 (by decide)
  obtain ⟨eN, eT, eO, eR, eA, eC, eF⟩ := eFk_k s t a (nT s)
  have kn := kids_nodup s t (nT s) hT
  generalize kids s t (nT s) = l at km kn eR
  generalize eFk s t a (nT s) = s2 at eN eT eO eR eA eC eF ⊢
  have mem : ∀ b x, x ∈ rw_ s2 b → x ∈ rw_ s b ∨ (b = a ∧ x ∈ l) := fun b x hx => by
    rw [eR] at hx
    by_cases hb : b = a
    · rw [if_pos hb] at hx
      rcases List.mem_append.mp hx with q | q
      · exact Or.inl (by rw [hb]; exact q)
      · exact Or.inr ⟨hb, q⟩
    · rw [if_neg hb] at hx
      exact Or.inl hx
  refine ⟨by unfold WNum; rw [eT, eN]; exact h1, ⟨fun b => ?_, fun b c x hb hc => ?_, fun b x hx => ?_⟩, ⟨fun b => by rw [eA, eT, eF]; exact hA.1 b, fun b c => by rw [eA, eA]; exact hA.2.1 b c, fun x hx hs => ?_, fun b hb => ?_⟩, by unfold WTsk upE; rw [eT, eF]; exact hK, by unfold WCau; rw [eT, eF]; exact hC, by unfold WWor; rw [eT, eF]; exact hW, by unfold WTol; rw [eO, eT]; exact hO⟩
  · rw [eR]
    by_cases hb : b = a
    · rw [if_pos hb]
      refine List.nodup_append.mpr ⟨r1 a, kn, fun x hx y hy hxy => ?_⟩
      obtain ⟨k, -, -, -, -, k5⟩ := km y hy
      exact k5 a (by rw [← hxy]; exact hx)
    · rw [if_neg hb]
      exact r1 b
  · rcases mem b x hb with q | ⟨q1, q2⟩
    · rcases mem c x hc with p | ⟨p1, p2⟩
      · exact r2 b c x q p
      · obtain ⟨k, -, -, -, -, k5⟩ := km x p2
        exact absurd q (k5 b)
    · rcases mem c x hc with p | ⟨p1, p2⟩
      · obtain ⟨k, -, -, -, -, k5⟩ := km x q2
        exact absurd p (k5 c)
      · exact q1.trans p1.symm
  · unfold upE
    rw [eT, eF]
    rcases mem b x hx with q | ⟨q1, q2⟩
    · exact r3 b x q
    · obtain ⟨k, k1, k2, k3, k4, k5⟩ := km x q2
      refine ⟨k, k1, k2, k3, Or.inr (fun p hp => ?_)⟩
      rw [k4] at hp
      cases hp
      exact h2
  · rw [eT] at hx
    rw [eF] at hs
    obtain ⟨b, hb, e⟩ := hA.2.2.1 x hx hs
    exact ⟨b, by rw [eN]; exact hb, by rw [eA]; exact e⟩
  · rw [eN] at hb
    have hba : b ≠ a := by omega
    rw [eR, if_neg hba, eC 0 b hba, eC 1 b hba, eC 2 b hba]
    exact hA.2.2.2 b hb
theorem u2_u2 {α : Type} (f : Nat → Nat → α) (i k : Nat) (v w : α) : u2 (u2 f i k v) i k w = u2 f i k w := by
  funext j b
  rw [u2_ap, u2_ap, u2_ap]
  by_cases h : j = i ∧ b = k
  · rw [if_pos h, if_pos h]
  · rw [if_neg h, if_neg h, if_neg h]
theorem eSet_eSet (s : SP) (f t : Nat) (v w : Int32) : eSet (eSet s f t v) f t w = eSet s f t w := by
  show wTf s (u2 (u2 (tf s) f t v) f t w) = _
  rw [u2_u2]
  rfl
theorem smW_air {s s2 : SP} (hw : WFp (nT s) (tf s)) (hT : nT s ≤ 32) {t : Nat} (h3 : ∀ x, x ≠ t → tf s2 3 x = tf s 3 x) (h0 : tf s2 0 = tf s 0) (h2 : tf s2 2 = tf s 2) (h4 : tf s2 4 = tf s 4) (ht : t < nT s) : ∀ n, n ≤ nT s → smW (tf s2) t n = smW (tf s) t n := by
  intro n
  induction n with
  | zero => intro _; show tf s2 0 t = tf s 0 t; rw [h0]
  | succ n ih =>
    intro hn
    rw [smW, smW, ih (by omega), h4, h2]
    by_cases c4 : tf s 4 n = nI t
    · have hnt : n ≠ t := fun q => by
        have := wfp_lt hw (t := n) (by omega) hT (p := t) (by omega) c4
        omega
      rw [h3 n hnt]
    · rw [if_neg (fun q => c4 q.1), if_neg (fun q => c4 q.1)]
theorem wf_ends {s : SP} (h : WF s) {a t : Nat} (ha : a < na s) (ht : t < nT s) (e0 : af s 0 a = nI t) : WF (eEnds (uA s a (rw_ s a) (-5) (af s 1 a) (af s 2 a)) t a).2 := by
  have hT : nT s ≤ 32 := h.1.2.2
  obtain ⟨w1, w2, w3⟩ := wf_air h ha ht e0
  have hp := wf_p h
  have eA : eAir s a t = eSet (uA s a (rw_ s a) (-5) (af s 1 a) (af s 2 a)) 3 t 2 := rfl
  have kT : nT (uA s a (rw_ s a) (-5) (af s 1 a) (af s 2 a)) = nT s := rfl
  have kN : na (uA s a (rw_ s a) (-5) (af s 1 a) (af s 2 a)) = na s := rfl
  have kF : tf (uA s a (rw_ s a) (-5) (af s 1 a) (af s 2 a)) = tf s := rfl
  generalize uA s a (rw_ s a) (-5) (af s 1 a) (af s 2 a) = s2 at eA kT kN kF ⊢
  rw [eA] at w1 w2
  have s3 : tf (eSet s2 3 t 2) 3 t = 2 := by rw [eSet_fs, if_pos rfl]
  have tT : t < nT (eSet s2 3 t 2) := by show t < nT s2; omega
  unfold eEnds
  by_cases h5 : tf s2 5 t = 1
  · rw [if_pos h5]
    have g := wf_set3 w1 tT s3 w2 (v := 4) (Or.inr rfl)
    rw [eSet_eSet] at g
    exact wf_ent g (nI a) 4 (nI t)
  · rw [if_neg h5]
    by_cases hall : pB (allE (nT s2) (tf s2) t) = true
    · rw [if_pos hall]
      have hall' : allE (nT (eSet s2 3 t 2)) (tf (eSet s2 3 t 2)) t := by
        intro x hx hx4
        have e4 : tf s2 4 x = nI t := hx4
        have hxt : x ≠ t := fun q => by
          rw [kF] at e4
          have := wfp_lt hp (t := x) (by rw [← kT]; exact hx) hT (p := t) (by omega) e4
          omega
        rw [eSet_fs, if_neg hxt]
        exact pB_iff.mp hall x hx e4
      have g := wf_fin w1 tT s3 hall'
      have e : eFin (eSet s2 3 t 2) t = eFin s2 t := by
        have e1 : eFin (eSet s2 3 t 2) t = wTf s2 (u2 (u2 (u2 (tf s2) 3 t 2) 3 t 3) 2 t (smW (tf (eSet s2 3 t 2)) t (nT s2))) := rfl
        have e2 : smW (tf (eSet s2 3 t 2)) t (nT s2) = smW (tf s2) t (nT s2) := smW_air (s := s2) (by rw [kT, kF]; exact hp) (by omega) (fun x hx => by rw [eSet_fs, if_neg hx]) (eSet_fo _ _ _ (by omega)) (eSet_fo _ _ _ (by omega)) (eSet_fo _ _ _ (by omega)) (by omega) _ (Nat.le_refl _)
        rw [e1, e2, u2_u2]
        rfl
      rw [e] at g
      exact wf_ent g (nI a) 3 (nI t)
    · rw [if_neg hall]
      have g := wf_fork w1 tT (a := a) (by show a < na s2; omega) s3 w2
      exact g
theorem wf_step {s : SP} (h : WF s) {a t : Nat} (ha : a < na s) (ht : t < nT s) (e0 : af s 0 a = nI t) : WF (eStep s a t) ∧ na (eStep s a t) = na s ∧ nT (eStep s a t) = nT s := by
  have g0 := wf_set1 h t (tf s 1 t - 1)
  have q1 : na (eSet s 1 t (tf s 1 t - 1)) = na s := rfl
  have q2 : nT (eSet s 1 t (tf s 1 t - 1)) = nT s := rfl
  have q3 : af (eSet s 1 t (tf s 1 t - 1)) = af s := rfl
  have q4 : rw_ (eSet s 1 t (tf s 1 t - 1)) = rw_ s := rfl
  unfold eStep
  by_cases hz : tf s 1 t - 1 = 0
  · rw [if_pos hz]
    generalize eSet s 1 t (tf s 1 t - 1) = s1 at g0 q1 q2 q3 q4 ⊢
    rw [← q3, ← q4]
    have g := wf_ends g0 (a := a) (t := t) (by omega) (by omega) (by rw [q3]; exact e0)
    obtain ⟨k1, k2, -⟩ := eEnds_k (uA s1 a (rw_ s1 a) (-5) (af s1 1 a) (af s1 2 a)) t a
    have k3 : nT (uA s1 a (rw_ s1 a) (-5) (af s1 1 a) (af s1 2 a)) = nT s1 := rfl
    have k4 : na (uA s1 a (rw_ s1 a) (-5) (af s1 1 a) (af s1 2 a)) = na s1 := rfl
    generalize eEnds (uA s1 a (rw_ s1 a) (-5) (af s1 1 a) (af s1 2 a)) t a = r at g k1 k2 ⊢
    obtain ⟨b, s2⟩ := r
    have g : WF s2 := g
    have m1 : nT s2 = nT s := (k1.trans k3).trans q2
    have m2 : na s2 = na s := (k2.trans k4).trans q1
    clear k1 k2
    show WF (if b = true then eUp 4 s2 t else s2) ∧ _
    cases b with
    | true =>
      rw [if_pos rfl]
      obtain ⟨u1, u2, -⟩ := eUp_k 4 s2 t
      refine ⟨wf_up 4 s2 t g (by omega), ?_, ?_⟩
      · show na (if true = true then eUp 4 s2 t else s2) = _
        rw [if_pos rfl, u2, m2]
      · show nT (if true = true then eUp 4 s2 t else s2) = _
        rw [if_pos rfl, u1, m1]
    | false =>
      rw [if_neg Bool.false_ne_true]
      refine ⟨g, ?_, ?_⟩
      · show na (if false = true then eUp 4 s2 t else s2) = _
        rw [if_neg Bool.false_ne_true, m2]
      · show nT (if false = true then eUp 4 s2 t else s2) = _
        rw [if_neg Bool.false_ne_true, m1]
  · rw [if_neg hz]
    exact ⟨g0, q1, q2⟩
theorem wf_arm1 {s : SP} (h : WF s) {a : Nat} (ha : a < na s) : WF (eArm s a) ∧ na (eArm s a) = na s ∧ nT (eArm s a) = nT s := by
  have hT : nT s ≤ 32 := h.1.2.2
  unfold eArm
  rcases h.2.2.1.1 a with h0 | ⟨t, ht, h0, -⟩
  · rw [if_pos h0]
    exact wf_take h ha h0
  · rw [if_neg (by rw [h0]; exact m5_ne (by omega)), show (af s 0 a).toNatClampNeg = t by rw [h0]; exact nI_clamp (by omega)]
    exact wf_step h ha ht h0
theorem wf_arms {s : SP} (h : WF s) : ∀ n, n ≤ na s → WF (eArms s n) ∧ na (eArms s n) = na s ∧ nT (eArms s n) = nT s := by
  intro n
  induction n with
  | zero => intro _; exact ⟨h, rfl, rfl⟩
  | succ n ih =>
    intro hn
    obtain ⟨i1, i2, i3⟩ := ih (by omega)
    obtain ⟨j1, j2, j3⟩ := wf_arm1 i1 (a := n) (by omega)
    exact ⟨j1, j2.trans i2, j3.trans i3⟩
theorem wf_rd {s : SP} (h : WF s) (d : Int32) : WF (wRd s d) := h
theorem wf_round {s : SP} (h : WF s) : WF (eRound s) ∧ na (eRound s) = na s ∧ nT (eRound s) = nT s := by
  obtain ⟨i1, i2, i3⟩ := wf_arms h (na s) (Nat.le_refl _)
  unfold eRound
  generalize eArms s (na s) = s2 at i1 i2 i3 ⊢
  exact ⟨wf_rd i1 _, i2, i3⟩
noncomputable def eRounds (s : SP) : Nat → SP
  | 0 => s
  | n + 1 => eRound (eRounds s n)
theorem wf_rounds {s : SP} (h : WF s) : ∀ n, WF (eRounds s n) ∧ na (eRounds s n) = na s ∧ nT (eRounds s n) = nT s := by
  intro n
  induction n with
  | zero => exact ⟨h, rfl, rfl⟩
  | succ n ih =>
    obtain ⟨i1, i2, i3⟩ := ih
    obtain ⟨j1, j2, j3⟩ := wf_round i1
    exact ⟨j1, j2.trans i2, j3.trans i3⟩
theorem wor_round' {I : IS} {s : SP} (h : RWo I s) (hw : WF s) : ∃ J, f_X6_goRound I = some J ∧ RWo J (eRound s) :=
  wor_round h (fun n hn => ⟨(wf_arms hw n hn).1, (wf_arms hw n hn).2.1⟩)
