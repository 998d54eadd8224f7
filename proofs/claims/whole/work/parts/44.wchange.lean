/-! ===== the World: arms leave ===== -/
def eLvT (s : SP) (t : Nat) : SP := uA (eSet s 3 t 0) 0 (rw_ s 0 ++ [nI t]) (af s 0 0) (af s 1 0) (af s 2 0)
def eLvR (s : SP) (a n : Nat) : SP := uA s 0 (rw_ s 0 ++ (rw_ s a).take n) (af s 0 0) (af s 1 0) (af s 2 0)
def eLvC (s : SP) (a : Nat) : SP := uA (eLvR s a (rw_ s a).length) a [] (-5) 0 0
def eLv (s : SP) (a : Nat) : SP := eLvC (if af s 0 a = -5 then s else eLvT s (af s 0 a).toNatClampNeg) a
def eLvs (s : SP) (n : Nat) : Nat → SP
  | 0 => s
  | k + 1 => eLv (eLvs s n k) (n + k)
def eChg (s : SP) (n : Nat) : SP := wNa (eLvs s n (na s - n)) n
theorem lvC_k (s : SP) {a : Nat} (ha : a ≠ 0) : na (eLvC s a) = na s ∧ nT (eLvC s a) = nT s ∧ tol (eLvC s a) = tol s ∧ tf (eLvC s a) = tf s ∧ (∀ b, rw_ (eLvC s a) b = if b = a then [] else if b = 0 then rw_ s 0 ++ rw_ s a else rw_ s b) ∧ (∀ b, af (eLvC s a) 0 b = if b = a then -5 else af s 0 b) ∧ af (eLvC s a) 1 a = 0 ∧ af (eLvC s a) 2 a = 0 ∧ (∀ f b, b ≠ a → b ≠ 0 → af (eLvC s a) f b = af s f b) := by
  refine ⟨rfl, rfl, rfl, rfl, fun b => ?_, fun b => ?_, uA_a1 _ _ _ _ _ _, uA_a2 _ _ _ _ _ _, fun f b h1 h2 => ?_⟩
  · unfold eLvC
    by_cases h : b = a
    · rw [if_pos h, h, uA_rs]
    · rw [if_neg h, uA_ro _ _ _ _ _ h]
      unfold eLvR
      by_cases h0 : b = 0
      · rw [if_pos h0, h0, uA_rs, List.take_length]
      · rw [if_neg h0, uA_ro _ _ _ _ _ h0]
  · unfold eLvC
    rw [uA_f0]
    by_cases h : b = a
    · rw [if_pos h, if_pos h]
    · rw [if_neg h, if_neg h]
      unfold eLvR
      rw [uA_f0]
      by_cases h0 : b = 0
      · rw [if_pos h0, h0]
      · rw [if_neg h0]
  · unfold eLvC
    rw [uA_ao _ _ _ _ _ f h1]
    unfold eLvR
    rw [uA_ao _ _ _ _ _ f h2]
theorem lvT_k (s : SP) (t : Nat) : na (eLvT s t) = na s ∧ nT (eLvT s t) = nT s ∧ tol (eLvT s t) = tol s ∧ (∀ x, tf (eLvT s t) 3 x = if x = t then 0 else tf s 3 x) ∧ (∀ f, f ≠ 3 → tf (eLvT s t) f = tf s f) ∧ (∀ b, rw_ (eLvT s t) b = if b = 0 then rw_ s 0 ++ [nI t] else rw_ s b) ∧ (∀ b, af (eLvT s t) 0 b = af s 0 b) ∧ (∀ f b, b ≠ 0 → af (eLvT s t) f b = af s f b) := by
  refine ⟨rfl, rfl, rfl, fun x => eSet_fs s t 0 x, fun f hf => eSet_fo s t 0 hf, fun b => ?_, fun b => ?_, fun f b hb => ?_⟩
  · unfold eLvT
    by_cases h : b = 0
    · rw [if_pos h, h, uA_rs]
    · rw [if_neg h, uA_ro _ _ _ _ _ h]
      rfl
  · unfold eLvT
    rw [uA_f0]
    by_cases h : b = 0
    · rw [if_pos h, h]
    · rw [if_neg h]
      rfl
  · unfold eLvT
    rw [uA_ao _ _ _ _ _ f hb]
    rfl
/-- what holds when an arm has left -/
def lvL (s : SP) (a : Nat) : List Int32 := (if af s 0 a = -5 then [] else [af s 0 a]) ++ rw_ s a
theorem lv_k {s : SP} (h : WF s) {a : Nat} (ha : a ≠ 0) : na (eLv s a) = na s ∧ nT (eLv s a) = nT s ∧ tol (eLv s a) = tol s ∧ (∀ f, f ≠ 3 → tf (eLv s a) f = tf s f) ∧ (∀ x, x < nT s → tf (eLv s a) 3 x = if af s 0 a = nI x then 0 else tf s 3 x) ∧ (∀ b, rw_ (eLv s a) b = if b = a then [] else if b = 0 then rw_ s 0 ++ lvL s a else rw_ s b) ∧ (∀ b, af (eLv s a) 0 b = if b = a then -5 else af s 0 b) ∧ af (eLv s a) 1 a = 0 ∧ af (eLv s a) 2 a = 0 ∧ (∀ f b, b ≠ a → b ≠ 0 → af (eLv s a) f b = af s f b) := by
  have hT : nT s ≤ 32 := h.1.2.2
  unfold eLv lvL
  rcases h.2.2.1.1 a with h0 | ⟨t, ht, h0, hs⟩
  · rw [if_pos h0, if_pos h0]
    obtain ⟨c1, c2, c3, c4, c5, c6, c7, c8, c9⟩ := lvC_k s ha
    refine ⟨c1, c2, c3, fun f _ => by rw [c4], fun x hx => ?_, c5, c6, c7, c8, c9⟩
    rw [c4, if_neg (by rw [h0]; exact fun q => m5_ne (n := x) (by omega) q.symm)]
  · have hne : ¬ af s 0 a = -5 := by rw [h0]; exact m5_ne (by omega)
    rw [if_neg hne, if_neg hne, show (af s 0 a).toNatClampNeg = t by rw [h0]; exact nI_clamp (by omega)]
    obtain ⟨d1, d2, d3, d4, d5, d6, d7, d8⟩ := lvT_k s t
    obtain ⟨c1, c2, c3, c4, c5, c6, c7, c8, c9⟩ := lvC_k (eLvT s t) ha
    refine ⟨c1.trans d1, c2.trans d2, c3.trans d3, fun f hf => by rw [c4]; exact d5 f hf, fun x hx => ?_, fun b => ?_, fun b => ?_, c7, c8, fun f b h1 h2 => (c9 f b h1 h2).trans (d8 f b h2)⟩
    · rw [c4, d4]
      by_cases hxt : x = t
      · rw [if_pos hxt, if_pos (by rw [h0, hxt])]
      · rw [if_neg hxt, if_neg (by rw [h0]; exact fun q => hxt (nIne (by omega) (by omega) q.symm))]
    · rw [c5, d6, d6, d6, if_pos rfl, if_neg ha]
      by_cases hb : b = a
      · rw [if_pos hb, if_pos hb]
      · rw [if_neg hb, if_neg hb]
        by_cases hb0 : b = 0
        · rw [if_pos hb0, if_pos hb0, h0, List.append_assoc]
        · rw [if_neg hb0, if_neg hb0, if_neg hb0]
    · rw [c6, d7]
theorem lvL_mem {s : SP} (h : WF s) {a : Nat} {x : Int32} (hx : x ∈ lvL s a) : (x = af s 0 a ∧ x ≠ -5) ∨ x ∈ rw_ s a := by
  unfold lvL at hx
  by_cases h0 : af s 0 a = -5
  · rw [if_pos h0] at hx
    exact Or.inr hx
  · rw [if_neg h0] at hx
    rcases List.mem_append.mp hx with q | q
    · have := List.mem_singleton.mp q
      exact Or.inl ⟨this, by rw [this]; exact h0⟩
    · exact Or.inr q
theorem lv_nodup {s : SP} (h : WF s) {a : Nat} (ha : a ≠ 0) : (rw_ s 0 ++ lvL s a).Nodup ∧ ∀ x ∈ rw_ s 0 ++ lvL s a, ∃ t, t < nT s ∧ x = nI t := by
  have hT : nT s ≤ 32 := h.1.2.2
  have nrow : ∀ b, af s 0 a ≠ -5 → af s 0 a ∉ rw_ s b := fun b h5 hm => by
    obtain ⟨u, hu, e, h0, -⟩ := h.2.1.2.2 b _ hm
    rcases h.2.2.1.1 a with q | ⟨t, ht, e', hs⟩
    · exact h5 q
    · have := nIne (by omega) (by omega) (e.symm.trans e')
      rw [this, hs] at h0
      exact absurd h0 (by decide)
  refine ⟨List.nodup_append.mpr ⟨h.2.1.1 0, ?_, fun x hx y hy hxy => ?_⟩, fun x hx => ?_⟩
  · unfold lvL
    by_cases h0 : af s 0 a = -5
    · rw [if_pos h0]
      exact h.2.1.1 a
    · rw [if_neg h0]
      exact List.nodup_cons.mpr ⟨nrow a h0, h.2.1.1 a⟩
  · rw [hxy] at hx
    rcases lvL_mem h hy with ⟨q1, q2⟩ | q
    · rw [q1] at hx q2
      exact nrow 0 q2 hx
    · exact ha (h.2.1.2.1 a 0 y q hx)
  · rcases List.mem_append.mp hx with q | q
    · obtain ⟨t, ht, e, -⟩ := h.2.1.2.2 0 x q
      exact ⟨t, ht, e⟩
    · rcases lvL_mem h q with ⟨q1, q2⟩ | q
      · rcases h.2.2.1.1 a with q' | ⟨t, ht, e', hs⟩
        · rw [q1] at q2
          exact absurd q' q2
        · exact ⟨t, ht, q1.trans e'⟩
      · obtain ⟨t, ht, e, -⟩ := h.2.1.2.2 a x q
        exact ⟨t, ht, e⟩
theorem wf_lv {s : SP} (h : WF s) {a : Nat} (ha : a ≠ 0) (han : a < na s) : WF (eLv s a) ∧ na (eLv s a) = na s ∧ nT (eLv s a) = nT s := by
  have hT : nT s ≤ 32 := h.1.2.2
  have hN : 1 ≤ na s := h.1.1
  obtain ⟨l1, l2⟩ := lv_nodup h ha
  have lm := fun x => lvL_mem (x := x) h (a := a)
  obtain ⟨eN, eT, eO, eF, eS, eR, eA, eA1, eA2, eC⟩ := lv_k h ha
  obtain ⟨h1, ⟨r1, r2, r3⟩, hA, ⟨g1, g2, g3, g4⟩, hC, hW, hO⟩ := h
  generalize eLv s a = s2 at eN eT eO eF eS eR eA eA1 eA2 eC ⊢
  refine ⟨?_, eN, eT⟩
  have e4 := eF 4 (by omega)
  have up' : ∀ x, x < nT s → upE (fun _ => False) s x → upE (fun _ => False) s2 x := fun x hxT hu => by
    refine Or.inr (fun p hp => ?_)
    rw [prn_congr e4] at hp
    have h2 := (hu.resolve_left (fun q => q)) p hp
    have hpx := (prn_enc g1 hT hxT).2 p hp
    rw [eS p (by omega)]
    by_cases hpt : af s 0 a = nI p
    · rcases hA.1 a with q | ⟨t, ht, e', hs⟩
      · exact absurd (hpt.symm.trans q) (m5_ne (by omega))
      · have := nIne (by omega) (by omega) (e'.symm.trans hpt)
        rw [this, h2] at hs
        exact absurd hs (by decide)
    · rw [if_neg hpt]
      exact h2
  have s1of : ∀ x, x < nT s → af s 0 a = nI x → tf s 3 x = 1 := fun x hx e => by
    rcases hA.1 a with q | ⟨t, ht, e', hs⟩
    · exact absurd (e.symm.trans q) (m5_ne (by omega))
    · have := nIne (by omega) (by omega) (e'.symm.trans e)
      rw [← this]
      exact hs
  -- in a row of old
  have old : ∀ b x, x ∈ rw_ s b → ∃ t, t < nT s2 ∧ x = nI t ∧ tf s2 3 t = 0 ∧ upE (fun _ => False) s2 t := fun b x hx => by
    obtain ⟨u, hu, e, hs, hup⟩ := r3 b x hx
    refine ⟨u, by rw [eT]; exact hu, e, ?_, up' u hu hup⟩
    rw [eS u hu]
    by_cases c : af s 0 a = nI u
    · rw [if_pos c]
    · rw [if_neg c]
      exact hs
  have mem : ∀ b x, x ∈ rw_ s2 b → b ≠ a ∧ ((b ≠ 0 ∧ x ∈ rw_ s b) ∨ (b = 0 ∧ x ∈ rw_ s 0 ++ lvL s a)) := fun b x hx => by
    rw [eR] at hx
    by_cases hb : b = a
    · rw [if_pos hb] at hx
      cases hx
    · rw [if_neg hb] at hx
      by_cases hb0 : b = 0
      · rw [if_pos hb0] at hx
        exact ⟨hb, Or.inr ⟨hb0, hx⟩⟩
      · rw [if_neg hb0] at hx
        exact ⟨hb, Or.inl ⟨hb0, hx⟩⟩
  have apart : ∀ b x, b ≠ a → b ≠ 0 → x ∈ rw_ s b → x ∉ rw_ s 0 ++ lvL s a := fun b x hb hb0 hx hm => by
    rcases List.mem_append.mp hm with q | q
    · exact hb0 (r2 b 0 x hx q)
    · rcases lm x q with ⟨q1, q2⟩ | q
      · obtain ⟨u, hu, e, hs, -⟩ := r3 b x hx
        rw [s1of u hu (q1.symm.trans e)] at hs
        exact absurd hs (by decide)
      · exact hb (r2 b a x hx q)
  refine ⟨by unfold WNum; rw [eT, eN]; exact h1, ⟨fun b => ?_, fun b c x hb hc => ?_, fun b x hx => ?_⟩, ⟨fun b => ?_, fun b c => ?_, fun x hx hs => ?_, fun b hb => ?_⟩, ⟨by rw [eT]; exact wfp_congr e4.symm g1, by rw [eT]; exact wfd_congr e4.symm g2, fun x hx => ?_, fun x hx hs => ?_⟩, fun x hx => ?_, fun x hx => ?_, ?_⟩
  · rw [eR]
    by_cases hb : b = a
    · rw [if_pos hb]
      exact List.nodup_nil
    · rw [if_neg hb]
      by_cases hb0 : b = 0
      · rw [if_pos hb0]
        exact l1
      · rw [if_neg hb0]
        exact r1 b
  · obtain ⟨b1, b2⟩ := mem b x hb
    obtain ⟨c1, c2⟩ := mem c x hc
    rcases b2 with ⟨b2, b3⟩ | ⟨b2, b3⟩
    · rcases c2 with ⟨c2, c3⟩ | ⟨c2, c3⟩
      · exact r2 b c x b3 c3
      · exact absurd c3 (apart b x b1 b2 b3)
    · rcases c2 with ⟨c2, c3⟩ | ⟨c2, c3⟩
      · exact absurd b3 (apart c x c1 c2 c3)
      · exact b2.trans c2.symm
  · obtain ⟨b1, b2⟩ := mem b x hx
    rcases b2 with ⟨b2, b3⟩ | ⟨b2, b3⟩
    · exact old b x b3
    · rcases List.mem_append.mp b3 with q | q
      · exact old 0 x q
      · rcases lm x q with ⟨q1, q2⟩ | q
        · obtain ⟨t, ht, e⟩ := l2 x b3
          have c : af s 0 a = nI t := q1.symm.trans e
          refine ⟨t, by rw [eT]; exact ht, e, by rw [eS t ht, if_pos c], up' t ht (g4 t ht (Or.inl (s1of t ht c)))⟩
        · exact old a x q
  · rw [eA]
    by_cases hb : b = a
    · exact Or.inl (if_pos hb)
    · rw [if_neg hb]
      rcases hA.1 b with h4 | ⟨u, hu, e, hs⟩
      · exact Or.inl h4
      · refine Or.inr ⟨u, by rw [eT]; exact hu, e, ?_⟩
        rw [eS u hu, if_neg (fun q => hb (hA.2.1 b a (e.trans q.symm) (by rw [e]; exact m5_ne (by omega))))]
        exact hs
  · rw [eA, eA]
    by_cases hb : b = a
    · rw [if_pos hb]
      exact fun _ q => absurd rfl q
    · rw [if_neg hb]
      by_cases hc : c = a
      · rw [if_pos hc]
        exact fun q1 q2 => absurd q1 q2
      · rw [if_neg hc]
        exact hA.2.1 b c
  · rw [eT] at hx
    rw [eS x hx] at hs
    rw [eN]
    by_cases c : af s 0 a = nI x
    · rw [if_pos c] at hs
      exact absurd hs (by decide)
    · rw [if_neg c] at hs
      obtain ⟨b, hb, e⟩ := hA.2.2.1 x hx hs
      have hba : b ≠ a := fun q => c (by rw [← q]; exact e)
      exact ⟨b, hb, by rw [eA, if_neg hba]; exact e⟩
  · rw [eN] at hb
    have hba : b ≠ a := by omega
    have hb0 : b ≠ 0 := by omega
    rw [eR, if_neg hba, if_neg hb0, eC 0 b hba hb0, eC 1 b hba hb0, eC 2 b hba hb0]
    exact hA.2.2.2 b hb
  · rw [eT] at hx
    rw [eS x hx]
    by_cases c : af s 0 a = nI x
    · rw [if_pos c]
      decide
    · rw [if_neg c]
      exact g3 x hx
  · rw [eT] at hx
    rw [eS x hx] at hs
    by_cases c : af s 0 a = nI x
    · rw [if_pos c] at hs
      rcases hs with q | q <;> exact absurd q (by decide)
    · rw [if_neg c] at hs
      exact up' x hx (g4 x hx hs)
  · rw [eT] at hx
    rw [eF 6 (by omega), eS x hx, eT]
    rcases hC x hx with q | ⟨q4, q⟩
    · exact Or.inl q
    · rw [if_neg (fun c => by
        rw [s1of x hx c] at q4
        exact absurd q4 (by decide))]
      exact Or.inr ⟨q4, q⟩
  · rw [eT] at hx
    rw [eF 0 (by omega), eF 2 (by omega), anc_congr_all e4]
    exact hW x hx
  · unfold WTol
    rw [eO, eT]
    exact hO
theorem wf_lvs {s : SP} (h : WF s) {n : Nat} (hn : n ≠ 0) : ∀ k, n + k ≤ na s → WF (eLvs s n k) ∧ na (eLvs s n k) = na s ∧ nT (eLvs s n k) = nT s ∧ ∀ b, n ≤ b → b < n + k → rw_ (eLvs s n k) b = [] ∧ af (eLvs s n k) 0 b = -5 ∧ af (eLvs s n k) 1 b = 0 ∧ af (eLvs s n k) 2 b = 0 := by
  intro k
  induction k with
  | zero => intro _; exact ⟨h, rfl, rfl, fun b h1 h2 => by omega⟩
  | succ k ih =>
    intro hk
    obtain ⟨i1, i2, i3, i4⟩ := ih (by omega)
    show WF (eLv (eLvs s n k) (n + k)) ∧ _
    have ha : n + k ≠ 0 := by omega
    obtain ⟨w1, w2, w3⟩ := wf_lv i1 ha (by omega)
    obtain ⟨-, -, -, -, -, eR, eA, eA1, eA2, eC⟩ := lv_k i1 ha
    refine ⟨w1, w2.trans i2, w3.trans i3, fun b h1 h2 => ?_⟩
    show rw_ (eLv (eLvs s n k) (n + k)) b = [] ∧ af (eLv (eLvs s n k) (n + k)) 0 b = -5 ∧ af (eLv (eLvs s n k) (n + k)) 1 b = 0 ∧ af (eLv (eLvs s n k) (n + k)) 2 b = 0
    by_cases hb : b = n + k
    · refine ⟨by rw [eR, if_pos hb], by rw [eA, if_pos hb], by rw [hb]; exact eA1, by rw [hb]; exact eA2⟩
    · have hb0 : b ≠ 0 := by omega
      rw [eR, if_neg hb, if_neg hb0, eC 0 b hb hb0, eC 1 b hb hb0, eC 2 b hb hb0]
      exact i4 b h1 (by omega)
theorem wf_chg {s : SP} (h : WF s) {n : Nat} (hn : 1 ≤ n) (hn4 : n ≤ 4) : WF (eChg s n) ∧ na (eChg s n) = n ∧ nT (eChg s n) = nT s := by
  have main : ∀ s' : SP, WF s' → (∀ b, n ≤ b → b < na s' → rw_ s' b = [] ∧ af s' 0 b = -5 ∧ af s' 1 b = 0 ∧ af s' 2 b = 0) → WF (wNa s' n) := by
    intro s' h' hc
    obtain ⟨h1, hR, hA, hK, hC, hW, hO⟩ := h'
    have hT : nT s' ≤ 32 := h1.2.2
    have cl : ∀ b, n ≤ b → rw_ s' b = [] ∧ af s' 0 b = -5 ∧ af s' 1 b = 0 ∧ af s' 2 b = 0 := fun b hb => by
      by_cases hb2 : b < na s'
      · exact hc b hb hb2
      · exact hA.2.2.2 b (by omega)
    refine ⟨⟨hn, hn4, h1.2.2⟩, hR, ⟨hA.1, hA.2.1, fun t ht hs => ?_, cl⟩, hK, hC, hW, hO⟩
    obtain ⟨a, -, e⟩ := hA.2.2.1 t ht hs
    refine ⟨a, Nat.lt_of_not_le (fun q => ?_), e⟩
    have := (cl a q).2.1
    have e : af s' 0 a = nI t := e
    have ht : t < nT s' := ht
    exact m5_ne (n := t) (by omega) (e.symm.trans this)
  unfold eChg
  by_cases hk : n ≤ na s
  · obtain ⟨i1, i2, i3, i4⟩ := wf_lvs h (n := n) (by omega) (na s - n) (by omega)
    exact ⟨main _ i1 (fun b h1 h2 => i4 b h1 (by omega)), rfl, i3⟩
  · have e : na s - n = 0 := by omega
    rw [e]
    exact ⟨main s h (fun b h1 h2 => by omega), rfl, rfl⟩
