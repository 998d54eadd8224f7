/-! ===== what holds of the state is kept: arms ===== -/
theorem uA_r (s : SP) (a : Nat) (w i j : Int32) (b : Nat) : rw_ (uA s a (rw_ s a) w i j) b = rw_ s b := by
  by_cases h : b = a
  · rw [h, uA_rs]
  · rw [uA_ro _ _ _ _ _ h]
theorem uA_f0 (s : SP) (a : Nat) (l : List Int32) (w i j : Int32) (b : Nat) : af (uA s a l w i j) 0 b = if b = a then w else af s 0 b := by
  by_cases h : b = a
  · rw [if_pos h, h, uA_a0]
  · rw [if_neg h, uA_ao _ _ _ _ _ _ h]
theorem wf_keep2 {s s' : SP} {t : Nat} (h : WF s) (e : ∀ x, tf s' 3 x = if x = t then 1 else tf s 3 x) (h0 : tf s 3 t = 0) (e4 : tf s' 4 = tf s 4) {x : Nat} (hu : upE (fun _ => False) s x) : upE (fun _ => False) s' x := by
  refine Or.inr (fun p hp => ?_)
  rw [prn_congr e4] at hp
  have h2 := (hu.resolve_left (fun q => q)) p hp
  have hpt : p ≠ t := fun q => by
    rw [q, h0] at h2
    exact absurd h2 (by decide)
  rw [e, if_neg hpt]
  exact h2
/-- a task goes from a row to an arm -/
theorem wf_grab {s s' : SP} (h : WF s) {a o t : Nat} (ht : t < nT s) (ha : a < na s) (h5 : af s 0 a = -5) (ho : nI t ∈ rw_ s o) (k1 : nT s' = nT s) (k2 : na s' = na s) (k3 : tf s' = tf s) (k4 : tol s' = tol s) (hr : ∀ b, rw_ s' b = (rw_ s b).filter (fun y => y != nI t)) (hf : ∀ b, af s' 0 b = af s 0 b) (hc : ∀ b, na s ≤ b → af s' 1 b = 0 ∧ af s' 2 b = 0) (i j : Int32) : WF (eSet (uA s' a (rw_ s' a) (nI t) i j) 3 t 1) := by
  have hT : nT s ≤ 32 := h.1.2.2
  obtain ⟨u0, hu0, e0, h0, hup0⟩ := h.2.1.2.2 o _ ho
  have := nIne (by omega) (by omega) e0
  subst this
  have hF := h
  obtain ⟨h1, ⟨r1, r2, r3⟩, hA, ⟨g1, g2, g3, g4⟩, hC, hW, hO⟩ := h
  have eR : ∀ b, rw_ (eSet (uA s' a (rw_ s' a) (nI t) i j) 3 t 1) b = (rw_ s b).filter (fun y => y != nI t) := fun b => (uA_r s' a (nI t) i j b).trans (hr b)
  have eA : ∀ b, af (eSet (uA s' a (rw_ s' a) (nI t) i j) 3 t 1) 0 b = if b = a then nI t else af s 0 b := fun b => by
    rw [← hf b]
    exact uA_f0 s' a _ (nI t) i j b
  have eC : ∀ b, na s ≤ b → af (eSet (uA s' a (rw_ s' a) (nI t) i j) 3 t 1) 1 b = 0 ∧ af (eSet (uA s' a (rw_ s' a) (nI t) i j) 3 t 1) 2 b = 0 := fun b hb => by
    have hba : b ≠ a := by omega
    have q1 := uA_ao s' (rw_ s' a) (nI t) i j 1 hba
    have q2 := uA_ao s' (rw_ s' a) (nI t) i j 2 hba
    exact ⟨q1.trans (hc b hb).1, q2.trans (hc b hb).2⟩
  have eT : nT (eSet (uA s' a (rw_ s' a) (nI t) i j) 3 t 1) = nT s := k1
  have eN : na (eSet (uA s' a (rw_ s' a) (nI t) i j) 3 t 1) = na s := k2
  have eO : tol (eSet (uA s' a (rw_ s' a) (nI t) i j) 3 t 1) = tol s := k4
  have eS : ∀ x, tf (eSet (uA s' a (rw_ s' a) (nI t) i j) 3 t 1) 3 x = if x = t then 1 else tf s 3 x := fun x => by
    rw [eSet_fs]
    show (if x = t then (1 : Int32) else tf s' 3 x) = _
    rw [k3]
  have eF : ∀ f, f ≠ 3 → tf (eSet (uA s' a (rw_ s' a) (nI t) i j) 3 t 1) f = tf s f := fun f hf => by
    rw [eSet_fo _ t 1 hf]
    show tf s' f = _
    rw [k3]
  generalize eSet (uA s' a (rw_ s' a) (nI t) i j) 3 t 1 = s2 at eR eA eC eT eN eO eS eF ⊢
  have e4 := eF 4 (by omega)
  have mem : ∀ b x, x ∈ rw_ s2 b → x ∈ rw_ s b ∧ x ≠ nI t := fun b x hx => by
    rw [eR] at hx
    have := List.mem_filter.mp hx
    exact ⟨this.1, by simpa using this.2⟩
  refine ⟨by unfold WNum; rw [eT, eN]; exact h1, ⟨fun b => by rw [eR]; exact (r1 b).filter _, fun b c x hb hc => r2 b c x (mem b x hb).1 (mem c x hc).1, fun b x hx => ?_⟩, ⟨fun b => ?_, fun b c => ?_, fun x hx hs => ?_, fun b hb => ?_⟩, ⟨by rw [eT]; exact wfp_congr e4.symm g1, by rw [eT]; exact wfd_congr e4.symm g2, fun x hx => ?_, fun x hx hs => ?_⟩, fun x hx => ?_, fun x hx => ?_, ?_⟩
  · obtain ⟨m1, m2⟩ := mem b x hx
    obtain ⟨u, hu, e, hs, hup⟩ := r3 b x m1
    have hut : u ≠ t := fun q => m2 (by rw [e, q])
    exact ⟨u, by rw [eT]; exact hu, e, by rw [eS, if_neg hut]; exact hs, wf_keep2 hF eS h0 e4 hup⟩
  · rw [eA]
    by_cases hb : b = a
    · rw [if_pos hb]
      exact Or.inr ⟨t, by rw [eT]; exact ht, rfl, by rw [eS, if_pos rfl]⟩
    · rw [if_neg hb]
      rcases hA.1 b with h4 | ⟨u, hu, e, hs⟩
      · exact Or.inl h4
      · have hut : u ≠ t := fun q => by
          rw [q, h0] at hs
          exact absurd hs (by decide)
        exact Or.inr ⟨u, by rw [eT]; exact hu, e, by rw [eS, if_neg hut]; exact hs⟩
  · have key : ∀ b, af s 0 b ≠ nI t := fun b q => by
      rcases hA.1 b with h4 | ⟨u, hu, e, hs⟩
      · exact m5_ne (n := t) (by omega) (q.symm.trans h4)
      · have := nIne (by omega) (by omega) (e.symm.trans q)
        rw [this, h0] at hs
        exact absurd hs (by decide)
    rw [eA, eA]
    by_cases hb : b = a
    · rw [if_pos hb]
      by_cases hc : c = a
      · rw [if_pos hc]
        exact fun _ _ => hb.trans hc.symm
      · rw [if_neg hc]
        exact fun q _ => absurd q.symm (key c)
    · rw [if_neg hb]
      by_cases hc : c = a
      · rw [if_pos hc]
        exact fun q _ => absurd q (key b)
      · rw [if_neg hc]
        exact hA.2.1 b c
  · rw [eT] at hx
    rw [eS] at hs
    rw [eN]
    by_cases hxt : x = t
    · exact ⟨a, ha, by rw [eA, if_pos rfl, hxt]⟩
    · rw [if_neg hxt] at hs
      obtain ⟨b, hb, e⟩ := hA.2.2.1 x hx hs
      have hba : b ≠ a := fun q => by
        rw [q, h5] at e
        exact m5_ne (n := x) (by omega) e.symm
      exact ⟨b, hb, by rw [eA, if_neg hba]; exact e⟩
  · rw [eN] at hb
    obtain ⟨c1, c2, c3, c4⟩ := hA.2.2.2 b hb
    have hba : b ≠ a := by omega
    exact ⟨by rw [eR, c1]; rfl, by rw [eA, if_neg hba]; exact c2, (eC b hb).1, (eC b hb).2⟩
  · rw [eT] at hx
    rw [eS]
    by_cases hxt : x = t
    · rw [if_pos hxt]
      decide
    · rw [if_neg hxt]
      exact g3 x hx
  · rw [eT] at hx
    rw [eS] at hs
    by_cases hxt : x = t
    · rw [hxt]
      exact wf_keep2 hF eS h0 e4 hup0
    · rw [if_neg hxt] at hs
      exact wf_keep2 hF eS h0 e4 (g4 x hx hs)
  · rw [eT] at hx
    rw [eF 6 (by omega), eS, eT]
    rcases hC x hx with q | ⟨q4, q⟩
    · exact Or.inl q
    · by_cases hxt : x = t
      · rw [hxt, h0] at q4
        exact absurd q4 (by decide)
      · rw [if_neg hxt]
        exact Or.inr ⟨q4, q⟩
  · rw [eT] at hx
    rw [eF 0 (by omega), eF 2 (by omega), anc_congr_all e4]
    exact hW x hx
  · unfold WTol
    rw [eO, eT]
    exact hO
theorem filter_notin {l : List Int32} {x : Int32} (h : x ∉ l) : l.filter (fun y => y != x) = l := by
  refine List.filter_eq_self.mpr (fun y hy => ?_)
  have : y ≠ x := fun q => h (by rw [← q]; exact hy)
  simp [this]
theorem last_filter : ∀ {l : List Int32} {x : Int32}, l.Nodup → l.getLast? = some x → l.dropLast = l.filter (fun y => y != x) := by
  intro l x hn hl
  rcases List.eq_nil_or_concat l with rfl | ⟨l', y, rfl⟩
  · cases hl
  · rw [List.concat_eq_append] at *
    rw [List.getLast?_append] at hl
    have : y = x := by simpa using hl
    subst this
    have hy : y ∉ l' := fun q => by
      obtain ⟨-, -, h3⟩ := List.nodup_append.mp hn
      exact h3 y q y (List.mem_singleton.mpr rfl) rfl
    rw [List.dropLast_concat, List.filter_append, filter_notin hy]
    simp
theorem dA_r {s : SP} (hR : WRow (fun _ => False) s) {x : Int32} {o : Nat} (ho : x ∈ rw_ s o) (b : Nat) : rw_ (dA s x o) b = (rw_ s b).filter (fun y => y != x) := by
  unfold dA
  by_cases h : b = o
  · rw [h, uA_rs]
  · rw [uA_ro _ _ _ _ _ h, filter_notin (fun q => h (hR.2.1 b o x q ho))]
theorem dA_f0 (s : SP) (x : Int32) (o b : Nat) (hx : af s 0 o ≠ x) : af (dA s x o) 0 b = af s 0 b := by
  unfold dA
  rw [uA_f0]
  by_cases h : b = o
  · rw [if_pos h, if_neg hx, h]
  · rw [if_neg h]
theorem dA_f (s : SP) (x : Int32) (o b f : Nat) (hf : f = 1 ∨ f = 2) : af (dA s x o) f b = af s f b := by
  unfold dA
  by_cases h : b = o
  · subst h
    rcases hf with rfl | rfl
    · rw [uA_a1]
    · rw [uA_a2]
  · rw [uA_ao _ _ _ _ _ _ h]
theorem wf_notArm {s : SP} (h : WF s) {t : Nat} (ht : t < nT s) (h0 : tf s 3 t = 0) (b : Nat) : af s 0 b ≠ nI t := fun q => by
  have hT : nT s ≤ 32 := h.1.2.2
  rcases h.2.2.1.1 b with h4 | ⟨u, hu, e, hs⟩
  · exact m5_ne (n := t) (by omega) (q.symm.trans h4)
  · have := nIne (by omega) (by omega) (e.symm.trans q)
    rw [this, h0] at hs
    exact absurd hs (by decide)
theorem wf_sd {s : SP} (h : WF s) (d : Int32) : WF (wSd s d) := h
theorem wf_near {s : SP} (h : WF s) {a : Nat} (ha : a < na s) (h5 : af s 0 a = -5) {x : Int32} (hl : (rw_ s a).getLast? = some x) {t : Nat} (ht : t < nT s) (e : x = nI t) (k : Int32) : WF (eWk (ePop s a) a k t) := by
  subst e
  have ho := List.mem_of_getLast? hl
  have hr : ∀ b, rw_ (ePop s a) b = (rw_ s b).filter (fun y => y != nI t) := fun b => by
    unfold ePop
    by_cases hb : b = a
    · rw [hb, uA_rs, last_filter (h.2.1.1 a) hl]
    · rw [uA_ro _ _ _ _ _ hb, filter_notin (fun q => hb (h.2.1.2.1 b a _ q ho))]
  have hf : ∀ b, af (ePop s a) 0 b = af s 0 b := fun b => by
    unfold ePop
    rw [uA_f0]
    by_cases hb : b = a
    · rw [if_pos hb, hb]
    · rw [if_neg hb]
  have hc : ∀ b, na s ≤ b → af (ePop s a) 1 b = 0 ∧ af (ePop s a) 2 b = 0 := fun b hb => by
    obtain ⟨-, -, c3, c4⟩ := h.2.2.1.2.2.2 b hb
    have hba : b ≠ a := by omega
    unfold ePop
    rw [uA_ao _ _ _ _ _ _ hba, uA_ao _ _ _ _ _ _ hba]
    exact ⟨c3, c4⟩
  have g := wf_grab (s' := ePop s a) h ht ha h5 ho rfl rfl rfl rfl hr hf hc (af (ePop s a) 1 a) (af (ePop s a) 2 a)
  unfold eWk
  generalize ePop s a = s' at g ⊢
  exact wf_ent g (nI a) k (nI t)
theorem wf_far {s : SP} (h : WF s) {a o : Nat} (ha : a < na s) (h5 : af s 0 a = -5) {t : Nat} (ht : t < nT s) (ho : nI t ∈ rw_ s o) : WF (eStl s a o (nI t)) := by
  have hT : nT s ≤ 32 := h.1.2.2
  obtain ⟨u, hu, e, h0, -⟩ := h.2.1.2.2 o _ ho
  have := nIne (by omega) (by omega) e
  subst this
  have hx := wf_notArm h ht h0 o
  have hr : ∀ b, rw_ (eInc (dA s (nI t) o) a) b = (rw_ s b).filter (fun y => y != nI t) := fun b => (uA_r _ a _ _ _ b).trans (dA_r h.2.1 ho b)
  have hf : ∀ b, af (eInc (dA s (nI t) o) a) 0 b = af s 0 b := fun b => by
    unfold eInc
    rw [uA_f0, dA_f0 s _ o _ hx, dA_f0 s _ o _ hx]
    by_cases hb : b = a
    · rw [if_pos hb, hb]
    · rw [if_neg hb]
  have hc : ∀ b, na s ≤ b → af (eInc (dA s (nI t) o) a) 1 b = 0 ∧ af (eInc (dA s (nI t) o) a) 2 b = 0 := fun b hb => by
    obtain ⟨-, -, c3, c4⟩ := h.2.2.1.2.2.2 b hb
    have hba : b ≠ a := by omega
    unfold eInc
    rw [uA_ao _ _ _ _ _ _ hba, uA_ao _ _ _ _ _ _ hba, dA_f _ _ _ _ 1 (Or.inl rfl), dA_f _ _ _ _ 2 (Or.inr rfl)]
    exact ⟨c3, c4⟩
  have g := wf_grab (s' := eInc (dA s (nI t) o) a) h ht ha h5 ho rfl rfl rfl rfl hr hf hc (af (eInc (dA s (nI t) o) a) 1 a) (af (eInc (dA s (nI t) o) a) 2 a)
  unfold eStl
  rw [nI_clamp (by omega)]
  unfold eWk
  generalize eInc (dA s (nI t) o) a = s' at g ⊢
  exact wf_ent g (nI a) 1 (nI t)
theorem wf_idl {s : SP} (h : WF s) {a : Nat} (ha : a < na s) : WF (eIdl s a) := by
  have eR : rw_ (eIdl s a) = rw_ s := funext (fun b => uA_r s a _ _ _ b)
  have eA : ∀ b, af (eIdl s a) 0 b = af s 0 b := fun b => by
    unfold eIdl
    rw [uA_f0]
    by_cases hb : b = a
    · rw [if_pos hb, hb]
    · rw [if_neg hb]
  have eC : ∀ b f, b ≠ a → af (eIdl s a) f b = af s f b := fun b f hb => uA_ao _ _ _ _ _ _ hb
  obtain ⟨h1, hR, hA, hK, h5, h6, h7⟩ := h
  refine ⟨h1, ?_, ⟨fun b => by rw [eA]; exact hA.1 b, fun b c => by rw [eA, eA]; exact hA.2.1 b c, fun t ht hs => ?_, fun b hb => ?_⟩, hK, h5, h6, h7⟩
  · unfold WRow
    rw [eR]
    exact hR
  · obtain ⟨b, hb, e⟩ := hA.2.2.1 t ht hs
    exact ⟨b, hb, by rw [eA]; exact e⟩
  · have hba : b ≠ a := fun q => by
      have : na s ≤ b := hb
      omega
    rw [eR, eC b 0 hba, eC b 1 hba, eC b 2 hba]
    exact hA.2.2.2 b hb
theorem eDr_wSd (s : SP) (d : Int32) : rw_ (wSd s d) = rw_ s ∧ nT (wSd s d) = nT s ∧ na (wSd s d) = na s ∧ af (wSd s d) = af s ∧ (WF s → WF (wSd s d)) ∧ tf (wSd s d) = tf s := ⟨rfl, rfl, rfl, rfl, fun h => h, rfl⟩
theorem eDr_cases (s : SP) (a : Nat) : (eDr s a = (none, s)) ∨ ∃ o s', eDr s a = (some o, s') ∧ full s a o = true ∧ o < na s ∧ rw_ s' = rw_ s ∧ nT s' = nT s ∧ na s' = na s ∧ af s' = af s ∧ (WF s → WF s') ∧ tf s' = tf s := by
  unfold eDr
  by_cases hz : (fl s a (na s)).length = 0
  · rw [if_pos hz]
    exact Or.inl rfl
  · rw [if_neg hz]
    have hd := eDr_wSd s (sdN (sd s))
    generalize sdN (sd s) = d at hd ⊢
    generalize wSd s d = s' at hd ⊢
    have hidx : shN d % (fl s a (na s)).length < (fl s a (na s)).length := Nat.mod_lt _ (by omega)
    obtain ⟨o, ho⟩ : ∃ o, (fl s a (na s))[shN d % (fl s a (na s)).length]? = some o := ⟨_, List.getElem?_eq_getElem hidx⟩
    have hm := fl_mem s a (na s) o (List.mem_of_getElem? ho)
    exact Or.inr ⟨o, s', by rw [ho], hm.2, hm.1, hd.1, hd.2.1, hd.2.2.1, hd.2.2.2.1, hd.2.2.2.2.1, hd.2.2.2.2.2⟩
theorem eWk_k (s : SP) (a : Nat) (k : Int32) (t : Nat) : na (eWk s a k t) = na s ∧ nT (eWk s a k t) = nT s := ⟨rfl, rfl⟩
theorem ePop_k (s : SP) (a : Nat) : na (ePop s a) = na s ∧ nT (ePop s a) = nT s := ⟨rfl, rfl⟩
theorem eIdl_k (s : SP) (a : Nat) : na (eIdl s a) = na s ∧ nT (eIdl s a) = nT s := ⟨rfl, rfl⟩
theorem eInc_k (s : SP) (a : Nat) : na (eInc s a) = na s ∧ nT (eInc s a) = nT s := ⟨rfl, rfl⟩
theorem dA_k (s : SP) (x : Int32) (a : Nat) : na (dA s x a) = na s ∧ nT (dA s x a) = nT s := ⟨rfl, rfl⟩
theorem eStl_k (s : SP) (a o : Nat) (x : Int32) : na (eStl s a o x) = na s ∧ nT (eStl s a o x) = nT s := by
  unfold eStl
  rw [(eWk_k _ a 1 _).1, (eWk_k _ a 1 _).2, (eInc_k _ a).1, (eInc_k _ a).2, (dA_k s x o).1, (dA_k s x o).2]
  exact ⟨rfl, rfl⟩
theorem wf_takeFar {s : SP} (h : WF s) {a o : Nat} (ha : a < na s) (h5 : af s 0 a = -5) (hf : (rw_ s o).length ≠ 0) : WF (eStl s a o ((rw_ s o).headD (-5))) := by
  cases hr : rw_ s o with
  | nil => exact absurd (by rw [hr]; rfl) hf
  | cons x l =>
    have hx : x ∈ rw_ s o := by rw [hr]; exact List.mem_cons_self
    obtain ⟨t, ht, e, -⟩ := h.2.1.2.2 o x hx
    rw [List.headD_cons, e]
    exact wf_far h ha h5 ht (by rw [← e]; exact hx)
theorem wf_takeNear {s : SP} (h : WF s) {a : Nat} (ha : a < na s) (h5 : af s 0 a = -5) {x : Int32} (hl : (rw_ s a).getLast? = some x) : WF (eWk (ePop s a) a 0 x.toNatClampNeg) := by
  have hT : nT s ≤ 32 := h.1.2.2
  obtain ⟨t, ht, e, -⟩ := h.2.1.2.2 a x (List.mem_of_getLast? hl)
  have e' : x.toNatClampNeg = t := by rw [e]; exact nI_clamp (by omega)
  rw [e']
  exact wf_near h ha h5 hl ht e 0
theorem wf_take {s : SP} (h : WF s) {a : Nat} (ha : a < na s) (h5 : af s 0 a = -5) : WF (eTake s a) ∧ na (eTake s a) = na s ∧ nT (eTake s a) = nT s := by
  cases hl : (rw_ s a).getLast? with
  | some x =>
    rw [eTake_near hl]
    refine ⟨wf_takeNear h ha h5 hl, ?_, ?_⟩
    · rw [(eWk_k _ a 0 _).1, (ePop_k s a).1]
    · rw [(eWk_k _ a 0 _).2, (ePop_k s a).2]
  | none =>
    rcases eDr_cases s a with hd | ⟨o, s', hd, hf, -, k1, k2, k3, k4, k5, -⟩
    · rw [eTake_idle hl hd]
      exact ⟨wf_idl h ha, (eIdl_k s a).1, (eIdl_k s a).2⟩
    · rw [eTake_far hl hd]
      have hl0 := (full_iff.mp hf).2
      rw [← k1] at hl0
      refine ⟨wf_takeFar (k5 h) (by rw [k3]; exact ha) (by rw [k4]; exact h5) hl0, ?_, ?_⟩
      · rw [(eStl_k s' a o _).1, k3]
      · rw [(eStl_k s' a o _).2, k2]
