/-! ===== tasks come new ===== -/
def nwF (s : SP) (w mk ins : Int32) : Nat → Nat → Int32 := fun f t => if t = nT s then (if f = 0 then w else if f = 1 then w else if f = 2 then 0 else if f = 3 then 0 else if f = 4 then ins else if f = 5 then mk else if f = 6 then -5 else tf s f t) else tf s f t
def eNew (s : SP) (w mk ins : Int32) : SP := wT (wTf s (nwF s w mk ins)) (nT s + 1)
def eNews (s : SP) (wk mk ins : Nat → Int32) : Nat → SP
  | 0 => s
  | k + 1 => eNew (eNews s wk mk ins k) (wk k) (mk k) (ins k)
theorem new_k (s : SP) (w mk ins : Int32) : na (eNew s w mk ins) = na s ∧ nT (eNew s w mk ins) = nT s + 1 ∧ sd (eNew s w mk ins) = sd s ∧ rd (eNew s w mk ins) = rd s ∧ af (eNew s w mk ins) = af s ∧ rw_ (eNew s w mk ins) = rw_ s ∧ tr_ (eNew s w mk ins) = tr_ s ∧ lg (eNew s w mk ins) = lg s ∧ tol (eNew s w mk ins) = tol s ∧ tf (eNew s w mk ins) = nwF s w mk ins := ⟨rfl, rfl, rfl, rfl, rfl, rfl, rfl, rfl, rfl, rfl⟩
theorem nw_o (s : SP) (w mk ins : Int32) (f : Nat) {t : Nat} (h : t ≠ nT s) : nwF s w mk ins f t = tf s f t := if_neg h
theorem nw_0 (s : SP) (w mk ins : Int32) : nwF s w mk ins 0 (nT s) = w := if_pos rfl
theorem nw_1 (s : SP) (w mk ins : Int32) : nwF s w mk ins 1 (nT s) = w := if_pos rfl
theorem nw_2 (s : SP) (w mk ins : Int32) : nwF s w mk ins 2 (nT s) = 0 := if_pos rfl
theorem nw_3 (s : SP) (w mk ins : Int32) : nwF s w mk ins 3 (nT s) = 0 := if_pos rfl
theorem nw_4 (s : SP) (w mk ins : Int32) : nwF s w mk ins 4 (nT s) = ins := if_pos rfl
theorem nw_5 (s : SP) (w mk ins : Int32) : nwF s w mk ins 5 (nT s) = mk := if_pos rfl
theorem nw_6 (s : SP) (w mk ins : Int32) : nwF s w mk ins 6 (nT s) = -5 := if_pos rfl
theorem nw_prn {s : SP} (w mk ins : Int32) {t : Nat} (h : t ≠ nT s) : prn (nwF s w mk ins) t = prn (tf s) t := by
  unfold prn
  rw [nw_o s w mk ins 4 h]
theorem none_bind' {α β : Type} (f : α → Option β) : (none : Option α).bind f = none := rfl
theorem anc_zero' (f : Nat → Nat → Int32) (t : Nat) : anc f 0 t = some t := rfl
theorem anc_succ' (f : Nat → Nat → Int32) (k t : Nat) : anc f (k + 1) t = (prn f t).bind (anc f k) := rfl
theorem anc_ext {f g : Nat → Nat → Int32} {T : Nat} (h1 : ∀ t, t < T → prn f t = prn g t) (h2 : ∀ t p, t < T → prn g t = some p → p < T) : ∀ (k t : Nat), t < T → anc f k t = anc g k t := by
  intro k
  induction k with
  | zero => intro t _; rw [anc_zero', anc_zero']
  | succ k ih =>
    intro t ht
    rw [anc_succ', anc_succ', h1 t ht]
    cases hp : prn g t with
    | none => rw [none_bind', none_bind']
    | some p =>
      rw [some_bind, some_bind]
      exact ih p (h2 t p ht hp)
theorem nw_anc {s : SP} (hw : WFp (nT s) (tf s)) (hT : nT s ≤ 32) (w mk ins : Int32) (k t : Nat) (ht : t < nT s) : anc (nwF s w mk ins) k t = anc (tf s) k t := by
  refine anc_ext (T := nT s) (fun x hx => nw_prn w mk ins (Nat.ne_of_lt hx)) (fun x p hx hp => ?_) k t ht
  have := (prn_enc hw hT hx).2 p hp
  exact Nat.lt_trans this hx
theorem wf_new {s : SP} (h : WF s) (hT : nT s < 32) {w mk ins : Int32} (hv : ∃ v, 1 ≤ v ∧ v ≤ 9 ∧ w = nI v) (hi : ins = -5 ∨ ∃ p, p < nT s ∧ ins = nI p ∧ anc (tf s) 4 p = none) : WF (eNew s w mk ins) := by
  obtain ⟨h1, ⟨r1, r2, r3⟩, hA, ⟨k1, k2, k3, k4⟩, h5, h6, h7⟩ := h
  obtain ⟨eN, eT, -, -, eA, eR, -, -, eO, eF⟩ := new_k s w mk ins
  generalize eNew s w mk ins = s2 at eN eT eA eR eO eF ⊢
  have o : ∀ f t, t < nT s → tf s2 f t = tf s f t := fun f t ht => by rw [eF]; exact nw_o s w mk ins f (by omega)
  have pr : ∀ t, t < nT s → prn (tf s2) t = prn (tf s) t := fun t ht => by rw [eF]; exact nw_prn w mk ins (by omega)
  have an : ∀ k t, t < nT s → anc (tf s2) k t = anc (tf s) k t := fun k t ht => by rw [eF]; exact nw_anc k1 (by omega) w mk ins k t ht
  have up' : ∀ t, t < nT s → upE (fun _ => False) s t → upE (fun _ => False) s2 t := fun t ht hu => by
    refine Or.inr (fun p hp => ?_)
    rw [pr t ht] at hp
    have := (prn_enc k1 (by omega) ht).2 p hp
    rw [o 3 p (by omega)]
    exact (hu.resolve_left (fun q => q)) p hp
  refine ⟨⟨by rw [eN]; exact h1.1, by rw [eN]; exact h1.2.1, by rw [eT]; omega⟩, ⟨fun a => by rw [eR]; exact r1 a, fun a b x ha hb => r2 a b x (by rw [← eR]; exact ha) (by rw [← eR]; exact hb), fun a x hx => ?_⟩, ⟨fun a => ?_, fun a b => by rw [eA]; exact hA.2.1 a b, fun t ht hs => ?_, fun a ha => ?_⟩, ⟨fun t ht => ?_, fun t ht => ?_, fun t ht => ?_, fun t ht hs => ?_⟩, fun t ht => ?_, fun t ht => ?_, ?_⟩
  · rw [eR] at hx
    obtain ⟨t, ht, e, hs, hu⟩ := r3 a x hx
    exact ⟨t, by rw [eT]; omega, e, by rw [o 3 t ht]; exact hs, up' t ht hu⟩
  · rw [eA]
    rcases hA.1 a with q | ⟨t, ht, e, hs⟩
    · exact Or.inl q
    · exact Or.inr ⟨t, by rw [eT]; omega, e, by rw [o 3 t ht]; exact hs⟩
  · rw [eT] at ht
    by_cases htT : t = nT s
    · rw [htT, eF, nw_3] at hs
      exact absurd hs (by decide)
    · rw [o 3 t (by omega)] at hs
      obtain ⟨a, ha, e⟩ := hA.2.2.1 t (by omega) hs
      exact ⟨a, by rw [eN]; exact ha, by rw [eA]; exact e⟩
  · rw [eN] at ha
    rw [eR, eA]
    exact hA.2.2.2 a ha
  · rw [eT] at ht
    by_cases htT : t = nT s
    · rw [htT, eF, nw_4]
      rcases hi with q | ⟨p, p1, p2, -⟩
      · exact Or.inl q
      · exact Or.inr ⟨p, p1, p2⟩
    · rw [o 4 t (by omega)]
      exact k1 t (by omega)
  · rw [eT] at ht
    by_cases htT : t = nT s
    · show (prn (tf s2) t).bind (anc (tf s2) 4) = none
      have e4 : tf s2 4 t = ins := by rw [htT, eF, nw_4]
      rcases hi with q | ⟨p, p1, p2, p3⟩
      · have : prn (tf s2) t = none := by
          unfold prn
          rw [e4, q, if_pos (by decide)]
        rw [this]
        rfl
      · rw [prn_of (show p < 2 ^ 31 by omega) (e4.trans p2)]
        show anc (tf s2) 4 p = none
        rw [an 4 p p1]
        exact p3
    · rw [an 5 t (by omega)]
      exact k2 t (by omega)
  · rw [eT] at ht
    by_cases htT : t = nT s
    · rw [htT, eF, nw_3]
      exact Or.inl rfl
    · rw [o 3 t (by omega)]
      exact k3 t (by omega)
  · rw [eT] at ht
    by_cases htT : t = nT s
    · rw [htT, eF, nw_3] at hs
      rcases hs with q | q <;> exact absurd q (by decide)
    · rw [o 3 t (by omega)] at hs
      exact up' t (by omega) (k4 t (by omega) hs)
  · rw [eT] at ht
    rw [eT]
    by_cases htT : t = nT s
    · rw [htT, eF, nw_6]
      exact Or.inl rfl
    · rw [o 6 t (by omega), o 3 t (by omega)]
      rcases h5 t (by omega) with q | ⟨q, c, c1, c2, c3⟩
      · exact Or.inl q
      · exact Or.inr ⟨q, c, by omega, c2, c3⟩
  · rw [eT] at ht
    by_cases htT : t = nT s
    · rw [htT, eF, nw_0, nw_2]
      exact ⟨hv, 0, rfl, fun _ _ _ => Nat.zero_le _⟩
    · rw [o 0 t (by omega), o 2 t (by omega)]
      obtain ⟨a, w', b, c⟩ := h6 t (by omega)
      exact ⟨a, w', b, fun k q hq => c k q (by rw [an k t (by omega)] at hq; exact hq)⟩
  · obtain ⟨t1, t2, t3⟩ := h7
    unfold WTol
    rw [eO, eT]
    refine ⟨fun q hq => ?_, fun q hq => ?_, fun q hq => ?_⟩
    · obtain ⟨⟨t, a, b⟩, c⟩ := t1 q hq
      exact ⟨⟨t, by omega, b⟩, c⟩
    · rcases t2 q hq with a | ⟨a, t, b, c⟩ | a
      · exact Or.inl a
      · exact Or.inr (Or.inl ⟨a, t, by omega, c⟩)
      · exact Or.inr (Or.inr a)
    · obtain ⟨t, a, b⟩ := t3 q hq
      exact ⟨t, by omega, b⟩
theorem news_k (s : SP) (wk mk ins : Nat → Int32) : ∀ k, na (eNews s wk mk ins k) = na s ∧ nT (eNews s wk mk ins k) = nT s + k ∧ sd (eNews s wk mk ins k) = sd s ∧ rd (eNews s wk mk ins k) = rd s ∧ af (eNews s wk mk ins k) = af s ∧ rw_ (eNews s wk mk ins k) = rw_ s ∧ tr_ (eNews s wk mk ins k) = tr_ s ∧ lg (eNews s wk mk ins k) = lg s ∧ tol (eNews s wk mk ins k) = tol s := by
  intro k
  induction k with
  | zero => exact ⟨rfl, rfl, rfl, rfl, rfl, rfl, rfl, rfl, rfl⟩
  | succ k ih =>
    obtain ⟨a1, a2, a3, a4, a5, a6, a7, a8, a9⟩ := ih
    obtain ⟨b1, b2, b3, b4, b5, b6, b7, b8, b9, -⟩ := new_k (eNews s wk mk ins k) (wk k) (mk k) (ins k)
    exact ⟨b1.trans a1, by show nT (eNew (eNews s wk mk ins k) _ _ _) = _; rw [b2, a2]; omega, b3.trans a3, b4.trans a4, b5.trans a5, b6.trans a6, b7.trans a7, b8.trans a8, b9.trans a9⟩
theorem wf_news {s : SP} (h : WF s) (wk mk ins : Nat → Int32) (dp : Nat → Nat) {m : Nat} (hm : nT s + m ≤ 32) (hk : ∀ k, k < m → (∃ v, 1 ≤ v ∧ v ≤ 9 ∧ wk k = nI v) ∧ dp k ≤ 4 ∧ ((ins k = -5 ∧ dp k = 0) ∨ ∃ q, q < k ∧ ins k = nI (nT s + q) ∧ dp k = dp q + 1)) : ∀ k, k ≤ m → WF (eNews s wk mk ins k) ∧ ∀ q, q < k → anc (tf (eNews s wk mk ins k)) (dp q + 1) (nT s + q) = none := by
  intro k
  induction k with
  | zero => intro _; exact ⟨h, fun q hq => absurd hq (Nat.not_lt_zero q)⟩
  | succ k ih =>
    intro hkm
    obtain ⟨i1, i2⟩ := ih (by omega)
    have eT := (news_k s wk mk ins k).2.1
    obtain ⟨v1, v2, v3⟩ := hk k (by omega)
    generalize hs' : eNews s wk mk ins k = s' at i1 i2 eT
    have e : eNews s wk mk ins (k + 1) = eNew s' (wk k) (mk k) (ins k) := by rw [← hs']; rfl
    rw [e]
    have hw : WF (eNew s' (wk k) (mk k) (ins k)) := wf_new i1 (by omega) v1 (by
      rcases v3 with ⟨q, -⟩ | ⟨q, q1, q2, q3⟩
      · exact Or.inl q
      · refine Or.inr ⟨nT s + q, by omega, q2, ?_⟩
        have := anc_none (tf s') (i2 q q1) (4 - (dp q + 1))
        rw [show dp q + 1 + (4 - (dp q + 1)) = 4 by omega] at this
        exact this)
    refine ⟨hw, fun q hq => ?_⟩
    have an := nw_anc (wf_p i1) i1.1.2.2 (wk k) (mk k) (ins k)
    show anc (nwF s' (wk k) (mk k) (ins k)) (dp q + 1) (nT s + q) = none
    by_cases hqk : q = k
    · subst hqk
      show (prn (nwF s' (wk q) (mk q) (ins q)) (nT s + q)).bind (anc (nwF s' (wk q) (mk q) (ins q)) (dp q)) = none
      have e4 : nwF s' (wk q) (mk q) (ins q) 4 (nT s + q) = ins q := by rw [← eT]; exact nw_4 _ _ _ _
      rcases v3 with ⟨p1, p2⟩ | ⟨p, p1, p2, p3⟩
      · have : prn (nwF s' (wk q) (mk q) (ins q)) (nT s + q) = none := by
          unfold prn
          rw [e4, p1, if_pos (by decide)]
        rw [this]
        rfl
      · rw [prn_of (show nT s + p < 2 ^ 31 by omega) (e4.trans p2)]
        show anc (nwF s' (wk q) (mk q) (ins q)) (dp q) (nT s + p) = none
        rw [an _ _ (by omega), p3]
        exact i2 p p1
    · rw [an _ _ (by omega)]
      exact i2 q (by omega)
/-- a root comes to a row -/
def ePut (s : SP) (a t : Nat) : SP := uA s a (rw_ s a ++ [nI t]) (af s 0 a) (af s 1 a) (af s 2 a)
theorem wf_put {s : SP} (h : WF s) {t a : Nat} (ht : t < nT s) (ha : a < na s) (h0 : tf s 3 t = 0) (hp : prn (tf s) t = none) (hn : ∀ b, nI t ∉ rw_ s b) : WF (ePut s a t) := by
  obtain ⟨h1, ⟨r1, r2, r3⟩, hA, hK, hC, hW, hO⟩ := h
  have eN : na (ePut s a t) = na s := rfl
  have eT : nT (ePut s a t) = nT s := rfl
  have eO : tol (ePut s a t) = tol s := rfl
  have eF : tf (ePut s a t) = tf s := rfl
  have eR : ∀ b, rw_ (ePut s a t) b = if b = a then rw_ s a ++ [nI t] else rw_ s b := fun b => by
    unfold ePut
    by_cases hb : b = a
    · rw [if_pos hb, hb, uA_rs]
    · rw [if_neg hb, uA_ro _ _ _ _ _ hb]
  have eA : ∀ b, af (ePut s a t) 0 b = af s 0 b := fun b => by
    unfold ePut
    rw [uA_f0]
    by_cases hb : b = a
    · rw [if_pos hb, hb]
    · rw [if_neg hb]
  have eC : ∀ f b, b ≠ a → af (ePut s a t) f b = af s f b := fun f b hb => uA_ao s _ _ _ _ f hb
  generalize ePut s a t = s2 at eN eT eO eF eR eA eC ⊢
  have mem : ∀ b x, x ∈ rw_ s2 b → x ∈ rw_ s b ∨ (b = a ∧ x = nI t) := fun b x hx => by
    rw [eR] at hx
    by_cases hb : b = a
    · rw [if_pos hb] at hx
      rcases List.mem_append.mp hx with q | q
      · exact Or.inl (by rw [hb]; exact q)
      · exact Or.inr ⟨hb, List.mem_singleton.mp q⟩
    · rw [if_neg hb] at hx
      exact Or.inl hx
  refine ⟨by unfold WNum; rw [eT, eN]; exact h1, ⟨fun b => ?_, fun b c x hb hc => ?_, fun b x hx => ?_⟩, ⟨fun b => by rw [eA, eT, eF]; exact hA.1 b, fun b c => by rw [eA, eA]; exact hA.2.1 b c, fun x hx hs => ?_, fun b hb => ?_⟩, by unfold WTsk upE; rw [eT, eF]; exact hK, by unfold WCau; rw [eT, eF]; exact hC, by unfold WWor; rw [eT, eF]; exact hW, by unfold WTol; rw [eO, eT]; exact hO⟩
  · rw [eR]
    by_cases hb : b = a
    · rw [if_pos hb]
      refine List.nodup_append.mpr ⟨r1 a, List.nodup_cons.mpr ⟨(by intro q; cases q), List.nodup_nil⟩, fun x hx y hy hxy => ?_⟩
      rw [hxy, List.mem_singleton.mp hy] at hx
      exact hn a hx
    · rw [if_neg hb]
      exact r1 b
  · rcases mem b x hb with q | ⟨q1, q2⟩
    · rcases mem c x hc with p | ⟨p1, p2⟩
      · exact r2 b c x q p
      · rw [p2] at q
        exact absurd q (hn b)
    · rcases mem c x hc with p | ⟨p1, p2⟩
      · rw [q2] at p
        exact absurd p (hn c)
      · exact q1.trans p1.symm
  · unfold upE
    rw [eT, eF]
    rcases mem b x hx with q | ⟨q1, q2⟩
    · exact r3 b x q
    · exact ⟨t, ht, q2, h0, Or.inr (fun p q => by rw [hp] at q; cases q)⟩
  · rw [eT] at hx
    rw [eF] at hs
    obtain ⟨b, hb, e⟩ := hA.2.2.1 x hx hs
    exact ⟨b, by rw [eN]; exact hb, by rw [eA]; exact e⟩
  · rw [eN] at hb
    have hba : b ≠ a := by omega
    rw [eR, if_neg hba, eC 0 b hba, eC 1 b hba, eC 2 b hba]
    exact hA.2.2.2 b hb
theorem tas_add {I : IS} {s : SP} (h : RTa I (nT s) (tf s)) (hT : nT s < 32) (w mk ins : Int32) : ∃ q, f_X4_add w mk ins I = some q ∧ RTa q (nT s + 1) (nwF s w mk ins) := by
  have e8 : I 0 8 = nI (nT s) := h.1
  have co : okI (nI (nT s)) 32 = true := okI_nI hT (by omega)
  have c32 : ¬ (32 : Int32) ≤ nI (nT s) := nI_ge (b := 32) hT (by omega)
  have z : ∀ (X : IS) (i : Nat) (v : Int32), i ≠ 0 → u2 X i (nT s) v 0 = X 0 := fun X i v hi => u2_oth _ _ _ (Ne.symm hi)
  refine ⟨u2 (u2 (u2 (u2 (u2 (u2 (u2 (u2 I 1 (nT s) w) 2 (nT s) w) 3 (nT s) 0) 4 (nT s) 0) 5 (nT s) ins) 6 (nT s) mk) 7 (nT s) (-5)) 0 8 (nI (nT s + 1)), ?_, u2_eq _ _ _ _, by omega, fun f hf t ht => ?_⟩
  · have y : ∀ (X : IS), X 0 = I 0 → X 0 8 = nI (nT s) := fun X hX => by rw [hX, e8]
    have z1 := z I 1 w (by omega)
    have z2 := (z (u2 I 1 (nT s) w) 2 w (by omega)).trans z1
    have z3 := (z (u2 (u2 I 1 (nT s) w) 2 (nT s) w) 3 0 (by omega)).trans z2
    have z4 := (z (u2 (u2 (u2 I 1 (nT s) w) 2 (nT s) w) 3 (nT s) 0) 4 0 (by omega)).trans z3
    have z5 := (z (u2 (u2 (u2 (u2 I 1 (nT s) w) 2 (nT s) w) 3 (nT s) 0) 4 (nT s) 0) 5 ins (by omega)).trans z4
    have z6 := (z (u2 (u2 (u2 (u2 (u2 I 1 (nT s) w) 2 (nT s) w) 3 (nT s) 0) 4 (nT s) 0) 5 (nT s) ins) 6 mk (by omega)).trans z5
    have z7 := (z (u2 (u2 (u2 (u2 (u2 (u2 I 1 (nT s) w) 2 (nT s) w) 3 (nT s) 0) 4 (nT s) 0) 5 (nT s) ins) 6 (nT s) mk) 7 (-5) (by omega)).trans z6
    rw [f_X4_add, e8, if_neg c32, if_pos co, nI_clamp (by omega), y _ z1, if_pos co, some_bind, nI_clamp (by omega), y _ z2, if_pos co, nI_clamp (by omega), y _ z3, if_pos co, some_bind, nI_clamp (by omega), y _ z4, if_pos co, nI_clamp (by omega), y _ z5, if_pos co, some_bind, nI_clamp (by omega), y _ z6, if_pos co, nI_clamp (by omega), y _ z7, nI_1, some_bind]
  · have old : t ≠ nT s → I (f + 1) t = tf s f t := fun hn => h.2.2 f hf t (by omega)
    by_cases htT : t = nT s
    · rw [htT]
      match f, hf with
      | 0, _ => rw [nw_0]; simp [u2_ap]
      | 1, _ => rw [nw_1]; simp [u2_ap]
      | 2, _ => rw [nw_2]; simp [u2_ap]
      | 3, _ => rw [nw_3]; simp [u2_ap]
      | 4, _ => rw [nw_4]; simp [u2_ap]
      | 5, _ => rw [nw_5]; simp [u2_ap]
      | 6, _ => rw [nw_6]; simp [u2_ap]
      | f + 7, hf => exact absurd hf (by omega)
    · rw [nw_o s w mk ins f htT, ← old htT]
      rw [u2_oth _ _ _ (show f + 1 ≠ 0 by omega)]
      simp only [u2_ne _ _ (Or.inr htT)]
