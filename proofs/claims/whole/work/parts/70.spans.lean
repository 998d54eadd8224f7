/-! ===== spans and sums of all below ===== -/
theorem sm_add (f g : Nat → Int32) : ∀ n, sm (fun u => f u + g u) n = sm f n + sm g n := by
  intro n
  induction n with
  | zero => rfl
  | succ n ih =>
    show sm (fun u => f u + g u) n + (f n + g n) = (sm f n + f n) + (sm g n + g n)
    rw [ih, Int32.add_assoc, Int32.add_assoc, ← Int32.add_assoc (sm g n) (f n) (g n), Int32.add_comm (sm g n) (f n), Int32.add_assoc (f n)]
theorem sm_one {f : Nat → Int32} {t : Nat} : ∀ n, t < n → sm (fun u => if u = t then f u else 0) n = f t := by
  intro n
  induction n with
  | zero => intro h; omega
  | succ n ih =>
    intro h
    show sm (fun u => if u = t then f u else 0) n + (if n = t then f n else 0) = f t
    by_cases c : n = t
    · rw [if_pos c, sm_low n (fun k hk => if_neg (by omega)), Int32.zero_add, c]
    · rw [if_neg c, ih (by omega), Int32.add_zero]
theorem anc_add (f : Nat → Nat → Int32) : ∀ (k m u : Nat), anc f (k + m) u = (anc f k u).bind (anc f m) := by
  intro k
  induction k with
  | zero =>
    intro m u
    rw [Nat.zero_add]
    rfl
  | succ k ih =>
    intro m u
    rw [show k + 1 + m = (k + m) + 1 by omega]
    show (prn f u).bind (anc f (k + m)) = ((prn f u).bind (anc f k)).bind (anc f m)
    cases prn f u with
    | none => rfl
    | some p => exact ih m p
theorem anc_sib {s : SP} (hw : WFp (nT s) (tf s)) (hT : nT s ≤ 32) {u c t p : Nat} (hu : u < nT s) (hc : belE s c u = true) (ht : belE s t u = true) (pc : prn (tf s) c = some p) (pt : prn (tf s) t = some p) : c = t := by
  obtain ⟨k1, e1⟩ := belE_iff.mp hc
  obtain ⟨k2, e2⟩ := belE_iff.mp ht
  have low : ∀ (k1 k2 c t : Nat), anc (tf s) k1 u = some c → anc (tf s) k2 u = some t → prn (tf s) c = some p → prn (tf s) t = some p → k1 ≤ k2 → c = t := by
    intro k1 k2 c t e1 e2 pc pt hk
    have hcT : c < nT s := by
      have := anc_lt hw hT k1 u c hu e1
      omega
    have htT : t < nT s := by
      have := anc_lt hw hT k2 u t hu e2
      omega
    rw [show k2 = k1 + (k2 - k1) by omega, anc_add, e1] at e2
    have e2 : anc (tf s) (k2 - k1) c = some t := e2
    cases hm : k2 - k1 with
    | zero =>
      rw [hm] at e2
      exact Option.some.inj e2
    | succ m =>
      rw [hm] at e2
      have e2 : (prn (tf s) c).bind (anc (tf s) m) = some t := e2
      rw [pc] at e2
      have h1 := (prn_enc hw hT htT).2 p pt
      have h2 := (prn_enc hw hT hcT).2 p pc
      have h3 := anc_lt hw hT m p t (by omega) e2
      omega
  by_cases hk : k1 ≤ k2
  · exact low k1 k2 c t e1 e2 pc pt hk
  · exact (low k2 k1 t c e2 e1 pt pc (by omega)).symm
def Cj (s : SP) (j x u : Nat) : Prop := ∃ c, j ≤ c ∧ c < nT s ∧ prn (tf s) c = some x ∧ belE s c u = true
noncomputable def al (s : SP) (j x : Nat) : Int32 := sm (fun u => if pB (Cj s j x u) = true then tf s 0 u else 0) (nT s)
theorem al_end (s : SP) (x : Nat) : al s (nT s) x = 0 :=
  sm_low _ (fun k _ => if_neg (fun q => by
    obtain ⟨c, h1, h2, -⟩ := pB_iff.mp q
    omega))
theorem al_same {s : SP} {t x : Nat} (h : ∀ p, prn (tf s) t = some p → x ≠ p) : al s t x = al s (t + 1) x := by
  refine sm_congr _ (fun u _ => ?_)
  have e : Cj s t x u ↔ Cj s (t + 1) x u := by
    constructor
    · rintro ⟨c, c1, c2, c3, c4⟩
      have : c ≠ t := fun q => by
        rw [q] at c3
        exact h x c3 rfl
      exact ⟨c, by omega, c2, c3, c4⟩
    · rintro ⟨c, c1, c2, c3, c4⟩
      exact ⟨c, by omega, c2, c3, c4⟩
  by_cases c : Cj s t x u
  · rw [if_pos (pB_iff.mpr c), if_pos (pB_iff.mpr (e.mp c))]
  · rw [if_neg (fun q => c (pB_iff.mp q)), if_neg (fun q => c (e.mpr (pB_iff.mp q)))]
theorem al_self {s : SP} (hw : WFp (nT s) (tf s)) (hT : nT s ≤ 32) {t : Nat} (ht : t < nT s) : sm (fun u => if belE s t u = true then tf s 0 u else 0) (nT s) = tf s 0 t + al s (t + 1) t := by
  rw [← sm_one (f := tf s 0) (t := t) (nT s) ht]
  unfold al
  rw [← sm_add]
  refine sm_congr _ (fun u hu => ?_)
  have hCt : ¬ Cj s (t + 1) t t := fun ⟨c, c1, c2, c3, c4⟩ => by
    obtain ⟨k, hk⟩ := belE_iff.mp c4
    have := anc_lt hw hT k t c ht hk
    omega
  by_cases hut : u = t
  · rw [if_pos ((belE_step s t u).mpr (Or.inl hut)), if_pos hut, if_neg (fun q => hCt (by
      have := pB_iff.mp q
      rw [hut] at this
      exact this)), Int32.add_zero]
  · rw [if_neg hut, Int32.zero_add]
    have e : belE s t u = true ↔ Cj s (t + 1) t u := by
      constructor
      · intro q
        obtain ⟨k, hk⟩ := belE_iff.mp q
        cases k with
        | zero =>
          have hk : some u = some t := hk
          exact absurd (Option.some.inj hk) hut
        | succ k =>
          rw [anc_succ] at hk
          cases hc : anc (tf s) k u with
          | none => rw [hc] at hk; cases hk
          | some c =>
            rw [hc] at hk
            have hk : prn (tf s) c = some t := hk
            have h1 := anc_lt hw hT k u c hu hc
            have h2 := (prn_enc hw hT (t := c) (by omega)).2 t hk
            exact ⟨c, by omega, by omega, hk, belE_iff.mpr ⟨k, hc⟩⟩
      · rintro ⟨c, c1, c2, c3, c4⟩
        obtain ⟨k, hk⟩ := belE_iff.mp c4
        exact belE_iff.mpr ⟨k + 1, by rw [anc_succ, hk]; exact c3⟩
    by_cases c : belE s t u = true
    · rw [if_pos c, if_pos (pB_iff.mpr (e.mp c))]
    · rw [if_neg c, if_neg (fun q => c (e.mpr (pB_iff.mp q)))]
theorem al_step {s : SP} (hw : WFp (nT s) (tf s)) (hT : nT s ≤ 32) {t p : Nat} (ht : t < nT s) (hp : prn (tf s) t = some p) : al s t p = al s (t + 1) p + (tf s 0 t + al s (t + 1) t) := by
  rw [← al_self hw hT ht]
  unfold al
  rw [← sm_add]
  refine sm_congr _ (fun u hu => ?_)
  by_cases c : belE s t u = true
  · have h1 : Cj s t p u := ⟨t, Nat.le_refl _, ht, hp, c⟩
    have h2 : ¬ Cj s (t + 1) p u := fun ⟨c', c1, c2, c3, c4⟩ => by
      have := anc_sib hw hT hu c4 c c3 hp
      omega
    rw [if_pos (pB_iff.mpr h1), if_neg (fun q => h2 (pB_iff.mp q)), if_pos c, Int32.zero_add]
  · rw [if_neg c, Int32.add_zero]
    have e : Cj s t p u ↔ Cj s (t + 1) p u := by
      constructor
      · rintro ⟨c', c1, c2, c3, c4⟩
        have : c' ≠ t := fun q => c (by rw [← q]; exact c4)
        exact ⟨c', by omega, c2, c3, c4⟩
      · rintro ⟨c', c1, c2, c3, c4⟩
        exact ⟨c', by omega, c2, c3, c4⟩
    by_cases c' : Cj s t p u
    · rw [if_pos (pB_iff.mpr c'), if_pos (pB_iff.mpr (e.mp c'))]
    · rw [if_neg (fun q => c' (pB_iff.mp q)), if_neg (fun q => c' (e.mpr (pB_iff.mp q)))]
theorem al_zero {s : SP} (hw : WFp (nT s) (tf s)) (hT : nT s ≤ 32) (x : Nat) : al s 0 x = sm (fun u => if bel s x u = true then tf s 0 u else 0) (nT s) := by
  refine sm_congr _ (fun u hu => ?_)
  have e : Cj s 0 x u ↔ bel s x u = true := by
    constructor
    · rintro ⟨c, c1, c2, c3, c4⟩
      obtain ⟨k, hk⟩ := belE_iff.mp c4
      exact bel_iff.mpr ⟨k, by rw [anc_succ, hk]; exact c3⟩
    · intro q
      obtain ⟨k, hk⟩ := bel_iff.mp q
      rw [anc_succ] at hk
      cases hc : anc (tf s) k u with
      | none => rw [hc] at hk; cases hk
      | some c =>
        rw [hc] at hk
        have h1 := anc_lt hw hT k u c hu hc
        exact ⟨c, by omega, by omega, hk, belE_iff.mpr ⟨k, hc⟩⟩
  by_cases c : Cj s 0 x u
  · rw [if_pos (pB_iff.mpr c), if_pos (e.mp c)]
  · rw [if_neg (fun q => c (pB_iff.mp q)), if_neg (fun q => c (e.mpr q))]
/-- the longest below, as far as those from j on tell: by how many are told -/
def ls (s : SP) : Nat → Nat → Int32
  | 0 => fun _ => 0
  | d + 1 => match prn (tf s) (nT s - 1 - d) with
    | none => ls s d
    | some p => fun x => if x = p then (if ls s d p < tf s 0 (nT s - 1 - d) + ls s d (nT s - 1 - d) then tf s 0 (nT s - 1 - d) + ls s d (nT s - 1 - d) else ls s d p) else ls s d x
theorem ls_none {s : SP} {d : Nat} (h : prn (tf s) (nT s - 1 - d) = none) : ls s (d + 1) = ls s d := by
  show (match prn (tf s) (nT s - 1 - d) with | none => ls s d | some p => _) = _
  rw [h]
theorem ls_some {s : SP} {d p : Nat} (h : prn (tf s) (nT s - 1 - d) = some p) (x : Nat) : ls s (d + 1) x = if x = p then (if ls s d p < tf s 0 (nT s - 1 - d) + ls s d (nT s - 1 - d) then tf s 0 (nT s - 1 - d) + ls s d (nT s - 1 - d) else ls s d p) else ls s d x := by
  show (match prn (tf s) (nT s - 1 - d) with | none => ls s d | some p => _) x = _
  rw [h]
theorem ls_stay {s : SP} (hw : WFp (nT s) (tf s)) (hT : nT s ≤ 32) {x : Nat} (hx : x < nT s) : ∀ e, nT s - 1 - x + e ≤ nT s → ls s (nT s - 1 - x + e) x = ls s (nT s - 1 - x) x := by
  intro e
  induction e with
  | zero => intro _; rfl
  | succ e ih =>
    intro he
    rw [← ih (by omega)]
    show ls s ((nT s - 1 - x + e) + 1) x = ls s (nT s - 1 - x + e) x
    cases hp : prn (tf s) (nT s - 1 - (nT s - 1 - x + e)) with
    | none => rw [ls_none hp]
    | some p =>
      have := (prn_enc hw hT (t := nT s - 1 - (nT s - 1 - x + e)) (by omega)).2 p hp
      rw [ls_some hp, if_neg (by omega)]
theorem m_lay {W : Prop} {B : BS} {I : IS} {s : SP} (h : RMo W B I s) (b1 : B 22 = none) (b2 : B 29 = none) (b3 : B 30 = none) (hw : WF s) : ∃ J, f_X8_laySpans I = some J ∧ RMo W B J s ∧ ∀ x, x < nT s → J 29 x = tf s 0 x + ls s (nT s) x ∧ J 30 x = tf s 0 x + al s 0 x := by
  have hT : nT s ≤ 32 := hw.1.2.2
  have hp4 := wf_p hw
  have second : ∀ I1 : IS, (∀ i, i ≠ 29 → i ≠ 30 → I1 i = I i) → (∀ x, x < nT s → I1 29 x = 0 ∧ I1 30 x = 0) → ∃ J, f_X8_laySpans_b37 LF (nI (nT s) - 1) I1 = some J ∧ RMo W B J s ∧ ∀ x, x < nT s → J 29 x = tf s 0 x + ls s (nT s) x ∧ J 30 x = tf s 0 x + al s 0 x := fun I1 g1 g2 => by
    have key := loop_inv (fun fu d (J : IS) => f_X8_laySpans_b37 fu (nI (nT s - d) - 1) J) (nT s) (fun d J => (∀ i, i ≠ 29 → i ≠ 30 → J i = I i) ∧ ∀ x, x < nT s → J 29 x = (if nT s - d ≤ x then tf s 0 x + ls s d x else ls s d x) ∧ J 30 x = (if nT s - d ≤ x then tf s 0 x + al s (nT s - d) x else al s (nT s - d) x)) (fun J => RMo W B J s ∧ ∀ x, x < nT s → J 29 x = tf s 0 x + ls s (nT s) x ∧ J 30 x = tf s 0 x + al s 0 x) (fun fu J hJ => by
      obtain ⟨j1, j2⟩ := hJ
      refine ⟨J, ?_, mo_below h b1 b2 b3 (fun i _ h2 h3 => j1 i h2 h3), fun x hx => ?_⟩
      · show f_X8_laySpans_b37 (fu + 1) (nI (nT s - nT s) - 1) J = _
        rw [Nat.sub_self, f_X8_laySpans_b37, if_pos (by decide)]
      · have := j2 x hx
        rw [Nat.sub_self, if_pos (Nat.zero_le x), if_pos (Nat.zero_le x)] at this
        exact this) (fun fu d J hd hJ => by
      obtain ⟨j1, j2⟩ := hJ
      have et : nI (nT s - d) - 1 = nI (nT s - 1 - d) := by
        have := nI_s1 (nT s - 1 - d)
        rw [show nT s - 1 - d + 1 = nT s - d by omega] at this
        exact this
      have et' : nI (nT s - 1 - d) + (-1) = nI (nT s - (d + 1)) - 1 := by
        rw [show nT s - (d + 1) = nT s - 1 - d by omega]
        exact (Int32.sub_eq_add_neg _ _).symm
      have ejd : nT s - d = (nT s - 1 - d) + 1 := by omega
      have ejd' : nT s - (d + 1) = nT s - 1 - d := by omega
      have lsN := fun (q : prn (tf s) (nT s - 1 - d) = none) => ls_none q
      have lsS := fun (p : Nat) (q : prn (tf s) (nT s - 1 - d) = some p) => ls_some q
      rw [ejd] at j2
      have j2' := j2
      generalize ht : nT s - 1 - d = t at et et' ejd ejd' lsN lsS j2 j2'
      have htT : t < nT s := by omega
      have co : okI (nI t) 32 = true := okI_nI (by omega) (by omega)
      obtain ⟨v1, v2⟩ := j2 t htT
      rw [if_neg (by omega)] at v1 v2
      have e7 : J 7 t = tf s 0 t := by rw [j1 7 (by omega) (by omega)]; exact h.2.2.1.2.2 0 (by omega) t htT
      have e10 : J 10 t = tf s 4 t := by rw [j1 10 (by omega) (by omega)]; exact h.2.2.1.2.2 4 (by omega) t htT
      have pe := prn_enc hp4 hT htT
      -- own work added
      have eX : u2 (u2 J 29 t (J 29 t + J 7 t)) 30 t (u2 J 29 t (J 29 t + J 7 t) 30 t + u2 J 29 t (J 29 t + J 7 t) 7 t) = u2 (u2 J 29 t (tf s 0 t + ls s d t)) 30 t (tf s 0 t + al s (t + 1) t) := by
        rw [u2_oth _ _ _ (show 30 ≠ 29 by omega), u2_oth _ _ _ (show 7 ≠ 29 by omega), v1, v2, e7, Int32.add_comm (ls s d t), Int32.add_comm (al s (t + 1) t)]
      have hd0 : f_X8_laySpans_b37 (fu + 1) (nI (nT s - d) - 1) J = (if (u2 (u2 J 29 t (tf s 0 t + ls s d t)) 30 t (tf s 0 t + al s (t + 1) t)) 10 t < 0 then f_X8_laySpans_b133 (f_X8_laySpans_b37 fu) (nI t) (u2 (u2 J 29 t (tf s 0 t + ls s d t)) 30 t (tf s 0 t + al s (t + 1) t)) else (if okI ((u2 (u2 J 29 t (tf s 0 t + ls s d t)) 30 t (tf s 0 t + al s (t + 1) t)) 10 t) 32 = true then (if (u2 (u2 J 29 t (tf s 0 t + ls s d t)) 30 t (tf s 0 t + al s (t + 1) t)) 29 t ≤ (u2 (u2 J 29 t (tf s 0 t + ls s d t)) 30 t (tf s 0 t + al s (t + 1) t)) 29 ((u2 (u2 J 29 t (tf s 0 t + ls s d t)) 30 t (tf s 0 t + al s (t + 1) t)) 10 t).toNatClampNeg then (if okI ((u2 (u2 J 29 t (tf s 0 t + ls s d t)) 30 t (tf s 0 t + al s (t + 1) t)) 10 t) 32 = true then f_X8_laySpans_b117 (f_X8_laySpans_b37 fu) (nI t) ((u2 (u2 J 29 t (tf s 0 t + ls s d t)) 30 t (tf s 0 t + al s (t + 1) t)) 10 t) ((u2 (u2 J 29 t (tf s 0 t + ls s d t)) 30 t (tf s 0 t + al s (t + 1) t)) 10 t) ((u2 (u2 J 29 t (tf s 0 t + ls s d t)) 30 t (tf s 0 t + al s (t + 1) t)) 29 ((u2 (u2 J 29 t (tf s 0 t + ls s d t)) 30 t (tf s 0 t + al s (t + 1) t)) 10 t).toNatClampNeg) (u2 (u2 J 29 t (tf s 0 t + ls s d t)) 30 t (tf s 0 t + al s (t + 1) t)) else none) else f_X8_laySpans_b117 (f_X8_laySpans_b37 fu) (nI t) ((u2 (u2 J 29 t (tf s 0 t + ls s d t)) 30 t (tf s 0 t + al s (t + 1) t)) 10 t) ((u2 (u2 J 29 t (tf s 0 t + ls s d t)) 30 t (tf s 0 t + al s (t + 1) t)) 10 t) ((u2 (u2 J 29 t (tf s 0 t + ls s d t)) 30 t (tf s 0 t + al s (t + 1) t)) 29 t) (u2 (u2 J 29 t (tf s 0 t + ls s d t)) 30 t (tf s 0 t + al s (t + 1) t))) else none)) := by
        rw [et, f_X8_laySpans_b37, if_neg (nI_lt0 (by omega)), if_pos co, if_pos co, if_pos co, if_pos co, if_pos co, if_pos co, nI_clamp (by omega), eX, some_bind, if_pos co, if_pos co, if_pos co]
      have X29 : ∀ x, (u2 (u2 J 29 t (tf s 0 t + ls s d t)) 30 t (tf s 0 t + al s (t + 1) t)) 29 x = if x = t then tf s 0 t + ls s d t else J 29 x := fun x => by
        rw [u2_oth _ _ _ (show 29 ≠ 30 by omega), u2_ap]
        by_cases hx : x = t
        · rw [if_pos ⟨rfl, hx⟩, if_pos hx]
        · rw [if_neg (fun q => hx q.2), if_neg hx]
      have X30 : ∀ x, (u2 (u2 J 29 t (tf s 0 t + ls s d t)) 30 t (tf s 0 t + al s (t + 1) t)) 30 x = if x = t then tf s 0 t + al s (t + 1) t else J 30 x := fun x => by
        rw [u2_ap, u2_oth _ _ _ (show 30 ≠ 29 by omega)]
        by_cases hx : x = t
        · rw [if_pos ⟨rfl, hx⟩, if_pos hx]
        · rw [if_neg (fun q => hx q.2), if_neg hx]
      have Xo : ∀ i, i ≠ 29 → i ≠ 30 → (u2 (u2 J 29 t (tf s 0 t + ls s d t)) 30 t (tf s 0 t + al s (t + 1) t)) i = I i := fun i h1 h2 => by
        rw [u2_oth _ _ _ h2, u2_oth _ _ _ h1]
        exact j1 i h1 h2
      have X10 : (u2 (u2 J 29 t (tf s 0 t + ls s d t)) 30 t (tf s 0 t + al s (t + 1) t)) 10 t = tf s 4 t := by
        rw [Xo 10 (by omega) (by omega)]
        exact h.2.2.1.2.2 4 (by omega) t htT
      rw [X10] at hd0
      generalize u2 (u2 J 29 t (tf s 0 t + ls s d t)) 30 t (tf s 0 t + al s (t + 1) t) = X at hd0 X29 X30 Xo
      show ∃ J', _ ∧ f_X8_laySpans_b37 (fu + 1) (nI (nT s - d) - 1) J = f_X8_laySpans_b37 fu (nI (nT s - (d + 1)) - 1) J'
      rw [hd0]
      cases hpr : prn (tf s) t with
      | none =>
        have e5 : tf s 4 t = -5 := by rw [pe.1, hpr]; rfl
        refine ⟨X, ⟨Xo, fun x hx => ?_⟩, ?_⟩
        · rw [ejd', lsN hpr, X29, X30, al_same (t := t) (fun p q => by rw [hpr] at q; cases q)]
          obtain ⟨w1, w2⟩ := j2 x hx
          by_cases hxt : x = t
          · rw [if_pos hxt, if_pos hxt, hxt, if_pos (Nat.le_refl _), if_pos (Nat.le_refl _)]
            exact ⟨rfl, rfl⟩
          · rw [if_neg hxt, if_neg hxt, w1, w2]
            by_cases hx2 : t + 1 ≤ x
            · rw [if_pos hx2, if_pos hx2, if_pos (by omega), if_pos (by omega)]
              exact ⟨rfl, rfl⟩
            · rw [if_neg hx2, if_neg hx2, if_neg (by omega), if_neg (by omega)]
              exact ⟨rfl, rfl⟩
        · rw [e5, if_pos (by decide), f_X8_laySpans_b133, et']
      | some p =>
        have ep : tf s 4 t = nI p := by rw [pe.1, hpr]; rfl
        have hpt := pe.2 p hpr
        have cp : okI (nI p) 32 = true := okI_nI (by omega) (by omega)
        obtain ⟨y1, y2⟩ := j2 p (by omega)
        rw [if_neg (by omega)] at y1 y2
        have x29t : X 29 t = tf s 0 t + ls s d t := by rw [X29, if_pos rfl]
        have x29p : X 29 p = ls s d p := by rw [X29, if_neg (by omega), y1]
        have x30t : X 30 t = tf s 0 t + al s (t + 1) t := by rw [X30, if_pos rfl]
        have x30p : X 30 p = al s (t + 1) p := by rw [X30, if_neg (by omega), y2]
        have b117 : ∀ v : Int32, f_X8_laySpans_b117 (f_X8_laySpans_b37 fu) (nI t) (nI p) (nI p) v X = f_X8_laySpans_b37 fu (nI (nT s - (d + 1)) - 1) (u2 (u2 X 29 p v) 30 p (al s t p)) := fun v => by
          rw [f_X8_laySpans_b117, if_pos cp, if_pos cp, if_pos co, if_pos cp, nI_clamp (by omega), nI_clamp (by omega), u2_oth _ _ _ (show 30 ≠ 29 by omega), x30p, x30t, ← al_step hp4 hT htT hpr, some_bind, f_X8_laySpans_b133, et']
        have inv : ∀ v : Int32, v = (if ls s d p < tf s 0 t + ls s d t then tf s 0 t + ls s d t else ls s d p) → (∀ i, i ≠ 29 → i ≠ 30 → u2 (u2 X 29 p v) 30 p (al s t p) i = I i) ∧ ∀ x, x < nT s → u2 (u2 X 29 p v) 30 p (al s t p) 29 x = (if nT s - (d + 1) ≤ x then tf s 0 x + ls s (d + 1) x else ls s (d + 1) x) ∧ u2 (u2 X 29 p v) 30 p (al s t p) 30 x = (if nT s - (d + 1) ≤ x then tf s 0 x + al s (nT s - (d + 1)) x else al s (nT s - (d + 1)) x) := fun v hv => by
          refine ⟨fun i h1 h2 => by rw [u2_oth _ _ _ h2, u2_oth _ _ _ h1]; exact Xo i h1 h2, fun x hx => ?_⟩
          rw [ejd', lsS p hpr x, u2_oth _ _ _ (show 29 ≠ 30 by omega)]
          by_cases hxp : x = p
          · have c1 : ¬ t ≤ p := by omega
            rw [hxp, u2_eq, u2_eq, if_neg c1, if_pos rfl, if_neg c1, hv]
            exact ⟨rfl, rfl⟩
          · rw [u2_ne _ _ (Or.inr hxp), u2_ne _ _ (Or.inr hxp), u2_oth _ _ _ (show 30 ≠ 29 by omega), if_neg hxp, X29, X30, al_same (t := t) (x := x) (fun p' q => by
              rw [hpr] at q
              cases q
              exact hxp)]
            obtain ⟨w1, w2⟩ := j2 x hx
            by_cases hxt : x = t
            · rw [if_pos hxt, if_pos hxt, hxt, if_pos (Nat.le_refl _), if_pos (Nat.le_refl _)]
              exact ⟨rfl, rfl⟩
            · rw [if_neg hxt, if_neg hxt, w1, w2]
              by_cases hx2 : t + 1 ≤ x
              · rw [if_pos hx2, if_pos hx2, if_pos (by omega), if_pos (by omega)]
                exact ⟨rfl, rfl⟩
              · rw [if_neg hx2, if_neg hx2, if_neg (by omega), if_neg (by omega)]
                exact ⟨rfl, rfl⟩
        rw [ep, if_neg (nI_lt0 (by omega)), if_pos cp, nI_clamp (by omega), x29t, x29p, if_pos cp, b117, b117]
        by_cases cl : tf s 0 t + ls s d t ≤ ls s d p
        · rw [if_pos cl]
          refine ⟨_, inv _ ?_, rfl⟩
          rw [if_neg (fun q => not_le_lt q cl)]
        · rw [if_neg cl]
          refine ⟨_, inv _ ?_, rfl⟩
          rw [if_pos]
          rw [lt_iff32]
          rw [le_iff32] at cl
          omega) (nT s) 0 LF I1 (by omega) (by unfold LF; omega) ⟨g1, fun x hx => by
      rw [Nat.sub_zero, if_neg (by omega), if_neg (by omega), al_end]
      exact g2 x hx⟩
    exact key
  have key := loop_inv (fun fu j (J : IS) => f_X8_laySpans_b2 fu (nI j) J) (nT s) (fun j J => (∀ i, i ≠ 29 → i ≠ 30 → J i = I i) ∧ ∀ x, x < j → J 29 x = 0 ∧ J 30 x = 0) (fun J => RMo W B J s ∧ ∀ x, x < nT s → J 29 x = tf s 0 x + ls s (nT s) x ∧ J 30 x = tf s 0 x + al s 0 x) (fun fu J hJ => by
    have e6 : J 0 6 = nI (nT s) := by rw [hJ.1 0 (by omega) (by omega)]; exact h.2.2.1.1
    obtain ⟨K, k1, k2⟩ := second J hJ.1 hJ.2
    refine ⟨K, ?_, k2⟩
    show f_X8_laySpans_b2 (fu + 1) (nI (nT s)) J = _
    rw [f_X8_laySpans_b2, e6, if_pos ((nI_leI (by omega) (by omega)).mpr (Nat.le_refl _)), k1]) (fun fu j J hj hJ => by
    have e6 : J 0 6 = nI (nT s) := by rw [hJ.1 0 (by omega) (by omega)]; exact h.2.2.1.1
    have co : okI (nI j) 32 = true := okI_nI (by omega) (by omega)
    refine ⟨u2 (u2 J 29 j 0) 30 j 0, ⟨fun i h1 h2 => by rw [u2_oth _ _ _ h2, u2_oth _ _ _ h1]; exact hJ.1 i h1 h2, fun x hx => ?_⟩, ?_⟩
    · by_cases hxj : x = j
      · rw [hxj, u2_eq, u2_oth _ _ _ (show 29 ≠ 30 by omega), u2_eq]
        exact ⟨rfl, rfl⟩
      · rw [u2_ne _ _ (Or.inr hxj), u2_ne _ _ (Or.inr hxj), u2_ne _ _ (Or.inr hxj), u2_ne _ _ (Or.inr hxj)]
        exact hJ.2 x (by omega)
    · show f_X8_laySpans_b2 (fu + 1) (nI j) J = _
      rw [f_X8_laySpans_b2, e6, if_neg (nI_ge hj (by omega)), if_pos co, if_pos co, nI_clamp (by omega), nI_1]) (nT s) 0 LF I (by omega) (by unfold LF; omega) ⟨fun _ _ _ => rfl, fun x hx => absurd hx (Nat.not_lt_zero x)⟩
  exact key
