/-! ===== the calls that tell by hand: see, plan, book; looked ===== -/
theorem zI_gI {e e' n : Nat} {q I : IS} : zI e (gI (e + e') n q I) = gI e' n q (zI e I) := by
  funext j
  show gI (e + e') n q I (e + j) = gI e' n q (zI e I) j
  unfold gI
  by_cases h : e' ≤ j ∧ j < e' + n
  · rw [if_pos h, if_pos ⟨by omega, by omega⟩]
    congr 1
    omega
  · rw [if_neg h, if_neg (by omega)]
    rfl
theorem rwo_tol {I J : IS} {s : SP} (h : RWo I s) {o : TOL} (e : ∀ k, k < 25 → J k = I k) (p1 : RPr 5 (zI 25 J) o.1) (p2 : RPr 10 (zI 28 J) o.2.1) (p3 : RPr 8 (zI 31 J) o.2.2) : RWo J (wTo s o) := by
  obtain ⟨h1, h2, h3, h4, h5, h6, h7, -, -, -⟩ := h
  refine ⟨fun a ha => rar_congr (h1 a ha) (fun k hk => e _ ?_), rta_congr h2 (fun k hk => e _ (by omega)), rtr_congr h3 (fun k hk => e _ (by omega)), rwa_congr h4 (fun k hk => e _ (by omega)), by rw [e 0 (by omega)]; exact h5, by rw [e 0 (by omega)]; exact h6, by rw [e 0 (by omega)]; exact h7, p1, p2, p3⟩
  have := gArm_rng a
  omega
theorem rwo_t1 {I q : IS} {s : SP} (h : RWo I s) {l : List (Int32 × Int32)} (p : RPr 5 q l) : RWo (gI 25 3 q I) (wTo s (l, (tol s).2.1, (tol s).2.2)) :=
  rwo_tol h (fun k hk => gI_out (by omega)) (rpr_congr p (fun k hk => gI_in hk)) (rpr_congr h.2.2.2.2.2.2.2.2.1 (fun k hk => gI_out (by omega))) (rpr_congr h.2.2.2.2.2.2.2.2.2 (fun k hk => gI_out (by omega)))
theorem rwo_t2 {I q : IS} {s : SP} (h : RWo I s) {l : List (Int32 × Int32)} (p : RPr 10 q l) : RWo (gI 28 3 q I) (wTo s ((tol s).1, l, (tol s).2.2)) :=
  rwo_tol h (fun k hk => gI_out (by omega)) (rpr_congr h.2.2.2.2.2.2.2.1 (fun k hk => gI_out (by omega))) (rpr_congr p (fun k hk => gI_in hk)) (rpr_congr h.2.2.2.2.2.2.2.2.2 (fun k hk => gI_out (by omega)))
theorem rwo_t3 {I q : IS} {s : SP} (h : RWo I s) {l : List (Int32 × Int32)} (p : RPr 8 q l) : RWo (gI 31 3 q I) (wTo s ((tol s).1, (tol s).2.1, l)) :=
  rwo_tol h (fun k hk => gI_out (by omega)) (rpr_congr h.2.2.2.2.2.2.2.1 (fun k hk => gI_out (by omega))) (rpr_congr h.2.2.2.2.2.2.2.2.1 (fun k hk => gI_out (by omega))) (rpr_congr p (fun k hk => gI_in hk))
theorem mo_tol {B : BS} {I J : IS} {s : SP} (h : RMo False B I s) {o : TOL} (e : ∀ i, i ≠ 0 → (i < 14 ∨ 20 ≤ i) → J i = I i) (e0 : ∀ b, b ≠ 18 → b ≠ 21 → b ≠ 24 → J 0 b = I 0 b) (p1 : RPm 5 (J 0 18) (J 14) (J 15) o.1) (p2 : RPm 10 (J 0 21) (J 16) (J 17) o.2.1) (p3 : RPm 8 (J 0 24) (J 18) (J 19) o.2.2) : RMo False B J (wTo s o) := by
  obtain ⟨h1, h2, h3, h4, h5, h6, h7, h8⟩ := h
  exact ⟨rmr_c h1 (e _ (by omega) (by omega)) (e _ (by omega) (by omega)) rfl, rma_c h2 (e _ (by omega) (by omega)) (e _ (by omega) (by omega)) (e _ (by omega) (by omega)) rfl rfl, rmt_c h3 (e0 _ (by omega) (by omega) (by omega)) (fun i q1 q2 => e i (by omega) (by omega)) rfl rfl, rme_c h4 (e0 _ (by omega) (by omega) (by omega)) (e _ (by omega) (by omega)) rfl, ⟨p1, p2, p3⟩, rmn_c h6 ⟨e0 _ (by omega) (by omega) (by omega), e0 _ (by omega) (by omega) (by omega), e0 _ (by omega) (by omega) (by omega)⟩ rfl rfl rfl, ⟨by rw [e0 28 (by omega) (by omega) (by omega)]; exact h7.1, fun q => q.elim⟩, keep_c h8 (fun i hi => e i (by omega) (by omega)) ⟨e0 _ (by omega) (by omega) (by omega), e0 _ (by omega) (by omega) (by omega)⟩⟩
theorem wf_tol {s : SP} (h : WF s) {o : TOL} (h' : WTol (wTo s o)) : WF (wTo s o) := by
  obtain ⟨h1, h2, h3, h4, h5, h6, -⟩ := h
  exact ⟨h1, h2, h3, h4, h5, h6, h'⟩
theorem rpm_nil (n : Nat) (f g : Nat → Int32) : RPm n 0 f g [] := ⟨rfl, Nat.zero_le _, fun k hk => absurd hk (Nat.not_lt_zero k)⟩
theorem rpm_add {n : Nat} {f g : Nat → Int32} {l : List (Int32 × Int32)} (h : RPm n (nI l.length) f g l) (hl : l.length < n) (x y : Int32) : RPm n (nI (l.length + 1)) (fun k => if k = l.length then x else f k) (fun k => if k = l.length then y else g k) (l ++ [(x, y)]) := by
  refine ⟨by rw [List.length_append]; rfl, by rw [List.length_append, List.length_singleton]; omega, fun k hk => ?_⟩
  rw [List.length_append, List.length_singleton] at hk
  by_cases hkl : k < l.length
  · rw [List.getElem?_append_left hkl, h.2.2 k hkl]
    show some (f k, g k) = some (if k = l.length then x else f k, if k = l.length then y else g k)
    rw [if_neg (by omega), if_neg (by omega)]
  · have : k = l.length := by omega
    subst this
    rw [List.getElem?_append_right (Nat.le_refl _), Nat.sub_self]
    show some (x, y) = some (if l.length = l.length then x else f l.length, if l.length = l.length then y else g l.length)
    rw [if_pos rfl, if_pos rfl]
theorem u2_fun {α : Type} (I : Nat → Nat → α) (i k : Nat) (v : α) : u2 I i k v i = fun b => if b = k then v else I i b := by
  funext b
  rw [u2_ap]
  by_cases h : b = k
  · rw [if_pos ⟨rfl, h⟩, if_pos h]
  · rw [if_neg (fun q => h q.2), if_neg h]
/-- the Model adds a row of two: a, b the rows, c the count's place -/
theorem m_add {I : IS} {n a b c : Nat} (ha : a ≠ 0) (hb : b ≠ 0) (hab : a ≠ b) {l : List (Int32 × Int32)} (h : RPm n (I 0 c) (I a) (I b) l) (hl : l.length < n) (x y : Int32) : RPm n (u2 (u2 (u2 I a l.length x) b l.length y) 0 c (nI (l.length + 1)) 0 c) (u2 (u2 (u2 I a l.length x) b l.length y) 0 c (nI (l.length + 1)) a) (u2 (u2 (u2 I a l.length x) b l.length y) 0 c (nI (l.length + 1)) b) (l ++ [(x, y)]) := by
  have e1 : u2 (u2 (u2 I a l.length x) b l.length y) 0 c (nI (l.length + 1)) a = fun k => if k = l.length then x else I a k := by
    rw [u2_oth _ _ _ ha, u2_oth _ _ _ hab, u2_fun]
  have e2 : u2 (u2 (u2 I a l.length x) b l.length y) 0 c (nI (l.length + 1)) b = fun k => if k = l.length then y else I b k := by
    rw [u2_oth _ _ _ hb, u2_fun, u2_oth _ _ _ (Ne.symm hab)]
  rw [e1, e2, u2_eq]
  have h' : RPm n (nI l.length) (I a) (I b) l := by
    rw [← h.1]
    exact h
  exact rpm_add h' hl x y
theorem nI_eqn {n k : Nat} (hn : n < 2 ^ 31) (hk : k < 2 ^ 31) (h : n ≠ k) : ¬ nI n = nI k := fun q => h (nIne hn hk q)
theorem inv_tol {Ic q : IS} {Jc : JS} {Im Im' : IS} {Jm : JS} {s si : SP} {o : TOL} {e : Nat} (he : 25 ≤ e) (he2 : e ≤ 31) (h2 : WF s) (hc : RWo (gI e 3 q (zI 1 Ic)) (wTo s o)) (hw : WTol (wTo s o)) (hm : RMo False (B0 Im) Im' (wTo s o)) (h4 : IRi Ic Im si) (h5 : ∃ sa, RWo (zI 69 Ic) sa) (h6 : ITx Ic Im) (h7 : ITp Ic Jc Im Jm) : INV (gI (1 + e) 3 q Ic) Jc Im' Jm := by
  refine inv_of (s' := wTo s o) (by rw [zI_gI]; exact hc) (wf_tol h2 hw) hm h4 ?_ h6 h7 (fun j hj => gI_out (by omega))
  obtain ⟨sa, ha⟩ := h5
  exact ⟨sa, rwo_congr ha (fun k hk => gI_out (by omega))⟩
theorem mo_clr1 {B : BS} {I : IS} {s : SP} (h : RMo False B I s) : RMo False B (u2 I 0 18 0) (wTo s ([], (tol s).2.1, (tol s).2.2)) := by
  obtain ⟨p1, p2, p3⟩ := h.2.2.2.2.1
  have o : ∀ i, i ≠ 0 → u2 I 0 18 0 i = I i := fun i hi => u2_oth _ _ _ hi
  have o0 : ∀ b, b ≠ 18 → u2 I 0 18 0 0 b = I 0 b := fun b hb => u2_ne _ _ (Or.inr hb)
  refine mo_tol h (fun i hi _ => o i hi) (fun b h1 h2 h3 => o0 b (by omega)) ?_ ?_ ?_
  · rw [u2_eq]
    exact rpm_nil 5 _ _
  · rw [o0 21 (by omega), o 16 (by omega), o 17 (by omega)]
    exact p2
  · rw [o0 24 (by omega), o 18 (by omega), o 19 (by omega)]
    exact p3
theorem mo_add1 {B : BS} {I : IS} {s : SP} (h : RMo False B I s) (hl : (tol s).1.length < 5) (x y : Int32) : RMo False B (u2 (u2 (u2 I 14 (tol s).1.length x) 15 (tol s).1.length y) 0 18 (nI ((tol s).1.length + 1))) (wTo s ((tol s).1 ++ [(x, y)], (tol s).2.1, (tol s).2.2)) := by
  obtain ⟨p1, p2, p3⟩ := h.2.2.2.2.1
  have o : ∀ i, i ≠ 0 → i ≠ 14 → i ≠ 15 → u2 (u2 (u2 I 14 (tol s).1.length x) 15 (tol s).1.length y) 0 18 (nI ((tol s).1.length + 1)) i = I i := fun i h0 h1 h2 => by rw [u2_oth _ _ _ h0, u2_oth _ _ _ h2, u2_oth _ _ _ h1]
  have o0 : ∀ b, b ≠ 18 → u2 (u2 (u2 I 14 (tol s).1.length x) 15 (tol s).1.length y) 0 18 (nI ((tol s).1.length + 1)) 0 b = I 0 b := fun b hb => by rw [u2_ne _ _ (Or.inr hb), u2_oth _ _ _ (by omega), u2_oth _ _ _ (by omega)]
  refine mo_tol h (fun i hi h2 => o i hi (by omega) (by omega)) (fun b h1 h2 h3 => o0 b (by omega)) ?_ ?_ ?_
  · exact m_add (by omega) (by omega) (by omega) p1 hl x y
  · rw [o0 21 (by omega), o 16 (by omega) (by omega) (by omega), o 17 (by omega) (by omega) (by omega)]
    exact p2
  · rw [o0 24 (by omega), o 18 (by omega) (by omega) (by omega), o 19 (by omega) (by omega) (by omega)]
    exact p3
theorem mo_clr2 {B : BS} {I : IS} {s : SP} (h : RMo False B I s) : RMo False B (u2 I 0 21 0) (wTo s ((tol s).1, [], (tol s).2.2)) := by
  obtain ⟨p1, p2, p3⟩ := h.2.2.2.2.1
  have o : ∀ i, i ≠ 0 → u2 I 0 21 0 i = I i := fun i hi => u2_oth _ _ _ hi
  have o0 : ∀ b, b ≠ 21 → u2 I 0 21 0 0 b = I 0 b := fun b hb => u2_ne _ _ (Or.inr hb)
  refine mo_tol h (fun i hi _ => o i hi) (fun b h1 h2 h3 => o0 b (by omega)) ?_ ?_ ?_
  · rw [o0 18 (by omega), o 14 (by omega), o 15 (by omega)]
    exact p1
  · rw [u2_eq]
    exact rpm_nil 10 _ _
  · rw [o0 24 (by omega), o 18 (by omega), o 19 (by omega)]
    exact p3
theorem mo_add2 {B : BS} {I : IS} {s : SP} (h : RMo False B I s) (hl : (tol s).2.1.length < 10) (x y : Int32) : RMo False B (u2 (u2 (u2 I 16 (tol s).2.1.length x) 17 (tol s).2.1.length y) 0 21 (nI ((tol s).2.1.length + 1))) (wTo s ((tol s).1, (tol s).2.1 ++ [(x, y)], (tol s).2.2)) := by
  obtain ⟨p1, p2, p3⟩ := h.2.2.2.2.1
  have o : ∀ i, i ≠ 0 → i ≠ 16 → i ≠ 17 → u2 (u2 (u2 I 16 (tol s).2.1.length x) 17 (tol s).2.1.length y) 0 21 (nI ((tol s).2.1.length + 1)) i = I i := fun i h0 h1 h2 => by rw [u2_oth _ _ _ h0, u2_oth _ _ _ h2, u2_oth _ _ _ h1]
  have o0 : ∀ b, b ≠ 21 → u2 (u2 (u2 I 16 (tol s).2.1.length x) 17 (tol s).2.1.length y) 0 21 (nI ((tol s).2.1.length + 1)) 0 b = I 0 b := fun b hb => by rw [u2_ne _ _ (Or.inr hb), u2_oth _ _ _ (by omega), u2_oth _ _ _ (by omega)]
  refine mo_tol h (fun i hi h2 => o i hi (by omega) (by omega)) (fun b h1 h2 h3 => o0 b (by omega)) ?_ ?_ ?_
  · rw [o0 18 (by omega), o 14 (by omega) (by omega) (by omega), o 15 (by omega) (by omega) (by omega)]
    exact p1
  · exact m_add (by omega) (by omega) (by omega) p2 hl x y
  · rw [o0 24 (by omega), o 18 (by omega) (by omega) (by omega), o 19 (by omega) (by omega) (by omega)]
    exact p3
theorem mo_clr3 {B : BS} {I : IS} {s : SP} (h : RMo False B I s) : RMo False B (u2 I 0 24 0) (wTo s ((tol s).1, (tol s).2.1, [])) := by
  obtain ⟨p1, p2, p3⟩ := h.2.2.2.2.1
  have o : ∀ i, i ≠ 0 → u2 I 0 24 0 i = I i := fun i hi => u2_oth _ _ _ hi
  have o0 : ∀ b, b ≠ 24 → u2 I 0 24 0 0 b = I 0 b := fun b hb => u2_ne _ _ (Or.inr hb)
  refine mo_tol h (fun i hi _ => o i hi) (fun b h1 h2 h3 => o0 b (by omega)) ?_ ?_ ?_
  · rw [o0 18 (by omega), o 14 (by omega), o 15 (by omega)]
    exact p1
  · rw [o0 21 (by omega), o 16 (by omega), o 17 (by omega)]
    exact p2
  · rw [u2_eq]
    exact rpm_nil 8 _ _
theorem mo_add3 {B : BS} {I : IS} {s : SP} (h : RMo False B I s) (hl : (tol s).2.2.length < 8) (x y : Int32) : RMo False B (u2 (u2 (u2 I 18 (tol s).2.2.length x) 19 (tol s).2.2.length y) 0 24 (nI ((tol s).2.2.length + 1))) (wTo s ((tol s).1, (tol s).2.1, (tol s).2.2 ++ [(x, y)])) := by
  obtain ⟨p1, p2, p3⟩ := h.2.2.2.2.1
  have o : ∀ i, i ≠ 0 → i ≠ 18 → i ≠ 19 → u2 (u2 (u2 I 18 (tol s).2.2.length x) 19 (tol s).2.2.length y) 0 24 (nI ((tol s).2.2.length + 1)) i = I i := fun i h0 h1 h2 => by rw [u2_oth _ _ _ h0, u2_oth _ _ _ h2, u2_oth _ _ _ h1]
  have o0 : ∀ b, b ≠ 24 → u2 (u2 (u2 I 18 (tol s).2.2.length x) 19 (tol s).2.2.length y) 0 24 (nI ((tol s).2.2.length + 1)) 0 b = I 0 b := fun b hb => by rw [u2_ne _ _ (Or.inr hb), u2_oth _ _ _ (by omega), u2_oth _ _ _ (by omega)]
  refine mo_tol h (fun i hi h2 => o i hi (by omega) (by omega)) (fun b h1 h2 h3 => o0 b (by omega)) ?_ ?_ ?_
  · rw [o0 18 (by omega), o 14 (by omega) (by omega) (by omega), o 15 (by omega) (by omega) (by omega)]
    exact p1
  · rw [o0 21 (by omega), o 16 (by omega) (by omega) (by omega), o 17 (by omega) (by omega) (by omega)]
    exact p2
  · exact m_add (by omega) (by omega) (by omega) p3 hl x y
theorem gI_self {a n : Nat} {I : IS} : gI a n (zI a I) I = I := by
  funext j
  unfold gI
  by_cases hj : a ≤ j ∧ j < a + n
  · rw [if_pos hj]
    show I (a + (j - a)) = I j
    congr 1
    omega
  · rw [if_neg hj]
theorem lt_le39 {y : Int32} : y < 40 ↔ y ≤ 39 := by
  rw [Int32.lt_iff_toInt_lt, Int32.le_iff_toInt_le]
  have : (40 : Int32).toInt = 40 := rfl
  have : (39 : Int32).toInt = 39 := rfl
  omega
theorem sc_see : SC_see INV := by
  intro Ic Jc Im Jm h x y
  have hq := inv_q h
  obtain ⟨s, si, h1, h2, h3, h4, h5, h6, h7⟩ := h
  have hT : nT s ≤ 32 := h2.1.2.2
  have g3 := mo_29 (mo_b0 h3) 0
  have hh := c_has (c_tas h1) x
  have ht := mt_isTask g3.2.2.1 x
  obtain ⟨t1, t2, t3⟩ := h2.2.2.2.2.2.2
  have cp : RPr 5 (zI 26 Ic) (tol s).1 := by
    rw [zz (a := 1) (b := 25) rfl]
    exact h1.2.2.2.2.2.2.2.1
  have mF : ¬ ((0 : Int32) ≤ y ∧ y ≤ 39) → f_X8_in y.toInt64 (0 : Int64) (39 : Int64) = some 0 := m_inF y 0 39
  have mT : ((0 : Int32) ≤ y ∧ y ≤ 39) → f_X8_in y.toInt64 (0 : Int64) (39 : Int64) = some 1 := m_inT y 0 39
  by_cases c0 : x = -1
  · obtain ⟨q, q1, q2⟩ := prs_clear (n := 5) (zI 26 Ic)
    refine ⟨(0, gI 26 3 q Ic), (0, u2 (u2 Im 0 29 0) 0 18 0), ?_, ?_, rfl, inv_tol (e := 25) (by omega) (by omega) h2 (rwo_t1 h1 q2) ⟨fun q hq => (by cases hq), t2, t3⟩ (mo_clr1 g3) h4 h5 h6 h7⟩
    · rw [f_X7_see, if_pos c0, q1, some_bind]
    · rw [f_X8_see, if_pos c0]
  · by_cases c : x < 0 ∨ nI (nT s) ≤ x
    · rw [if_pos c] at hh ht
      refine ⟨(-1, Ic), (-1, u2 Im 0 29 0), ?_, ?_, rfl, hq⟩
      · rw [f_X7_see, if_neg c0, hh, some_bind, if_pos rfl]
      · rw [f_X8_see, if_neg c0, ht, some_bind, if_pos rfl]
    · rw [if_neg c] at hh ht
      obtain ⟨t, htT, ex⟩ := ix_of (by omega) c
      by_cases c1 : y < 0
      · refine ⟨(-2, Ic), (-2, u2 Im 0 29 0), ?_, ?_, rfl, hq⟩
        · rw [f_X7_see, if_neg c0, hh, some_bind, if_neg z10, if_pos c1, f_X7_see_b42]
        · rw [f_X8_see, if_neg c0, ht, some_bind, if_neg z10, mF (fun q => not_le_lt c1 q.1), some_bind, if_pos rfl]
      · by_cases c2 : y < 40
        · have c39 : y ≤ 39 := lt_le39.mp c2
          obtain ⟨k, hk, ey⟩ := nI_up (n := 39) (by omega) c1 c39
          have e18 : u2 Im 0 29 0 0 18 = nI (tol s).1.length := g3.2.2.2.2.1.1.1
          have hd : f_X8_see x y Im = (if u2 Im 0 29 0 0 18 = 5 then some (-4, u2 Im 0 29 0) else (if okI (u2 Im 0 29 0 0 18) 5 = true then (if okI (u2 (u2 Im 0 29 0) 14 (u2 Im 0 29 0 0 18).toNatClampNeg x 0 18) 5 = true then ((some (u2 (u2 (u2 Im 0 29 0) 14 (u2 Im 0 29 0 0 18).toNatClampNeg x) 15 (u2 (u2 Im 0 29 0) 14 (u2 Im 0 29 0 0 18).toNatClampNeg x 0 18).toNatClampNeg y)).bind fun I11 => some (u2 I11 0 18 (I11 0 18 + 1) 0 18, u2 I11 0 18 (I11 0 18 + 1))) else none) else none)) := by
            rw [f_X8_see, if_neg c0, ht, some_bind, if_neg z10, mT ⟨le0_of c1, c39⟩, some_bind, if_neg z10]
          rcases prs_add (by omega) cp x y with ⟨hl, q, q1, q2⟩ | ⟨hl, q1⟩
          · have z : u2 (u2 Im 0 29 0) 14 (tol s).1.length x 0 18 = nI (tol s).1.length := by rw [u2_oth _ _ _ (by omega)]; exact e18
            have z2 : u2 (u2 (u2 Im 0 29 0) 14 (tol s).1.length x) 15 (tol s).1.length y 0 18 = nI (tol s).1.length := by rw [u2_oth _ _ _ (by omega), z]
            have n5 : ¬ nI (tol s).1.length = (5 : Int32) := nI_eqn (k := 5) (by omega) (by omega) (by omega)
            refine ⟨(nI ((tol s).1.length + 1), gI 26 3 q Ic), (nI ((tol s).1.length + 1), u2 (u2 (u2 (u2 Im 0 29 0) 14 (tol s).1.length x) 15 (tol s).1.length y) 0 18 (nI ((tol s).1.length + 1))), ?_, ?_, rfl, inv_tol (e := 25) (by omega) (by omega) h2 (rwo_t1 h1 q2) ⟨fun q hq => ?_, t2, t3⟩ (mo_add1 g3 hl x y) h4 h5 h6 h7⟩
            · rw [f_X7_see, if_neg c0, hh, some_bind, if_neg z10, if_neg c1, if_pos c2, q1, some_bind]
            · rw [hd, e18, if_neg n5, if_pos (okI_nI hl (by omega)), nI_clamp (by omega), z, if_pos (okI_nI hl (by omega)), some_bind, nI_clamp (by omega), z2, nI_1, u2_eq]
            · rcases List.mem_append.mp hq with q' | q'
              · exact t1 q q'
              · rw [List.mem_singleton.mp q']
                exact ⟨⟨t, htT, ex⟩, k, by omega, ey⟩
          · refine ⟨(-4, Ic), (-4, u2 Im 0 29 0), ?_, ?_, rfl, hq⟩
            · rw [f_X7_see, if_neg c0, hh, some_bind, if_neg z10, if_neg c1, if_pos c2, q1, some_bind, gI_self]
            · rw [hd, e18, hl, if_pos (show nI 5 = (5 : Int32) from rfl)]
        · refine ⟨(-2, Ic), (-2, u2 Im 0 29 0), ?_, ?_, rfl, hq⟩
          · rw [f_X7_see, if_neg c0, hh, some_bind, if_neg z10, if_neg c1, if_neg c2, f_X7_see_b42]
          · rw [f_X8_see, if_neg c0, ht, some_bind, if_neg z10, mF (fun q => c2 (lt_le39.mpr q.2)), some_bind, if_pos rfl]
theorem sc_book : SC_book INV := by
  intro Ic Jc Im Jm h x y
  have hq := inv_q h
  obtain ⟨s, si, h1, h2, h3, h4, h5, h6, h7⟩ := h
  have hT : nT s ≤ 32 := h2.1.2.2
  have g3 := mo_29 (mo_b0 h3) 0
  have hh := c_has (c_tas h1) x
  have ht := mt_isTask g3.2.2.1 x
  obtain ⟨t1, t2, t3⟩ := h2.2.2.2.2.2.2
  have cp : RPr 8 (zI 32 Ic) (tol s).2.2 := by
    rw [zz (a := 1) (b := 31) rfl]
    exact h1.2.2.2.2.2.2.2.2.2
  have mF : ¬ ((0 : Int32) ≤ y ∧ y ≤ 5) → f_X8_in y.toInt64 (0 : Int64) (5 : Int64) = some 0 := m_inF y 0 5
  have mT : ((0 : Int32) ≤ y ∧ y ≤ 5) → f_X8_in y.toInt64 (0 : Int64) (5 : Int64) = some 1 := m_inT y 0 5
  by_cases c0 : x = -1
  · obtain ⟨q, q1, q2⟩ := prs_clear (n := 8) (zI 32 Ic)
    refine ⟨(0, gI 32 3 q Ic), (0, u2 (u2 Im 0 29 0) 0 24 0), ?_, ?_, rfl, inv_tol (e := 31) (by omega) (by omega) h2 (rwo_t3 h1 q2) ⟨t1, t2, fun q hq => (by cases hq)⟩ (mo_clr3 g3) h4 h5 h6 h7⟩
    · rw [f_X7_book, if_pos c0, q1, some_bind]
    · rw [f_X8_book, if_pos c0]
  · by_cases c : x < 0 ∨ nI (nT s) ≤ x
    · rw [if_pos c] at hh ht
      refine ⟨(-1, Ic), (-1, u2 Im 0 29 0), ?_, ?_, rfl, hq⟩
      · rw [f_X7_book, if_neg c0, hh, some_bind, if_pos rfl]
      · rw [f_X8_book, if_neg c0, ht, some_bind, if_pos rfl]
    · rw [if_neg c] at hh ht
      obtain ⟨t, htT, ex⟩ := ix_of (by omega) c
      by_cases c1 : y < 0
      · refine ⟨(-2, Ic), (-2, u2 Im 0 29 0), ?_, ?_, rfl, hq⟩
        · rw [f_X7_book, if_neg c0, hh, some_bind, if_neg z10, if_pos c1, f_X7_book_b41]
        · rw [f_X8_book, if_neg c0, ht, some_bind, if_neg z10, mF (fun q => not_le_lt c1 q.1), some_bind, if_pos rfl]
      · by_cases c2 : y ≤ 5
        · have e18 : u2 Im 0 29 0 0 24 = nI (tol s).2.2.length := g3.2.2.2.2.1.2.2.1
          have hd : f_X8_book x y Im = (if u2 Im 0 29 0 0 24 = 8 then some (-4, u2 Im 0 29 0) else (if okI (u2 Im 0 29 0 0 24) 8 = true then (if okI (u2 (u2 Im 0 29 0) 18 (u2 Im 0 29 0 0 24).toNatClampNeg x 0 24) 8 = true then ((some (u2 (u2 (u2 Im 0 29 0) 18 (u2 Im 0 29 0 0 24).toNatClampNeg x) 19 (u2 (u2 Im 0 29 0) 18 (u2 Im 0 29 0 0 24).toNatClampNeg x 0 24).toNatClampNeg y)).bind fun I11 => some (u2 I11 0 24 (I11 0 24 + 1) 0 24, u2 I11 0 24 (I11 0 24 + 1))) else none) else none)) := by
            rw [f_X8_book, if_neg c0, ht, some_bind, if_neg z10, mT ⟨le0_of c1, c2⟩, some_bind, if_neg z10]
          rcases prs_add (by omega) cp x y with ⟨hl, q, q1, q2⟩ | ⟨hl, q1⟩
          · have z : u2 (u2 Im 0 29 0) 18 (tol s).2.2.length x 0 24 = nI (tol s).2.2.length := by rw [u2_oth _ _ _ (by omega)]; exact e18
            have z2 : u2 (u2 (u2 Im 0 29 0) 18 (tol s).2.2.length x) 19 (tol s).2.2.length y 0 24 = nI (tol s).2.2.length := by rw [u2_oth _ _ _ (by omega), z]
            have n5 : ¬ nI (tol s).2.2.length = (8 : Int32) := nI_eqn (k := 8) (by omega) (by omega) (by omega)
            refine ⟨(nI ((tol s).2.2.length + 1), gI 32 3 q Ic), (nI ((tol s).2.2.length + 1), u2 (u2 (u2 (u2 Im 0 29 0) 18 (tol s).2.2.length x) 19 (tol s).2.2.length y) 0 24 (nI ((tol s).2.2.length + 1))), ?_, ?_, rfl, inv_tol (e := 31) (by omega) (by omega) h2 (rwo_t3 h1 q2) ⟨t1, t2, fun q hq => ?_⟩ (mo_add3 g3 hl x y) h4 h5 h6 h7⟩
            · rw [f_X7_book, if_neg c0, hh, some_bind, if_neg z10, if_neg c1, if_pos c2, q1, some_bind]
            · rw [hd, e18, if_neg n5, if_pos (okI_nI hl (by omega)), nI_clamp (by omega), z, if_pos (okI_nI hl (by omega)), some_bind, nI_clamp (by omega), z2, nI_1, u2_eq]
            · rcases List.mem_append.mp hq with q' | q'
              · exact t3 q q'
              · rw [List.mem_singleton.mp q']
                exact ⟨t, htT, ex⟩
          · refine ⟨(-4, Ic), (-4, u2 Im 0 29 0), ?_, ?_, rfl, hq⟩
            · rw [f_X7_book, if_neg c0, hh, some_bind, if_neg z10, if_neg c1, if_pos c2, q1, some_bind, gI_self]
            · rw [hd, e18, hl, if_pos (show nI 8 = (8 : Int32) from rfl)]
        · refine ⟨(-2, Ic), (-2, u2 Im 0 29 0), ?_, ?_, rfl, hq⟩
          · rw [f_X7_book, if_neg c0, hh, some_bind, if_neg z10, if_neg c1, if_neg c2, f_X7_book_b41]
          · rw [f_X8_book, if_neg c0, ht, some_bind, if_neg z10, mF (fun q => c2 q.2), some_bind, if_pos rfl]
theorem sc_plan : SC_plan INV := by
  intro Ic Jc Im Jm h x y
  have hq := inv_q h
  obtain ⟨s, si, h1, h2, h3, h4, h5, h6, h7⟩ := h
  have hT : nT s ≤ 32 := h2.1.2.2
  have g3 := mo_29 (mo_b0 h3) 0
  have hh := c_has (c_tas h1) y
  have ht := mt_isTask g3.2.2.1 y
  obtain ⟨t1, t2, t3⟩ := h2.2.2.2.2.2.2
  have cp : RPr 10 (zI 29 Ic) (tol s).2.1 := by
    rw [zz (a := 1) (b := 28) rfl]
    exact h1.2.2.2.2.2.2.2.2.1
  have mF : ¬ ((0 : Int32) ≤ x ∧ x ≤ 2) → f_X8_in x.toInt64 (0 : Int64) (2 : Int64) = some 0 := m_inF x 0 2
  have mT : ((0 : Int32) ≤ x ∧ x ≤ 2) → f_X8_in x.toInt64 (0 : Int64) (2 : Int64) = some 1 := m_inT x 0 2
  have adds : (x = 0 ∨ (x = 1 ∧ ∃ t, t < nT s ∧ y = nI t) ∨ x = 2) → ∃ (qc : Int32 × IS) (qm : Int32 × IS), f_X7_plan_b48 x y Ic = some qc ∧ f_X8_plan_b44 x y (u2 Im 0 29 0) = some qm ∧ qc.1 = qm.1 ∧ INV qc.2 Jc qm.2 Jm := fun hx => by
    have e18 : u2 Im 0 29 0 0 21 = nI (tol s).2.1.length := g3.2.2.2.2.1.2.1.1
    rcases prs_add (by omega) cp x y with ⟨hl, q, q1, q2⟩ | ⟨hl, q1⟩
    · have z : u2 (u2 Im 0 29 0) 16 (tol s).2.1.length x 0 21 = nI (tol s).2.1.length := by rw [u2_oth _ _ _ (by omega)]; exact e18
      have z2 : u2 (u2 (u2 Im 0 29 0) 16 (tol s).2.1.length x) 17 (tol s).2.1.length y 0 21 = nI (tol s).2.1.length := by rw [u2_oth _ _ _ (by omega), z]
      have n5 : ¬ nI (tol s).2.1.length = (10 : Int32) := nI_eqn (k := 10) (by omega) (by omega) (by omega)
      refine ⟨(nI ((tol s).2.1.length + 1), gI 29 3 q Ic), (nI ((tol s).2.1.length + 1), u2 (u2 (u2 (u2 Im 0 29 0) 16 (tol s).2.1.length x) 17 (tol s).2.1.length y) 0 21 (nI ((tol s).2.1.length + 1))), ?_, ?_, rfl, inv_tol (e := 28) (by omega) (by omega) h2 (rwo_t2 h1 q2) ⟨t1, fun q hq => ?_, t3⟩ (mo_add2 g3 hl x y) h4 h5 h6 h7⟩
      · rw [f_X7_plan_b48, q1, some_bind]
      · rw [f_X8_plan_b44, e18, if_neg n5, if_pos (okI_nI hl (by omega)), nI_clamp (by omega), z, if_pos (okI_nI hl (by omega)), some_bind, nI_clamp (by omega), z2, nI_1, u2_eq]
      · rcases List.mem_append.mp hq with q' | q'
        · exact t2 q q'
        · rw [List.mem_singleton.mp q']
          exact hx
    · refine ⟨(-4, Ic), (-4, u2 Im 0 29 0), ?_, ?_, rfl, hq⟩
      · rw [f_X7_plan_b48, q1, some_bind, gI_self]
      · rw [f_X8_plan_b44, e18, hl, if_pos (show nI 10 = (10 : Int32) from rfl)]
  by_cases c0 : x = -1
  · obtain ⟨q, q1, q2⟩ := prs_clear (n := 10) (zI 29 Ic)
    refine ⟨(0, gI 29 3 q Ic), (0, u2 (u2 Im 0 29 0) 0 21 0), ?_, ?_, rfl, inv_tol (e := 28) (by omega) (by omega) h2 (rwo_t2 h1 q2) ⟨t1, fun q hq => (by cases hq), t3⟩ (mo_clr2 g3) h4 h5 h6 h7⟩
    · rw [f_X7_plan, if_pos c0, q1, some_bind]
    · rw [f_X8_plan, if_pos c0]
  · by_cases c1 : x < 0
    · refine ⟨(-1, Ic), (-1, u2 Im 0 29 0), ?_, ?_, rfl, hq⟩
      · rw [f_X7_plan, if_neg c0, if_pos c1, f_X7_plan_b25]
      · rw [f_X8_plan, if_neg c0, mF (fun q => not_le_lt c1 q.1), some_bind, if_pos rfl, f_X8_plan_b42]
    · by_cases c2 : x ≤ 2
      · have hc : f_X7_plan x y Ic = (if x = 1 then ((f_X4_has y (zI 11 Ic)).bind fun q5 => (if q5 = 0 then some (-1, Ic) else f_X7_plan_b48 x y Ic)) else f_X7_plan_b48 x y Ic) := by
          rw [f_X7_plan, if_neg c0, if_neg c1, if_pos c2]
        have hm : f_X8_plan x y Im = (if x = 1 then ((f_X8_isTask y (u2 Im 0 29 0)).bind fun q5 => (if q5 = 0 then f_X8_plan_b42 (u2 Im 0 29 0) else f_X8_plan_b44 x y (u2 Im 0 29 0))) else f_X8_plan_b44 x y (u2 Im 0 29 0)) := by
          rw [f_X8_plan, if_neg c0, mT ⟨le0_of c1, c2⟩, some_bind, if_neg z10]
        rw [hc, hm]
        by_cases x1 : x = 1
        · rw [if_pos x1, if_pos x1, hh, ht]
          by_cases c : y < 0 ∨ nI (nT s) ≤ y
          · rw [if_pos c, some_bind, some_bind, if_pos rfl, if_pos rfl, f_X8_plan_b42]
            exact ⟨_, _, rfl, rfl, rfl, hq⟩
          · rw [if_neg c, some_bind, some_bind, if_neg z10, if_neg z10]
            exact adds (Or.inr (Or.inl ⟨x1, ix_of (by omega) c⟩))
        · rw [if_neg x1, if_neg x1]
          refine adds ?_
          obtain ⟨k, hk, e⟩ := nI_up (n := 2) (by omega) c1 c2
          match k, hk with
          | 0, _ => exact Or.inl e
          | 1, _ => exact absurd e x1
          | 2, _ => exact Or.inr (Or.inr e)
      · refine ⟨(-1, Ic), (-1, u2 Im 0 29 0), ?_, ?_, rfl, hq⟩
        · rw [f_X7_plan, if_neg c0, if_neg c1, if_neg c2, f_X7_plan_b25]
        · rw [f_X8_plan, if_neg c0, mF (fun q => c2 q.2), some_bind, if_pos rfl, f_X8_plan_b42]
