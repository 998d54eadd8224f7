/-! ===== the text is read: both ===== -/
def TRc (N : Nat) (sg : Nat → Int32) (C : IS) (m d : Nat) (r : Int32) : Prop := C 0 1 = nI N ∧ C 0 5 = nI m ∧ C 0 8 = nI d ∧ C 0 9 = r ∧ ∀ k, k < N → C 1 k = sg k
def TRm (N : Nat) (sg : Nat → Int32) (M : IS) (p m d : Nat) : Prop := M 0 38 = nI N ∧ M 0 39 = nI p ∧ M 0 40 = 0 ∧ M 0 41 = nI m ∧ M 0 45 = nI d ∧ ∀ k, k < N → M 23 k = sg k
/-- what is read is alike, and a forest of at most four levels -/
def TRt (C M : IS) (dp : Nat → Nat) (m : Nat) : Prop := ∀ k, k < m → C 2 k = M 24 k ∧ C 3 k = M 25 k ∧ C 4 k = M 26 k ∧ (∃ w, 1 ≤ w ∧ w ≤ 9 ∧ C 2 k = nI w) ∧ dp k ≤ 4 ∧ ((C 4 k = -5 ∧ dp k = 0) ∨ ∃ q, q < k ∧ C 4 k = nI q ∧ dp k = dp q + 1)
/-- those that are open; e: 1 where one more is to come to the innermost -/
def TRo (C M : IS) (dp : Nat → Nat) (m d e : Nat) : Prop := ∀ i, i < d → ∃ o w, o < m ∧ dp o = i ∧ C 5 i = nI o ∧ M 27 i = nI o ∧ C 6 i = nI w ∧ w + (if i + 1 = d then e else 0) ≤ 6 ∧ M 28 i = nI (w + (if i + 1 = d then e else 0))
def FRm (M0 M : IS) : Prop := (∀ i, i ≠ 0 → (i < 24 ∨ 28 < i) → M i = M0 i) ∧ ∀ b, b ≠ 39 → b ≠ 40 → b ≠ 41 → b ≠ 45 → M 0 b = M0 0 b
def FIN (M0 : IS) (r q : Int32 × IS) : Prop := FRm M0 q.2 ∧ ((∃ p, p ≤ 100 ∧ r.1 = nI p ∧ q.1 = 0 ∧ q.2 0 39 = nI p) ∨ (r.1 = -5 ∧ q.1 = 1 ∧ ∃ m dp, 1 ≤ m ∧ m ≤ 100 ∧ r.2 0 5 = nI m ∧ q.2 0 41 = nI m ∧ TRt r.2 q.2 dp m))
theorem m_here {N : Nat} {sg : Nat → Int32} {M : IS} {p : Nat} (hN : N ≤ 100) (hp : p ≤ N) (h38 : M 0 38 = nI N) (h39 : M 0 39 = nI p) (hs : ∀ k, k < N → M 23 k = sg k) : f_X8_here M = some (if p < N then sg p else -1) := by
  rw [f_X8_here, h38, h39]
  by_cases c : p < N
  · rw [if_neg (nI_ge c (by omega)), if_pos (okI_nI (by omega) (by omega)), nI_clamp (by omega), hs p c, if_pos c, f_X8_here_b24]
  · rw [if_pos ((nI_leI (by omega) (by omega)).mpr (by omega)), if_neg c, f_X8_here_b24]
theorem le0_nI {n : Nat} (hn : n < 2 ^ 31) : nI n ≤ (0 : Int32) ↔ n = 0 := by
  rw [show (0 : Int32) = nI 0 from rfl, nI_leI hn (by omega)]
  omega
/-- no more comes: the reading of the tree is at its end -/
theorem m_stop (fv : Nat) (M : IS) (b : Int32) (h : M 0 40 = b) (hb : b = 0 ∨ b = 1) (hv : 1 ≤ fv) : f_X8_readTree_b22 fv 0 M = some (if b = 0 then 1 else 0, M) := by
  obtain ⟨f, rfl⟩ : ∃ f, fv = f + 1 := ⟨fv - 1, by omega⟩
  rw [f_X8_readTree_b22, if_pos rfl, f_X8_readTree_b60, h]
  rcases hb with rfl | rfl
  · rw [if_pos rfl, if_pos rfl, f_X8_readTree_b72, if_pos okZ1]
  · rw [if_neg z10, if_neg z10, f_X8_readTree_b72, if_pos okZ0]
/-- behind what has been closed: what the Model does with what comes then -/
def tailM (fv : Nat) (q6 : Option (Int32 × IS)) : Option (Int32 × IS) := q6.bind fun q6 => (if q6.1 = 0 then f_X8_readTree_b55 (f_X8_readTree_b22 fv) q6.2 else f_X8_readTree_b56 (f_X8_readTree_b22 fv) 1 q6.2)
theorem tailM_bad {fv : Nat} {M0 M : IS} {p : Nat} (hv : 1 ≤ fv) (hF : FRm M0 M) (hp : p ≤ 100) (h39 : M 0 39 = nI p) (C' : IS) : ∃ q, tailM fv (f_X8_goesOn_b181 M) = some q ∧ FIN M0 (nI p, C') q := by
  have e : f_X8_goesOn_b181 M = some (0, u2 M 0 40 1) := by rw [f_X8_goesOn_b181, f_X8_goesOn_b186, if_pos okZ1]
  have hF' : FRm M0 (u2 M 0 40 1) := ⟨fun i h0 h1 => by rw [u2_oth _ _ _ h0]; exact hF.1 i h0 h1, fun b h1 h2 h3 h4 => by rw [u2_ne _ _ (Or.inr h2)]; exact hF.2 b h1 h2 h3 h4⟩
  refine ⟨(0, u2 M 0 40 1), ?_, hF', Or.inl ⟨p, hp, rfl, rfl, ?_⟩⟩
  · rw [tailM, e, some_bind, if_pos rfl, f_X8_readTree_b55, f_X8_readTree_b56, m_stop fv _ 1 (u2_eq _ _ _ _) (Or.inr rfl) hv, if_neg z10]
  · show u2 M 0 40 1 0 39 = nI p
    rw [u2_ne _ _ (Or.inr (by omega))]
    exact h39
/-- the class stops at a sign -/
theorem c_stop {N : Nat} {sg : Nat → Int32} {C : IS} {m d p : Nat} {r : Int32} (hN : N ≤ 100) (h : TRc N sg C m d r) (hp : p < N) (fu : Nat) (hg : f_X5_goesOn (sg p) C = some (0, C)) : f_X5_parse_b17 (fu + 1) (nI p) C = some (nI p, C) := by
  rw [f_X5_parse_b17, h.1, if_neg (nI_ge hp (by omega)), if_pos (okI_nI (by omega) (by omega)), nI_clamp (by omega), h.2.2.2.2 p hp, hg, some_bind, if_pos rfl]
theorem c_goes {N : Nat} {sg : Nat → Int32} {C C' : IS} {m d p : Nat} {r : Int32} (hN : N ≤ 100) (h : TRc N sg C m d r) (hp : p < N) (fu : Nat) (hg : f_X5_goesOn (sg p) C = some (1, C')) : f_X5_parse_b17 (fu + 1) (nI p) C = f_X5_parse_b17 fu (nI (p + 1)) C' := by
  rw [f_X5_parse_b17, h.1, if_neg (nI_ge hp (by omega)), if_pos (okI_nI (by omega) (by omega)), nI_clamp (by omega), h.2.2.2.2 p hp, hg, some_bind, if_neg z10, nI_1]
def HEAD (N : Nat) (sg : Nat → Int32) (M0 : IS) (p : Nat) : Prop := ∀ (C M : IS) (m d : Nat) (dp : Nat → Nat) (fu fv : Nat), m ≤ p → d ≤ 4 → TRc N sg C m d 0 → TRm N sg M p m d → TRt C M dp m → TRo C M dp m d 1 → FRm M0 M → (m = 0 → d = 0) → N - p + 1 ≤ fu → N - p + 2 ≤ fv → ∃ r q, f_X5_parse_b17 fu (nI p) C = some r ∧ f_X8_readTree_b22 fv 1 M = some q ∧ FIN M0 r q
def AFT (N : Nat) (sg : Nat → Int32) (M0 : IS) (p : Nat) : Prop := ∀ (C M : IS) (m d : Nat) (r : Int32) (dp : Nat → Nat) (fu fv gv : Nat), 1 ≤ m → m ≤ p → d ≤ 4 → (r = 1 ∨ r = 2 ∨ r = 3) → TRc N sg C m d r → TRm N sg M p m d → TRt C M dp m → TRo C M dp m d 0 → FRm M0 M → (p < N → sg p = 40 → r = 3 ∨ d = 4) → (p < N → (sg p = 33 ∨ sg p = 63) → r ≠ 1) → N - p + 1 ≤ fu → N - p + 1 ≤ fv → N - p + 1 ≤ gv → ∃ r q, f_X5_parse_b17 fu (nI p) C = some r ∧ tailM fv (f_X8_goesOn_b64 gv M) = some q ∧ FIN M0 r q
theorem r_ne0 {r : Int32} (h : r = 1 ∨ r = 2 ∨ r = 3) : ¬ r = 0 := by
  rcases h with rfl | rfl | rfl <;> decide
/-- behind a task or what is closed: the class's answer to a sign that neither closes nor goes on -/
theorem c_no {N : Nat} {sg : Nat → Int32} {C : IS} {m d : Nat} {r c : Int32} (h : TRc N sg C m d r) (hd : d ≤ 4) (hr : r = 1 ∨ r = 2 ∨ r = 3) (h40 : c = 40 → r = 3 ∨ d = 4) (h33 : c = 33 ∨ c = 63 → r ≠ 1) (h41 : c = 41 → d = 0) (h44 : c = 44 → d = 0 ∨ ∃ w, C 6 (d - 1) = nI w ∧ 6 ≤ w ∧ w ≤ 100) : f_X5_goesOn c C = some (0, C) := by
  obtain ⟨t1, t2, t3, t4, t5⟩ := h
  have hm : ∀ x, (c = 33 ∨ c = 63) → f_X5_marks x C = some (0, C) := fun x q => by
    rw [f_X5_marks, t4, if_neg (h33 q), f_X5_marks_b15]
  rw [f_X5_goesOn, t4, if_neg (r_ne0 hr)]
  by_cases c33 : c = 33
  · rw [if_pos c33, hm 1 (Or.inl c33), some_bind, if_pos okZ0]
  · rw [if_neg c33]
    by_cases c40 : c = 40
    · have ho : f_X5_opens C = some (0, C) := by
        rw [f_X5_opens, t4]
        by_cases r3 : r = 3
        · rw [if_pos r3, f_X5_opens_b16]
        · rw [if_neg r3, t3, (h40 c40).resolve_left r3, if_neg (by decide), f_X5_opens_b16]
      rw [if_pos c40, ho, some_bind, if_pos okZ0]
    · rw [if_neg c40]
      by_cases c41 : c = 41
      · have hc : f_X5_closes C = some (0, C) := by
          rw [f_X5_closes, t3, h41 c41, if_pos (show nI 0 = 0 from rfl)]
        rw [if_pos c41, hc, some_bind, if_pos okZ0]
      · rw [if_neg c41]
        by_cases c44 : c = 44
        · have hs : f_X5_separates C = some (0, C) := by
            rw [f_X5_separates, t3]
            rcases h44 c44 with q | ⟨w, w1, w2, w3⟩
            · rw [q, if_pos (show nI 0 = 0 from rfl), f_X5_separates_b23]
            · by_cases q : d = 0
              · rw [q, if_pos (show nI 0 = 0 from rfl), f_X5_separates_b23]
              · have ed : nI d - 1 = nI (d - 1) := by
                  have := nI_s1 (d - 1)
                  rw [show d - 1 + 1 = d by omega] at this
                  exact this
                rw [if_neg (nI_ne0 (Nat.pos_of_ne_zero q) (by omega)), ed, if_pos (okI_nI (by omega) (by omega)), nI_clamp (by omega), w1, if_neg (fun q => by
                  have := (nI_ltI (b := 6) (by omega) (by omega)).mp q
                  omega), f_X5_separates_b23]
          rw [if_pos c44, hs, some_bind, if_pos okZ0]
        · rw [if_neg c44]
          by_cases c63 : c = 63
          · rw [if_pos c63, hm 2 (Or.inr c63), some_bind, if_pos okZ0]
          · rw [if_neg c63]
/-- the Model there: neither closes nor goes on -/
theorem m_no {N : Nat} {sg : Nat → Int32} {M : IS} {p m d : Nat} (hN : N ≤ 100) (hp : p ≤ N) (h : TRm N sg M p m d) (hd : d ≤ 4) (h41 : p < N → sg p = 41 → d = 0) (h44 : p < N → sg p = 44 → d = 0 ∨ ∃ w, M 28 (d - 1) = nI w ∧ 6 ≤ w ∧ w ≤ 100) (gv : Nat) : f_X8_goesOn_b64 (gv + 1) M = f_X8_goesOn_b162 M := by
  obtain ⟨t1, t2, t3, t4, t5, t6⟩ := h
  have hh := m_here hN hp t1 t2 t6
  have hb : f_X8_goesOn_b103 M = f_X8_goesOn_b162 M := by
    rw [f_X8_goesOn_b103, t5]
    by_cases d0 : d = 0
    · rw [if_pos ((le0_nI (by omega)).mpr d0)]
    · rw [if_neg (fun q => d0 ((le0_nI (by omega)).mp q)), hh, some_bind]
      by_cases c : p < N
      · rw [if_pos c]
        by_cases c44 : sg p = 44
        · rcases h44 c c44 with q | ⟨w, w1, w2, w3⟩
          · exact absurd q d0
          · have ed : nI d - 1 = nI (d - 1) := by
              have := nI_s1 (d - 1)
              rw [show d - 1 + 1 = d by omega] at this
              exact this
            rw [if_pos c44, ed, if_pos (okI_nI (by omega) (by omega)), nI_clamp (by omega), w1, if_pos (show (6 : Int32) ≤ nI w from (nI_leI (a := 6) (by omega) (by omega)).mpr w2)]
        · rw [if_neg c44]
      · rw [if_neg c, if_neg (by decide)]
  rw [f_X8_goesOn_b64, t5]
  by_cases d0 : d = 0
  · rw [if_pos ((le0_nI (by omega)).mpr d0), hb]
  · rw [if_neg (fun q => d0 ((le0_nI (by omega)).mp q)), hh, some_bind]
    by_cases c : p < N
    · rw [if_pos c, if_neg (fun q => d0 (h41 c q)), hb]
    · rw [if_neg c, if_neg (by decide), hb]
theorem m_162 {N : Nat} {sg : Nat → Int32} {M : IS} {p m d : Nat} (hN : N ≤ 100) (hp : p ≤ N) (h : TRm N sg M p m d) (hd : d ≤ 4) : f_X8_goesOn_b162 M = if d = 0 ∧ p = N then some (0, M) else f_X8_goesOn_b181 M := by
  obtain ⟨t1, t2, t3, t4, t5, t6⟩ := h
  rw [f_X8_goesOn_b162, t5, t1, t2]
  by_cases d0 : d = 0
  · rw [d0, if_neg (show ¬ (0 : Int32) < nI 0 by decide)]
    by_cases c : p = N
    · have e : (0 : Nat) = 0 ∧ p = N := ⟨rfl, c⟩
      rw [if_pos (show nI N ≤ nI p by rw [c]; exact (nI_leI (by omega) (by omega)).mpr (Nat.le_refl _)), f_X8_goesOn_b186, if_pos okZ0, u2_self _ _ _ t3, if_pos e]
    · have e : ¬ ((0 : Nat) = 0 ∧ p = N) := fun q => c q.2
      rw [if_neg (nI_ge (show p < N by omega) (by omega)), if_neg e]
  · have e : ¬ (d = 0 ∧ p = N) := fun q => d0 q.1
    rw [if_pos (nI_above0 d0 (by omega)), if_neg e]
theorem aft_step {N : Nat} {sg : Nat → Int32} {M0 : IS} {p : Nat} (hN : N ≤ 100) (hp : p ≤ N) (hA : p < N → AFT N sg M0 (p + 1)) (hH : p < N → HEAD N sg M0 (p + 1)) : AFT N sg M0 p := by
  intro C M m d r dp fu fv gv hm1 hmp hd hr hC hM hT hO hF h40 h33 hfu hfv hgv
  obtain ⟨f, rfl⟩ : ∃ f, fu = f + 1 := ⟨fu - 1, by omega⟩
  obtain ⟨g, rfl⟩ : ∃ g, gv = g + 1 := ⟨gv - 1, by omega⟩
  have hMc := hM
  obtain ⟨t1, t2, t3, t4, t5, t6⟩ := hM
  obtain ⟨s1, s2, s3, s4, s5⟩ := hC
  have hCc : TRc N sg C m d r := ⟨s1, s2, s3, s4, s5⟩
  by_cases hpN : p < N
  · have ed : d ≠ 0 → nI d - 1 = nI (d - 1) := fun q => by
      have := nI_s1 (d - 1)
      rw [show d - 1 + 1 = d by omega] at this
      exact this
    have hh := m_here hN hp t1 t2 t6
    rw [if_pos hpN] at hh
    by_cases c41 : sg p = 41 ∧ d ≠ 0
    · obtain ⟨c41, d0⟩ := c41
      have dn : ¬ nI d ≤ 0 := fun q => d0 ((le0_nI (by omega)).mp q)
      have hcl : f_X5_goesOn (sg p) C = some (1, u2 (u2 C 0 8 (nI (d - 1))) 0 9 3) := by
        rw [f_X5_goesOn, s4, if_neg (r_ne0 hr), c41, if_neg (by decide), if_neg (by decide), if_pos rfl, f_X5_closes, s3, if_neg (nI_ne0 (Nat.pos_of_ne_zero d0) (by omega)), ed d0, some_bind, if_pos okZ1]
      have hm64 : f_X8_goesOn_b64 (g + 1) M = f_X8_goesOn_b64 g (u2 (u2 M 0 45 (nI (d - 1))) 0 39 (nI (p + 1))) := by
        rw [f_X8_goesOn_b64, t5, if_neg dn, hh, some_bind, if_pos c41, ed d0, u2_ne _ _ (Or.inr (by omega)), t2, nI_1, some_bind]
      rw [c_goes hN hCc hpN f hcl, hm64]
      refine hA hpN (u2 (u2 C 0 8 (nI (d - 1))) 0 9 3) (u2 (u2 M 0 45 (nI (d - 1))) 0 39 (nI (p + 1))) m (d - 1) 3 dp f fv g hm1 (by omega) (by omega) (Or.inr (Or.inr rfl)) ?_ ?_ ?_ ?_ ?_ (fun _ _ => Or.inl rfl) (fun _ _ => by decide) (by omega) (by omega) (by omega)
      · exact ⟨by rw [u2_ne _ _ (Or.inr (by omega)), u2_ne _ _ (Or.inr (by omega))]; exact s1, by rw [u2_ne _ _ (Or.inr (by omega)), u2_ne _ _ (Or.inr (by omega))]; exact s2, by rw [u2_ne _ _ (Or.inr (by omega)), u2_eq], u2_eq _ _ _ _, fun k hk => by rw [u2_oth _ _ _ (by omega), u2_oth _ _ _ (by omega)]; exact s5 k hk⟩
      · exact ⟨by rw [u2_ne _ _ (Or.inr (by omega)), u2_ne _ _ (Or.inr (by omega))]; exact t1, u2_eq _ _ _ _, by rw [u2_ne _ _ (Or.inr (by omega)), u2_ne _ _ (Or.inr (by omega))]; exact t3, by rw [u2_ne _ _ (Or.inr (by omega)), u2_ne _ _ (Or.inr (by omega))]; exact t4, by rw [u2_ne _ _ (Or.inr (by omega)), u2_eq], fun k hk => by rw [u2_oth _ _ _ (by omega), u2_oth _ _ _ (by omega)]; exact t6 k hk⟩
      · intro k hk
        have := hT k hk
        simp only [u2_oth _ _ _ (show 2 ≠ 0 by omega), u2_oth _ _ _ (show 3 ≠ 0 by omega), u2_oth _ _ _ (show 4 ≠ 0 by omega), u2_oth _ _ _ (show 24 ≠ 0 by omega), u2_oth _ _ _ (show 25 ≠ 0 by omega), u2_oth _ _ _ (show 26 ≠ 0 by omega)]
        exact this
      · intro i hi
        obtain ⟨o, w, o1, o2, o3, o4, o5, o6, o7⟩ := hO i (by omega)
        simp only [u2_oth _ _ _ (show 5 ≠ 0 by omega), u2_oth _ _ _ (show 6 ≠ 0 by omega), u2_oth _ _ _ (show 27 ≠ 0 by omega), u2_oth _ _ _ (show 28 ≠ 0 by omega)]
        refine ⟨o, w, o1, o2, o3, o4, o5, ?_, ?_⟩
        · have : (if i + 1 = d then 0 else 0) = 0 := by split <;> rfl
          rw [this] at o6
          have : (if i + 1 = d - 1 then 0 else 0) = 0 := by split <;> rfl
          rw [this]
          exact o6
        · have : (if i + 1 = d then 0 else 0) = 0 := by split <;> rfl
          rw [this] at o7
          have : (if i + 1 = d - 1 then 0 else 0) = 0 := by split <;> rfl
          rw [this]
          exact o7
      · exact ⟨fun i h0 h1 => by rw [u2_oth _ _ _ h0, u2_oth _ _ _ h0]; exact hF.1 i h0 h1, fun b h1 h2 h3 h4 => by rw [u2_ne _ _ (Or.inr h1), u2_ne _ _ (Or.inr h4)]; exact hF.2 b h1 h2 h3 h4⟩
    · by_cases c44 : sg p = 44 ∧ d ≠ 0
      · obtain ⟨c44, d0⟩ := c44
        obtain ⟨o, w, o1, o2, o3, o4, o5, o6, o7⟩ := hO (d - 1) (by omega)
        have e0 : (if d - 1 + 1 = d then 0 else 0) = 0 := by split <;> rfl
        rw [e0, Nat.add_zero] at o6 o7
        have dn : ¬ nI d ≤ 0 := fun q => d0 ((le0_nI (by omega)).mp q)
        have cd5 : okI (nI (d - 1)) 5 = true := okI_nI (by omega) (by omega)
        by_cases w6 : w < 6
        · have hsep : f_X5_goesOn (sg p) C = some (1, u2 C 0 9 0) := by
            rw [f_X5_goesOn, s4, if_neg (r_ne0 hr), c44, if_neg (by decide), if_neg (by decide), if_neg (by decide), if_pos rfl, f_X5_separates, s3, if_neg (nI_ne0 (Nat.pos_of_ne_zero d0) (by omega)), ed d0, if_pos (okI_nI (by omega) (by omega)), nI_clamp (by omega), o5, if_pos (show nI w < (6 : Int32) from (nI_ltI (b := 6) (by omega) (by omega)).mpr w6), some_bind, if_pos okZ1]
          have hm64 : f_X8_goesOn_b64 (g + 1) M = some (1, u2 (u2 M 28 (d - 1) (nI (w + 1))) 0 39 (nI (p + 1))) := by
            have n41 : ¬ sg p = 41 := by rw [c44]; decide
            rw [f_X8_goesOn_b64, t5, if_neg dn, hh, some_bind, if_neg n41, f_X8_goesOn_b103, t5, if_neg dn, hh, some_bind, if_pos c44, ed d0, if_pos cd5, nI_clamp (by omega), o7, if_neg (show ¬ (6 : Int32) ≤ nI w from nI_ge (b := 6) w6 (by omega)), if_pos cd5, if_pos cd5, nI_1, some_bind, u2_oth _ _ _ (show 0 ≠ 28 by omega), t2, nI_1]
          rw [c_goes hN hCc hpN f hsep, hm64, tailM, some_bind, if_neg z10, f_X8_readTree_b56]
          refine hH hpN (u2 C 0 9 0) (u2 (u2 M 28 (d - 1) (nI (w + 1))) 0 39 (nI (p + 1))) m d dp f fv (by omega) hd ?_ ?_ ?_ ?_ ?_ (fun q => by omega) (by omega) (by omega)
          · exact ⟨by rw [u2_ne _ _ (Or.inr (by omega))]; exact s1, by rw [u2_ne _ _ (Or.inr (by omega))]; exact s2, by rw [u2_ne _ _ (Or.inr (by omega))]; exact s3, u2_eq _ _ _ _, fun k hk => by rw [u2_oth _ _ _ (by omega)]; exact s5 k hk⟩
          · exact ⟨by rw [u2_ne _ _ (Or.inr (by omega)), u2_oth _ _ _ (by omega)]; exact t1, u2_eq _ _ _ _, by rw [u2_ne _ _ (Or.inr (by omega)), u2_oth _ _ _ (by omega)]; exact t3, by rw [u2_ne _ _ (Or.inr (by omega)), u2_oth _ _ _ (by omega)]; exact t4, by rw [u2_ne _ _ (Or.inr (by omega)), u2_oth _ _ _ (by omega)]; exact t5, fun k hk => by rw [u2_oth _ _ _ (by omega), u2_oth _ _ _ (by omega)]; exact t6 k hk⟩
          · intro k hk
            have := hT k hk
            simp only [u2_oth _ _ _ (show 2 ≠ 0 by omega), u2_oth _ _ _ (show 3 ≠ 0 by omega), u2_oth _ _ _ (show 4 ≠ 0 by omega), u2_oth _ _ _ (show 24 ≠ 0 by omega), u2_oth _ _ _ (show 25 ≠ 0 by omega), u2_oth _ _ _ (show 26 ≠ 0 by omega), u2_oth _ _ _ (show 24 ≠ 28 by omega), u2_oth _ _ _ (show 25 ≠ 28 by omega), u2_oth _ _ _ (show 26 ≠ 28 by omega)]
            exact this
          · intro i hi
            obtain ⟨o', w', p1, p2, p3, p4, p5, p6, p7⟩ := hO i hi
            have e0 : (if i + 1 = d then 0 else 0) = 0 := by split <;> rfl
            rw [e0, Nat.add_zero] at p6 p7
            simp only [u2_oth _ _ _ (show 5 ≠ 0 by omega), u2_oth _ _ _ (show 6 ≠ 0 by omega), u2_oth _ _ _ (show 27 ≠ 0 by omega), u2_oth _ _ _ (show 28 ≠ 0 by omega), u2_oth _ _ _ (show 27 ≠ 28 by omega)]
            refine ⟨o', w', p1, p2, p3, p4, p5, ?_, ?_⟩
            · by_cases q : i + 1 = d
              · rw [if_pos q]
                have : i = d - 1 := by omega
                rw [this] at p5
                have := nIne (a := w') (b := w) (by omega) (by omega) (p5.symm.trans o5)
                omega
              · rw [if_neg q]
                omega
            · by_cases q : i + 1 = d
              · have hi1 : i = d - 1 := by omega
                rw [if_pos q, hi1, u2_eq]
                rw [hi1] at p5
                have := nIne (a := w') (b := w) (by omega) (by omega) (p5.symm.trans o5)
                rw [this]
              · rw [if_neg q, u2_ne _ _ (Or.inr (by omega)), Nat.add_zero]
                exact p7
          · exact ⟨fun i h0 h1 => by rw [u2_oth _ _ _ h0, u2_oth _ _ _ (by omega)]; exact hF.1 i h0 h1, fun b h1 h2 h3 h4 => by rw [u2_ne _ _ (Or.inr h1), u2_oth _ _ _ (by omega)]; exact hF.2 b h1 h2 h3 h4⟩
        · have hc := c_stop hN hCc hpN f (c_no hCc hd hr (h40 hpN) (h33 hpN) (fun q => by rw [c44] at q; exact absurd q (by decide)) (fun _ => Or.inr ⟨w, o5, by omega, by omega⟩))
          have hm := m_no hN hp hMc hd (fun _ q => by rw [c44] at q; exact absurd q (by decide)) (fun _ _ => Or.inr ⟨w, o7, by omega, by omega⟩) g
          rw [hc, hm, m_162 hN hp hMc hd, if_neg (fun q => d0 q.1)]
          obtain ⟨q, q1, q2⟩ := tailM_bad (fv := fv) (p := p) (by omega) hF (by omega) t2 C
          exact ⟨_, q, rfl, q1, q2⟩
      · have hc := c_stop hN hCc hpN f (c_no hCc hd hr (h40 hpN) (h33 hpN) (fun q => by
          by_cases d0 : d = 0
          · exact d0
          · exact absurd ⟨q, d0⟩ c41) (fun q => by
          by_cases d0 : d = 0
          · exact Or.inl d0
          · exact absurd ⟨q, d0⟩ c44))
        have hm := m_no hN hp hMc hd (fun _ q => by
          by_cases d0 : d = 0
          · exact d0
          · exact absurd ⟨q, d0⟩ c41) (fun _ q => by
          by_cases d0 : d = 0
          · exact Or.inl d0
          · exact absurd ⟨q, d0⟩ c44) g
        rw [hc, hm, m_162 hN hp hMc hd, if_neg (fun q => by omega)]
        obtain ⟨q, q1, q2⟩ := tailM_bad (fv := fv) (p := p) (by omega) hF (by omega) t2 C
        exact ⟨_, q, rfl, q1, q2⟩
  · have hpe : p = N := by omega
    subst hpe
    have hm := m_no hN hp hMc hd (fun q => absurd q hpN) (fun q => absurd q hpN) g
    rw [hm, m_162 hN hp hMc hd]
    have hc : f_X5_parse_b17 (f + 1) (nI p) C = if d = 0 then some (-5, C) else some (nI p, C) := by
      rw [f_X5_parse_b17, s1, if_pos ((nI_leI (by omega) (by omega)).mpr (Nat.le_refl _)), s4, if_neg (r_ne0 hr), s3]
      by_cases d0 : d = 0
      · rw [if_pos ((le0_nI (by omega)).mpr d0), if_pos d0, f_X5_parse_b69]
      · rw [if_neg (fun q => d0 ((le0_nI (by omega)).mp q)), if_neg d0, f_X5_parse_b60, f_X5_parse_b69, s1]
    rw [hc]
    by_cases d0 : d = 0
    · rw [if_pos d0, if_pos ⟨d0, rfl⟩]
      refine ⟨(-5, C), (1, M), rfl, ?_, hF, Or.inr ⟨rfl, rfl, m, dp, hm1, by omega, s2, t4, hT⟩⟩
      rw [tailM, some_bind, if_pos rfl, f_X8_readTree_b55, f_X8_readTree_b56, m_stop fv M 0 t3 (Or.inl rfl) (by omega), if_pos rfl]
    · rw [if_neg d0, if_neg (fun q => d0 q.1)]
      obtain ⟨q, q1, q2⟩ := tailM_bad (fv := fv) (p := p) (by omega) hF (by omega) t2 C
      exact ⟨_, q, rfl, q1, q2⟩
