/-! ===== Entries: the trace as a list of its latest 40; the tasks since the watch ===== -/
abbrev EN : Type := Int32 × Int32 × Int32 × Int32
def trAdd (tr : List EN) (e : EN) : List EN := if tr.length < 40 then tr ++ [e] else tr.tail ++ [e]
def enAt (I : IS) (k : Nat) : EN := (I 1 k, I 2 k, I 3 k, I 4 k)
def RWa (I : IS) (lg : List Int32) : Prop := I 0 5 = nI (min lg.length 40) ∧ ∀ k, k < min lg.length 40 → lg[k]? = some (I 5 k)
def RTr (I : IS) (tr : List EN) : Prop := ∃ old : Nat, old < 40 ∧ I 0 6 = nI old ∧ I 0 7 = nI tr.length ∧ tr.length ≤ 40 ∧ ∀ k, k < tr.length → tr[k]? = some (enAt I ((old + k) % 40))
theorem trAdd_len {tr : List EN} {e : EN} (h : tr.length ≤ 40) : (trAdd tr e).length ≤ 40 := by
  unfold trAdd
  by_cases h1 : tr.length < 40
  · rw [if_pos h1]; simp; omega
  · rw [if_neg h1]; simp; omega
theorem rem40 {a : Nat} (h : a < 2 ^ 31) : nI a - nI a / (40 : Int32) * 40 = nI (a % 40) := pk_rem (d := 40) h (by omega) (by omega)
theorem ent_add {I : IS} {tr : List EN} {lg : List Int32} (h : RTr I tr) (hw : RWa I lg) (r a k t : Int32) : ∃ q, f_X1_add r a k t I = some q ∧ RTr q (trAdd tr (r, a, k, t)) ∧ RWa q (lg ++ [t]) := by
  obtain ⟨old, ho, h6, h7, hl, hk⟩ := h
  have hpl : (old + tr.length) % 40 < 40 := Nat.mod_lt _ (by omega)
  have c40 : okD (40 : Int32) = true := by decide
  have cok := okI_nI (j := (old + tr.length) % 40) (n := 40) hpl (by omega)
  have ep : (I 0 6 + I 0 7) - (I 0 6 + I 0 7) / (40 : Int32) * 40 = nI ((old + tr.length) % 40) := by
    rw [h6, h7, nI_add]
    exact rem40 (by omega)
  have etn : (nI ((old + tr.length) % 40)).toNatClampNeg = (old + tr.length) % 40 := nI_clamp (by omega)
  -- the watch
  have watch : ∀ J : IS, RWa J lg → ∃ q, f_X1_add_b82 t J = some q ∧ RWa q (lg ++ [t]) ∧ (∀ i k, i ≠ 5 → ¬ (i = 0 ∧ k = 5) → q i k = J i k) := by
    intro J hJ
    obtain ⟨w1, w2⟩ := hJ
    unfold f_X1_add_b82
    by_cases h40 : lg.length < 40
    · have hm : min lg.length 40 = lg.length := by omega
      rw [hm] at w1 w2
      have c4 : ¬ (40 : Int32) ≤ nI lg.length := nI_ge (b := 40) h40 (by omega)
      rw [w1, if_neg c4, if_pos (okI_nI h40 (by omega)), some_bind, nI_clamp (by omega)]
      refine ⟨_, rfl, ⟨?_, fun k hk => ?_⟩, fun i k hi h0 => ?_⟩
      · have : min (lg ++ [t]).length 40 = lg.length + 1 := by simp; omega
        rw [this]
        simp [u2_ap, w1, nI_1]
      · have hk : k < lg.length + 1 := by simp at hk; omega
        by_cases hkl : k < lg.length
        · rw [List.getElem?_append_left hkl, w2 k hkl]
          have : ¬ k = lg.length := by omega
          simp [u2_ap, this]
        · have : k = lg.length := by omega
          subst this
          simp [u2_ap]
      · rw [u2_ne _ _ (by by_cases hi0 : i = 0; exact Or.inr (fun q => h0 ⟨hi0, q⟩); exact Or.inl hi0), u2_ne _ _ (Or.inl hi)]
    · have hm : min lg.length 40 = 40 := by omega
      rw [hm] at w1 w2
      rw [w1, if_pos (by decide)]
      refine ⟨_, rfl, ⟨?_, fun k hk => ?_⟩, fun i k _ _ => rfl⟩
      · have : min (lg ++ [t]).length 40 = 40 := by simp; omega
        rw [this]
        exact w1
      · have hk : k < 40 := by simp at hk; omega
        rw [List.getElem?_append_left (by omega)]
        exact w2 k hk
  have put : ∀ J : IS, (∀ i b, i ≠ 1 → i ≠ 2 → i ≠ 3 → i ≠ 4 → J i b = I i b) → RWa J lg := fun J hJ => ⟨by rw [hJ 0 5 (by omega) (by omega) (by omega) (by omega)]; exact hw.1, fun k hk => by rw [hJ 5 k (by omega) (by omega) (by omega) (by omega)]; exact hw.2 k hk⟩
  have eW : ∀ (i b : Nat), (u2 (u2 (u2 (u2 I 1 ((old + tr.length) % 40) r) 2 ((old + tr.length) % 40) a) 3 ((old + tr.length) % 40) k) 4 ((old + tr.length) % 40) t) i b = if b = (old + tr.length) % 40 ∧ 1 ≤ i ∧ i ≤ 4 then (if i = 1 then r else if i = 2 then a else if i = 3 then k else t) else I i b := by
    intro i b
    simp only [u2_ap]
    by_cases hb : b = (old + tr.length) % 40
    · by_cases h1 : i = 1
      · subst h1; simp [hb]
      · by_cases h2 : i = 2
        · subst h2; simp [hb]
        · by_cases h3 : i = 3
          · subst h3; simp [hb]
          · by_cases h4 : i = 4
            · subst h4; simp [hb]
            · have : ¬ (1 ≤ i ∧ i ≤ 4) := by omega
              simp [hb, h1, h2, h3, h4, this]
    · simp [hb]
  generalize hW : (u2 (u2 (u2 (u2 I 1 ((old + tr.length) % 40) r) 2 ((old + tr.length) % 40) a) 3 ((old + tr.length) % 40) k) 4 ((old + tr.length) % 40) t) = Wn at eW
  have hWI : ∀ i b, i ≠ 1 → i ≠ 2 → i ≠ 3 → i ≠ 4 → Wn i b = I i b := fun i b h1 h2 h3 h4 => by
    rw [eW, if_neg]
    rintro ⟨-, h5, h6⟩
    omega
  have hen : ∀ b, b ≠ (old + tr.length) % 40 → enAt Wn b = enAt I b := fun b hb => by
    simp [enAt, eW, hb]
  have hen2 : enAt Wn ((old + tr.length) % 40) = (r, a, k, t) := by simp [enAt, eW]
  unfold f_X1_add
  rw [if_pos c40, ep, if_pos cok, some_bind, if_pos cok, some_bind, if_pos cok, some_bind, if_pos cok, some_bind, etn, hW]
  by_cases hlt : tr.length < 40
  · have c1 : ¬ (40 : Int32) ≤ Wn 0 7 := by
      rw [hWI 0 7 (by omega) (by omega) (by omega) (by omega), h7]
      exact fun q => absurd ((nI_leI (a := 40) (by omega) (by omega)).mp q) (by omega)
    rw [if_neg c1]
    obtain ⟨q, q1, q2, q3⟩ := watch (u2 Wn 0 7 (Wn 0 7 + 1)) (by
      have := put Wn hWI
      exact ⟨by rw [u2_ne _ _ (Or.inr (by omega))]; exact this.1, fun k hk => by rw [u2_ne _ _ (Or.inl (by omega))]; exact this.2 k hk⟩)
    refine ⟨q, q1, ⟨old, ho, ?_, ?_, trAdd_len hl, fun j hj => ?_⟩, q2⟩
    · rw [q3 0 6 (by omega) (by omega), u2_ne _ _ (Or.inr (by omega)), hWI 0 6 (by omega) (by omega) (by omega) (by omega), h6]
    · rw [q3 0 7 (by omega) (by omega), u2_eq, hWI 0 7 (by omega) (by omega) (by omega) (by omega), h7, nI_1, trAdd, if_pos hlt, List.length_append]
      rfl
    · have hq : ∀ b, enAt q b = enAt Wn b := fun b => by
        unfold enAt
        rw [q3 1 b (by omega) (by omega), q3 2 b (by omega) (by omega), q3 3 b (by omega) (by omega), q3 4 b (by omega) (by omega)]
        simp [u2_ap]
      rw [hq]
      rw [trAdd, if_pos hlt] at hj ⊢
      rw [List.length_append, List.length_singleton] at hj
      by_cases hjl : j < tr.length
      · rw [List.getElem?_append_left hjl, hk j hjl, hen _ (by omega)]
      · have : j = tr.length := by omega
        subst this
        rw [hen2]
        simp
  · have e40 : tr.length = 40 := by omega
    have c1 : (40 : Int32) ≤ Wn 0 7 := by
      rw [hWI 0 7 (by omega) (by omega) (by omega) (by omega), h7, e40]
      decide
    have eo : (Wn 0 6 + 1) - (Wn 0 6 + 1) / (40 : Int32) * 40 = nI ((old + 1) % 40) := by
      rw [hWI 0 6 (by omega) (by omega) (by omega) (by omega), h6, nI_1]
      exact rem40 (by omega)
    rw [if_pos c1, if_pos c40, eo]
    obtain ⟨q, q1, q2, q3⟩ := watch (u2 Wn 0 6 (nI ((old + 1) % 40))) (by
      have := put Wn hWI
      exact ⟨by rw [u2_ne _ _ (Or.inr (by omega))]; exact this.1, fun k hk => by rw [u2_ne _ _ (Or.inl (by omega))]; exact this.2 k hk⟩)
    refine ⟨q, q1, ⟨(old + 1) % 40, Nat.mod_lt _ (by omega), ?_, ?_, trAdd_len hl, fun j hj => ?_⟩, q2⟩
    · rw [q3 0 6 (by omega) (by omega), u2_eq]
    · rw [q3 0 7 (by omega) (by omega), u2_ne _ _ (Or.inr (by omega)), hWI 0 7 (by omega) (by omega) (by omega) (by omega), h7, trAdd, if_neg hlt, List.length_append, List.length_tail]
      congr 1
      simp
      omega
    · have hq : ∀ b, enAt q b = enAt Wn b := fun b => by
        unfold enAt
        rw [q3 1 b (by omega) (by omega), q3 2 b (by omega) (by omega), q3 3 b (by omega) (by omega), q3 4 b (by omega) (by omega)]
        simp [u2_ap]
      rw [hq]
      rw [trAdd, if_neg hlt] at hj ⊢
      rw [List.length_append, List.length_singleton, List.length_tail] at hj
      by_cases hjl : j < 39
      · rw [List.getElem?_append_left (by rw [List.length_tail]; omega), List.getElem?_tail, hk (j + 1) (by omega), hen _ (by omega)]
        congr 2
        omega
      · have : j = 39 := by omega
        subst this
        have e9 : ((old + 1) % 40 + 39) % 40 = (old + tr.length) % 40 := by omega
        rw [e9, hen2, List.getElem?_append_right (by rw [List.length_tail]; omega), List.length_tail, e40]
        rfl
def enF (e : EN) (x : Int32) : Int32 := if x = 0 then e.1 else if x = 1 then e.2.1 else if x = 2 then e.2.2.1 else e.2.2.2
theorem ent_entry {I : IS} {tr : List EN} (h : RTr I tr) (x1 x2 : Int32) : f_X1_entry x1 x2 I = some (if x1 < 0 then -1 else match tr[x1.toNatClampNeg]? with | none => -1 | some e => if x2 = 0 ∨ x2 = 1 ∨ x2 = 2 ∨ x2 = 3 then enF e x2 else -1) := by
  obtain ⟨old, ho, h6, h7, hl, hk⟩ := h
  have c40 : okD (40 : Int32) = true := by decide
  unfold f_X1_entry f_X1_entry_b12
  by_cases hx : x1 < 0
  · rw [if_pos hx, if_pos hx]
  · rw [if_neg hx, if_neg hx]
    obtain ⟨j, hj, rfl⟩ := nI_of hx
    rw [nI_clamp hj, h7]
    by_cases hjl : j < tr.length
    · rw [if_pos ((nI_ltI hj (by omega)).mpr hjl), if_pos c40, hk j hjl]
      have hpl : (old + j) % 40 < 40 := Nat.mod_lt _ (by omega)
      have ep : (I 0 6 + nI j) - (I 0 6 + nI j) / (40 : Int32) * 40 = nI ((old + j) % 40) := by
        rw [h6, nI_add]
        exact rem40 (by omega)
      have cok := okI_nI (j := (old + j) % 40) (n := 40) hpl (by omega)
      rw [ep, if_pos cok, if_pos cok, if_pos cok, if_pos cok, nI_clamp (by omega)]
      show _ = some (if x2 = 0 ∨ x2 = 1 ∨ x2 = 2 ∨ x2 = 3 then enF (enAt I ((old + j) % 40)) x2 else -1)
      unfold enF enAt
      by_cases h0 : x2 = 0
      · simp [h0]
      · by_cases h1 : x2 = 1
        · simp [h1]
        · by_cases h2 : x2 = 2
          · simp [h2]
          · by_cases h3 : x2 = 3
            · simp [h3]
            · simp [h0, h1, h2, h3]
    · rw [if_neg (fun q => hjl ((nI_ltI hj (by omega)).mp q)), List.getElem?_eq_none (by omega)]
theorem ent_watch {I : IS} {tr : List EN} (h : RTr I tr) : ∃ q, f_X1_watch I = some q ∧ RTr q tr ∧ RWa q [] := by
  obtain ⟨old, ho, h6, h7, hl, hk⟩ := h
  refine ⟨_, rfl, ⟨old, ho, by simpa [u2_ap] using h6, by simpa [u2_ap] using h7, hl, fun k hk2 => ?_⟩, by simp [u2_ap]; rfl, fun k hk => by simp at hk⟩
  rw [hk k hk2]
  simp [enAt, u2_ap]
theorem ent_watched {I : IS} {lg : List Int32} (h : RWa I lg) {k : Nat} (hk : k < 40) : f_X1_watchedTask (nI k) I = some ((lg[k]?).getD (-5)) := by
  obtain ⟨w1, w2⟩ := h
  unfold f_X1_watchedTask f_X1_watchedTask_b21 f_X1_watchedTask_b23
  rw [if_neg (nI_pos (by omega)), w1]
  by_cases hkl : k < lg.length
  · rw [if_neg (fun q => absurd ((nI_leI (by omega) (by omega)).mp q) (by omega)), if_pos (okI_nI hk (by omega)), nI_clamp (by omega), w2 k (by omega)]
    rfl
  · rw [if_pos ((nI_leI (by omega) (by omega)).mpr (by omega)), List.getElem?_eq_none (by omega)]
    rfl
theorem ent_become {I : IS} {tr : List EN} {lg : List Int32} (h : RTr (zI 6 I) tr) (hw : RWa I lg) : ∃ q, f_X1_become I = some q ∧ RTr q tr ∧ RWa q lg := by
  obtain ⟨old, ho, h6, h7, hl, hk⟩ := h
  have c : okC (0 : Int32) 0 40 40 40 = true := by decide
  unfold f_X1_become
  rw [if_pos c, some_bind, if_pos c, some_bind, if_pos c, some_bind, if_pos c, some_bind]
  have e40 : (40 : Int32).toNatClampNeg = 40 := rfl
  have e0 : (0 : Int32).toNatClampNeg = 0 := rfl
  refine ⟨_, rfl, ⟨old, ho, by simpa [u2_ap, u1_ap, zI_ap] using h6, by simpa [u2_ap, u1_ap, zI_ap] using h7, hl, fun k hk2 => ?_⟩, by simpa [u2_ap, u1_ap] using hw.1, fun k hk2 => ?_⟩
  · rw [hk k hk2]
    have hm : (old + k) % 40 < 40 := Nat.mod_lt _ (by omega)
    simp [enAt, u2_ap, u1_ap, zI_ap, va_cpy, e40, e0, hm]
  · rw [hw.2 k hk2]
    simp [u2_ap, u1_ap]
/-! Pairs: rows of two -/
def RPr (n : Nat) (I : IS) (l : List (Int32 × Int32)) : Prop := I 0 2 = nI l.length ∧ l.length ≤ n ∧ ∀ k, k < l.length → l[k]? = some (I 1 k, I 2 k)
theorem prs_clear {n : Nat} (I : IS) : ∃ q, f_X2_clear n I = some (0, q) ∧ RPr n q [] := ⟨_, rfl, by simp [u2_ap]; rfl, by simp, fun k hk => absurd hk (Nat.not_lt_zero k)⟩
theorem prs_add {n : Nat} (hn : n < 100) {I : IS} {l : List (Int32 × Int32)} (h : RPr n I l) (x y : Int32) : (l.length < n ∧ ∃ q, f_X2_add n x y I = some (nI (l.length + 1), q) ∧ RPr n q (l ++ [(x, y)])) ∨ (l.length = n ∧ f_X2_add n x y I = some (-4, I)) := by
  obtain ⟨h1, h2, h3⟩ := h
  unfold f_X2_add
  by_cases hl : l.length < n
  · left
    refine ⟨hl, ?_⟩
    have c := okI_nI hl (show n < 2 ^ 31 by omega)
    have ex : u2 I 1 l.length x 0 2 = nI l.length := by rw [u2_ne _ _ (Or.inl (by omega)), h1]
    have c2 : nI l.length < Int32.ofNat n := (nI_ltI (by omega) (by omega)).mpr hl
    rw [h1, if_pos c2, if_pos c, nI_clamp (by omega), ex, if_pos c, some_bind, nI_clamp (by omega)]
    refine ⟨_, by simp only [u2_eq]; rw [u2_ne _ _ (Or.inl (by omega)), ex, nI_1], ?_, by simp; omega, fun k hk => ?_⟩
    · rw [List.length_append, u2_eq]
      rfl
    · rw [List.length_append, List.length_singleton] at hk
      by_cases hkl : k < l.length
      · rw [List.getElem?_append_left hkl, h3 k hkl]
        have : ¬ k = l.length := by omega
        simp [u2_ap, this]
      · have : k = l.length := by omega
        subst this
        simp [u2_ap]
  · right
    refine ⟨by omega, ?_⟩
    have c2 : ¬ nI l.length < Int32.ofNat n := fun q => hl ((nI_ltI (by omega) (show n < 2 ^ 31 by omega)).mp q)
    rw [h1, if_neg c2]
theorem prs_become {n : Nat} (hn : n < 100) {I : IS} {l : List (Int32 × Int32)} (h : RPr n (zI 3 I) l) : ∃ q, f_X2_become n I = some q ∧ RPr n q l := by
  obtain ⟨h1, h2, h3⟩ := h
  have h1 : I 3 2 = nI l.length := h1
  have e1 : (if (Int32.ofNat n) < (I 3 2) then (Int32.ofNat n) else (I 3 2)) = nI l.length := by
    have c2 : ¬ Int32.ofNat n < nI l.length := fun q => absurd ((nI_ltI (show n < 2 ^ 31 by omega) (by omega)).mp q) (by omega)
    rw [h1, if_neg c2]
  have e0 : (0 : Int32).toNatClampNeg = 0 := rfl
  have c : okC (0 : Int32) 0 (nI l.length) n n = true := by
    unfold okC
    refine decide_eq_true ⟨by decide, by decide, nI_pos (by omega), ?_, ?_⟩ <;> rw [e0, nI_clamp (by omega)] <;> omega
  unfold f_X2_become
  rw [e1, u2_eq, if_pos c, some_bind]
  have e2 : (u1 (u2 I 0 2 (nI l.length)) 1 (va_cpy (u2 I 0 2 (nI l.length) 4) (u2 I 0 2 (nI l.length) 1) (0 : Int32).toNatClampNeg (0 : Int32).toNatClampNeg (nI l.length).toNatClampNeg)) 0 2 = nI l.length := by
    rw [u1_o _ _ (by omega), u2_eq]
  rw [e2, if_pos c, some_bind]
  refine ⟨_, rfl, by simp [u2_ap, u1_ap], h2, fun k hk => ?_⟩
  rw [h3 k hk]
  have ec : (nI l.length).toNatClampNeg = l.length := nI_clamp (by omega)
  simp [u2_ap, u1_ap, zI_ap, va_cpy, e0, ec, hk]
