/-! ===== pure rows: numbers, rows, loops ===== -/
theorem okI_nI {j n : Nat} (h : j < n) (hn : n < 2 ^ 31) : okI (nI j) n = true := by
  unfold okI
  exact decide_eq_true (nI_in h hn)
theorem okI_of {x : Int32} {n : Nat} (h : okI x n = true) (hn : n < 2 ^ 31) : ∃ j, j < n ∧ x = nI j := vp_in_of (okI_in h) hn
theorem u2_ap {α : Type} (I : Nat → Nat → α) (i k : Nat) (v : α) (j b : Nat) : u2 I i k v j b = if j = i ∧ b = k then v else I j b := by
  unfold u2
  by_cases h : j = i
  · subst h
    by_cases hb : b = k
    · simp [hb]
    · simp [hb]
  · simp [h]
theorem u2_eq {α : Type} (I : Nat → Nat → α) (i k : Nat) (v : α) : u2 I i k v i k = v := by simp [u2_ap]
theorem u2_ne {α : Type} (I : Nat → Nat → α) {i k j b : Nat} (v : α) (h : j ≠ i ∨ b ≠ k) : u2 I i k v j b = I j b := by
  rw [u2_ap, if_neg]
  rintro ⟨h1, h2⟩
  rcases h with h | h
  · exact h h1
  · exact h h2
theorem u1_ap {α : Type} (I : Nat → α) (i : Nat) (f : α) (j : Nat) : u1 I i f j = if j = i then f else I j := rfl
theorem zI_ap {α : Type} (e : Nat) (I : Nat → α) (i : Nat) : zI e I i = I (e + i) := rfl
theorem gI_ap {α : Type} (e n : Nat) (I'' I : Nat → α) (j : Nat) : gI e n I'' I j = if e ≤ j ∧ j < e + n then I'' (j - e) else I j := rfl
theorem tnI {n : Nat} (h : n < 2 ^ 31) : (nI n).toInt = (n : Int) := nI_toInt h
theorem m5_ne {n : Nat} (h : n < 2 ^ 31) : nI n ≠ -5 := by
  intro e
  have h1 := congrArg Int32.toInt e
  rw [tnI h, show (-5 : Int32).toInt = -5 from rfl] at h1
  omega
theorem m5_lt0 : (-5 : Int32) < 0 := by decide
theorem nI_lt0 {n : Nat} (h : n < 2 ^ 31) : ¬ nI n < 0 := nI_pos h
theorem some_bind {α β : Type} (a : α) (f : α → Option β) : (some a).bind f = f a := rfl
theorem if_t {α : Type} {c : Prop} [Decidable c] {a b : α} (h : c) : (if c then a else b) = a := if_pos h
/-- a count that goes up: the states it goes through, and its end -/
theorem loop_up {σ R : Type} (Lp : Nat → Nat → σ → Option R) (e : Nat) (s : Nat → σ) {r : Option R} (hx : ∀ fu, Lp (fu + 1) e (s e) = r) (hs : ∀ fu j, j < e → Lp (fu + 1) j (s j) = Lp fu (j + 1) (s (j + 1))) : ∀ (k j fu : Nat), j + k = e → k < fu → Lp fu j (s j) = r := by
  intro k
  induction k with
  | zero =>
    intro j fu hj hf
    obtain ⟨f, rfl⟩ : ∃ f, fu = f + 1 := ⟨fu - 1, by omega⟩
    have : j = e := by omega
    subst this
    exact hx f
  | succ k ih =>
    intro j fu hj hf
    obtain ⟨f, rfl⟩ : ∃ f, fu = f + 1 := ⟨fu - 1, by omega⟩
    rw [hs f j (by omega)]
    exact ih (j + 1) f (by omega) (by omega)
/-- a property that a loop keeps, with its end's value: for loops whose states are told by a relation -/
theorem loop_inv {σ R : Type} (Lp : Nat → Nat → σ → Option R) (e : Nat) (P : Nat → σ → Prop) (Q : R → Prop) (hx : ∀ fu s, P e s → ∃ r, Lp (fu + 1) e s = some r ∧ Q r) (hs : ∀ fu j s, j < e → P j s → ∃ s', P (j + 1) s' ∧ Lp (fu + 1) j s = Lp fu (j + 1) s') : ∀ (k j fu : Nat) (s : σ), j + k = e → k < fu → P j s → ∃ r, Lp fu j s = some r ∧ Q r := by
  intro k
  induction k with
  | zero =>
    intro j fu s hj hf hP
    obtain ⟨f, rfl⟩ : ∃ f, fu = f + 1 := ⟨fu - 1, by omega⟩
    have : j = e := by omega
    subst this
    exact hx f s hP
  | succ k ih =>
    intro j fu s hj hf hP
    obtain ⟨f, rfl⟩ : ∃ f, fu = f + 1 := ⟨fu - 1, by omega⟩
    obtain ⟨s', hP', e1⟩ := hs f j s (by omega) hP
    rw [e1]
    exact ih (j + 1) f s' (by omega) (by omega) hP'
/-- the same, where the loop may end early -/
theorem loop_ret {σ R : Type} (Lp : Nat → Nat → σ → Option R) (e : Nat) (P : Nat → σ → Prop) (Q : R → Prop) (hx : ∀ fu s, P e s → ∃ r, Lp (fu + 1) e s = some r ∧ Q r) (hs : ∀ fu j s, j < e → P j s → (∃ r, Lp (fu + 1) j s = some r ∧ Q r) ∨ ∃ s', P (j + 1) s' ∧ Lp (fu + 1) j s = Lp fu (j + 1) s') : ∀ (k j fu : Nat) (s : σ), j + k = e → k < fu → P j s → ∃ r, Lp fu j s = some r ∧ Q r := by
  intro k
  induction k with
  | zero =>
    intro j fu s hj hf hP
    obtain ⟨f, rfl⟩ : ∃ f, fu = f + 1 := ⟨fu - 1, by omega⟩
    have : j = e := by omega
    subst this
    exact hx f s hP
  | succ k ih =>
    intro j fu s hj hf hP
    obtain ⟨f, rfl⟩ : ∃ f, fu = f + 1 := ⟨fu - 1, by omega⟩
    rcases hs f j s (by omega) hP with h | ⟨s', hP', e1⟩
    · exact h
    · rw [e1]
      exact ih (j + 1) f s' (by omega) (by omega) hP'
noncomputable def pB (p : Prop) : Bool := @decide p (Classical.propDecidable p)
theorem pB_iff {p : Prop} : pB p = true ↔ p := by
  unfold pB
  exact @decide_eq_true_iff p (Classical.propDecidable p)
theorem pB_not {p : Prop} : pB p = false ↔ ¬ p := by
  unfold pB
  exact @decide_eq_false_iff_not p (Classical.propDecidable p)
/-! the row of an arm, as a list -/
def isRow (f : Nat → Int32) (n : Int32) (l : List Int32) : Prop := n = nI l.length ∧ l.length ≤ 32 ∧ ∀ k, k < l.length → l[k]? = some (f k)
theorem isRow_get {f : Nat → Int32} {n : Int32} {l : List Int32} (h : isRow f n l) {k : Nat} (hk : k < l.length) : f k = l[k] := by
  have h1 := h.2.2 k hk
  rw [List.getElem?_eq_getElem hk] at h1
  exact (Option.some.inj h1).symm
theorem isRow_congr {f g : Nat → Int32} {n : Int32} {l : List Int32} (h : isRow f n l) (hg : ∀ k, k < l.length → g k = f k) : isRow g n l := ⟨h.1, h.2.1, fun k hk => by rw [hg k hk]; exact h.2.2 k hk⟩
