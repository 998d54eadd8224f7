/-! ===== a world within a world ===== -/
def fkM (φ : Nat → Nat) : FK → FK
  | none => none
  | some (.inl j) => some (.inl (φ j))
  | some (.inr q) => some (.inr (φ q.1, φ q.2))
def shM (φ : Nat → Nat) : SH → SH
  | .inl (ci, fks) => .inl (ci, fks.map (fkM φ))
  | .inr (t, n, none) => .inr (t, n, none)
  | .inr (t, n, some g) => .inr (t, n, some (fun j => φ (g j)))
theorem fv_M (ad φ : Nat → Nat) (f : Nat → Int32) (k : Nat) (fk : FK) : fv ad f k (fkM φ fk) = fv (fun i => ad (φ i)) f k fk := by
  cases fk with
  | none => rfl
  | some q => cases q <;> rfl
theorem cel_M {cA : Nat → ClassId} {S S' : SF} {ad φ : Nat → Nat} {I I' : IS} {J J' : JS} {i : Nat} (h : S (φ i) = shM φ (S' i)) (hI : I (φ i) = I' i) (hJ : J (φ i) = J' i) : cel cA S ad I J (φ i) = cel cA S' (fun k => ad (φ k)) I' J' i := by
  unfold cel
  rw [h, hI, hJ]
  cases S' i with
  | inl q =>
    obtain ⟨ci, fks⟩ := q
    show (Sum.inr _ : va_E) = Sum.inr _
    congr 2
    apply List.ext_getElem?
    intro k
    rw [List.getElem?_mapIdx, List.getElem?_mapIdx, List.getElem?_map]
    cases fks[k]? with
    | none => rfl
    | some fk =>
      exact congrArg some (fv_M ad φ (I' i) k fk)
  | inr q =>
    obtain ⟨t, n, g⟩ := q
    cases g <;> rfl
def SUB (S : SF) (N : Nat) (S' : SF) (N' : Nat) (φ : Nat → Nat) : Prop := (∀ i, i < N' → φ i < N) ∧ (∀ i j, i < N' → j < N' → φ i = φ j → i = j) ∧ ∀ i, i < N' → S (φ i) = shM φ (S' i)
/-- the part of a world that lies from e on -/
def zI {α : Type} (e : Nat) (I : Nat → α) : Nat → α := fun i => I (e + i)
/-- .. put back -/
def gI {α : Type} (e n : Nat) (I'' I : Nat → α) : Nat → α := fun j => if e ≤ j ∧ j < e + n then I'' (j - e) else I j
theorem gI_in {α : Type} {e n i : Nat} {I'' I : Nat → α} (h : i < n) : gI e n I'' I (e + i) = I'' i := by
  unfold gI
  rw [if_pos ⟨by omega, by omega⟩]
  congr 1
  omega
theorem gI_out {α : Type} {e n j : Nat} {I'' I : Nat → α} (h : j < e ∨ e + n ≤ j) : gI e n I'' I j = I j := by
  unfold gI
  rw [if_neg (by omega)]
/-- two parts, of n and n' cells, from a and from b on -/
def o2 (a n b : Nat) (i : Nat) : Nat := if i < n then a + i else b + (i - n)
def zI2 {α : Type} (a n b : Nat) (I : Nat → α) : Nat → α := fun i => I (o2 a n b i)
def gI2 {α : Type} (a n b n' : Nat) (I'' I : Nat → α) : Nat → α := fun j => if a ≤ j ∧ j < a + n then I'' (j - a) else if b ≤ j ∧ j < b + n' then I'' (n + (j - b)) else I j
theorem zm_R {S : SF} {N : Nat} {S' : SF} {N' : Nat} {φ : Nat → Nat} (h : SUB S N S' N' φ) (I : IS) (J : JS) (v : Option Value) : ZM S N S' N' φ I J (fun i => I (φ i)) (fun i => J (φ i)) (v, (fun i => I (φ i)), (fun i => J (φ i))) I J :=
  ⟨h.1, h.2.1, fun cA ad i hi => (cel_M (h.2.2 i hi) rfl rfl).symm, fun cA ad i hi => cel_M (h.2.2 i hi) rfl rfl, fun _ _ _ _ _ => rfl⟩
theorem zm_W {S : SF} {N : Nat} {S' : SF} {N' : Nat} {φ : Nat → Nat} (h : SUB S N S' N' φ) (I : IS) (J : JS) (v : Option Value) {I'' I2 : IS} {J'' J2 : JS} (hI : ∀ i, i < N' → I2 (φ i) = I'' i) (hJ : ∀ i, i < N' → J2 (φ i) = J'' i) (hIo : ∀ j, (∀ i, i < N' → φ i ≠ j) → I2 j = I j) (hJo : ∀ j, (∀ i, i < N' → φ i ≠ j) → J2 j = J j) : ZM S N S' N' φ I J (fun i => I (φ i)) (fun i => J (φ i)) (v, I'', J'') I2 J2 :=
  ⟨h.1, h.2.1, fun cA ad i hi => (cel_M (h.2.2 i hi) rfl rfl).symm, fun cA ad i hi => cel_M (h.2.2 i hi) (hI i hi) (hJ i hi), fun _ _ j _ hj => cel_I (hIo j hj) (hJo j hj)⟩
/-- one part, read alone -/
theorem zm1R {S : SF} {N : Nat} {S' : SF} {N' e : Nat} (h : SUB S N S' N' (fun i => e + i)) (I : IS) (J : JS) (v : Option Value) : ZM S N S' N' (fun i => e + i) I J (zI e I) (zI e J) (v, zI e I, zI e J) I J := zm_R h I J v
theorem gI_o {α : Type} {e n j : Nat} {I'' I : Nat → α} (h : ∀ i, i < n → e + i ≠ j) : gI e n I'' I j = I j := by
  refine gI_out ?_
  by_cases h1 : j < e
  · exact Or.inl h1
  · by_cases h2 : e + n ≤ j
    · exact Or.inr h2
    · exact absurd (by omega) (h (j - e) (by omega))
/-- one part, its ints written -/
theorem zm1I {S : SF} {N : Nat} {S' : SF} {N' e : Nat} (h : SUB S N S' N' (fun i => e + i)) (I : IS) (J : JS) (v : Option Value) (I'' : IS) : ZM S N S' N' (fun i => e + i) I J (zI e I) (zI e J) (v, I'', zI e J) (gI e N' I'' I) J :=
  zm_W h I J v (fun _ hi => gI_in hi) (fun _ _ => rfl) (fun _ hj => gI_o hj) (fun _ _ => rfl)
theorem zm1J {S : SF} {N : Nat} {S' : SF} {N' e : Nat} (h : SUB S N S' N' (fun i => e + i)) (I : IS) (J : JS) (v : Option Value) (I'' : IS) (J'' : JS) : ZM S N S' N' (fun i => e + i) I J (zI e I) (zI e J) (v, I'', J'') (gI e N' I'' I) (gI e N' J'' J) :=
  zm_W h I J v (fun _ hi => gI_in hi) (fun _ hi => gI_in hi) (fun _ hj => gI_o hj) (fun _ hj => gI_o hj)
theorem gI2_in {α : Type} {a n b n' i : Nat} {I'' I : Nat → α} (hd : a + n ≤ b ∨ b + n' ≤ a) (h : i < n + n') : gI2 a n b n' I'' I (o2 a n b i) = I'' i := by
  unfold gI2 o2
  by_cases h1 : i < n
  · rw [if_pos h1, if_pos ⟨by omega, by omega⟩]
    congr 1
    omega
  · rw [if_neg h1, if_neg (by omega), if_pos ⟨by omega, by omega⟩]
    congr 1
    omega
theorem gI2_o {α : Type} {a n b n' j : Nat} {I'' I : Nat → α} (h : ∀ i, i < n + n' → o2 a n b i ≠ j) : gI2 a n b n' I'' I j = I j := by
  unfold gI2
  rw [if_neg, if_neg]
  · intro hj
    have := h (n + (j - b)) (by omega)
    unfold o2 at this
    rw [if_neg (by omega)] at this
    omega
  · intro hj
    have := h (j - a) (by omega)
    unfold o2 at this
    rw [if_pos (by omega)] at this
    omega
/-- two parts, ints written -/
theorem zm2I {S : SF} {N : Nat} {S' : SF} {a n b n' N' : Nat} (hN : N' = n + n') (hd : a + n ≤ b ∨ b + n' ≤ a) (h : SUB S N S' N' (o2 a n b)) (I : IS) (J : JS) (v : Option Value) (I'' : IS) : ZM S N S' N' (o2 a n b) I J (zI2 a n b I) (zI2 a n b J) (v, I'', zI2 a n b J) (gI2 a n b n' I'' I) J := by
  subst hN
  exact zm_W h I J v (fun _ hi => gI2_in hd hi) (fun _ _ => rfl) (fun _ hj => gI2_o hj) (fun _ _ => rfl)
/-- the same object -/
theorem zm0 (S : SF) (N : Nat) (I : IS) (J : JS) (v : Option Value) (I'' : IS) (J'' : JS) : ZM S N S N (fun i => i) I J I J (v, I'', J'') I'' J'' :=
  ⟨fun _ h => h, fun _ _ _ _ h => h, fun _ _ _ _ => rfl, fun _ _ _ _ => rfl, fun _ _ j hj h => absurd rfl (h j hj)⟩
theorem sub_off {S S' : SF} {N N' e : Nat} (h1 : e + N' ≤ N) (h2 : ∀ i, i < N' → S (e + i) = shM (fun i => e + i) (S' i)) : SUB S N S' N' (fun i => e + i) := ⟨fun i hi => by show e + i < N; omega, fun i j _ _ h => by have h : e + i = e + j := h; omega, h2⟩
/-! ===== the shapes ===== -/
def fR (j : Nat) : FK := some (.inl j)
def ia (n : Nat) : SH := .inr (0, n, none)
def za (n : Nat) : SH := .inr (2, n, none)
def ja (n : Nat) : SH := .inr (1, n, none)
def SArm : SF := fun i => if i = 0 then .inl (0, [fR 1, none, none, none, none]) else ia 32
def SEnt : SF := fun i => if i = 0 then .inl (1, [fR 1, fR 2, fR 3, fR 4, fR 5, none, none, none]) else ia 40
def SPrs (n : Nat) : SF := fun i => if i = 0 then .inl (2, [fR 1, fR 2, none]) else ia n
def STap : SF := fun i => if i = 0 then .inl (3, [fR 1, none, none]) else ja 60
def STas : SF := fun i => if i = 0 then .inl (4, [fR 1, fR 2, fR 3, fR 4, fR 5, fR 6, fR 7, fR 8, none]) else ia 32
def STxt : SF := fun i => if i = 0 then .inl (5, [fR 1, none, fR 2, fR 3, fR 4, none, fR 5, fR 6, none, none]) else if i < 5 then ia 100 else ia 4
def at_ (e : Nat) (S' : SF) (i : Nat) : SH := shM (fun k => e + k) (S' (i - e))
def gArm (j : Nat) : Nat := 2 + 2 * (j % 4)
def gTap (j : Nat) : Nat := 111 + 2 * (j % 6)
def SWor : SF := fun i => if i = 0 then .inl (6, [fR 1, fR 10, fR 19, fR 25, fR 28, fR 31, none, none, none]) else if i = 1 then .inr (3, 4, some gArm) else if i < 10 then at_ (2 + 2 * ((i - 2) / 2)) SArm i else if i < 19 then at_ 10 STas i else if i < 25 then at_ 19 SEnt i else if i < 28 then at_ 25 (SPrs 5) i else if i < 31 then at_ 28 (SPrs 10) i else at_ 31 (SPrs 8) i
def STop : SF := fun i => if i = 0 then .inl (7, [fR 1, fR 35, fR 69, fR 103, fR 110, none]) else if i < 35 then at_ 1 SWor i else if i < 69 then at_ 35 SWor i else if i < 103 then at_ 69 SWor i else if i < 110 then at_ 103 STxt i else if i = 110 then .inr (4, 6, some gTap) else at_ (111 + 2 * ((i - 111) / 2)) STap i
def mLen : List SH := [ia 4, ia 128, ia 4, ia 4, ia 4, ia 32, ia 32, ia 32, ia 32, ia 32, ia 32, ia 32, ia 160, ia 5, ia 5, ia 10, ia 10, ia 8, ia 8, ia 600, ia 600, za 32, ia 100, ia 101, ia 101, ia 101, ia 5, ia 5, ia 32, ia 32, ia 6, ia 6, ja 360, ja 60, za 6]
def mFld : List FK := [none, fR 1, fR 2, fR 3, fR 4, fR 5, none, fR 6, fR 7, fR 8, fR 9, fR 10, fR 11, fR 12, none, none, none, fR 13, none, fR 14, fR 15, none, fR 16, fR 17, none, fR 18, fR 19, none, none, none, fR 20, fR 21, none, none, none, some (.inr (20, 21)), fR 22, fR 23, none, none, none, none, fR 24, fR 25, fR 26, none, fR 27, fR 28, fR 29, fR 30, fR 31, fR 32, fR 33, fR 34, fR 35]
def SMod : SF := fun i => if i = 0 then .inl (8, mFld) else mLen.getD (i - 1) (ia 0)
/-- two objects of one class, one behind the other -/
def dbl (n : Nat) (S' : SF) : SF := fun i => if i < n then S' i else at_ n S' i
theorem shM_id (x : SH) : shM (fun k => 0 + k) x = x := by
  have e : (fun k : Nat => 0 + k) = fun k => k := by funext k; exact Nat.zero_add k
  rw [e]
  cases x with
  | inl q =>
    obtain ⟨ci, fks⟩ := q
    show (Sum.inl _ : SH) = Sum.inl _
    congr 2
    have : fkM (fun k => k) = id := by
      funext fk
      cases fk with
      | none => rfl
      | some q => cases q <;> rfl
    rw [this, List.map_id]
  | inr q =>
    obtain ⟨t, n, g⟩ := q
    cases g <;> rfl
theorem fkM_M (φ ψ : Nat → Nat) (fk : FK) : fkM φ (fkM ψ fk) = fkM (fun i => φ (ψ i)) fk := by
  cases fk with
  | none => rfl
  | some q => cases q <;> rfl
theorem shM_M (φ ψ : Nat → Nat) (x : SH) : shM φ (shM ψ x) = shM (fun i => φ (ψ i)) x := by
  cases x with
  | inl q =>
    obtain ⟨ci, fks⟩ := q
    show (Sum.inl _ : SH) = Sum.inl _
    congr 2
    rw [List.map_map]
    congr 1
    funext fk
    exact fkM_M φ ψ fk
  | inr q =>
    obtain ⟨t, n, g⟩ := q
    cases g <;> rfl
theorem at_M (e f : Nat) (S' : SF) (i : Nat) : shM (fun k => e + k) (at_ f S' i) = shM (fun k => e + (f + k)) (S' (i - f)) := shM_M _ _ _
theorem at_e (e : Nat) (S' : SF) (i : Nat) : at_ e S' (e + i) = shM (fun k => e + k) (S' i) := by
  unfold at_
  rw [Nat.add_sub_cancel_left]
theorem sub_Wor_arm (a : Nat) : SUB SWor 34 SArm 2 (fun i => gArm a + i) := by
  have h4 : a % 4 < 4 := Nat.mod_lt _ (by omega)
  refine sub_off (by unfold gArm; omega) (fun i hi => ?_)
  have e : 2 + 2 * ((gArm a + i - 2) / 2) = gArm a := by unfold gArm; omega
  unfold SWor
  rw [if_neg (by unfold gArm; omega), if_neg (by unfold gArm; omega), if_pos (by unfold gArm; omega), e]
  exact at_e _ _ _
theorem sub_Wor_tas : SUB SWor 34 STas 9 (fun i => 10 + i) := sub_off (by omega) (fun i hi => by
  unfold SWor
  rw [if_neg (by omega), if_neg (by omega), if_neg (by omega), if_pos (by omega)]
  exact at_e _ _ _)
theorem sub_Wor_ent : SUB SWor 34 SEnt 6 (fun i => 19 + i) := sub_off (by omega) (fun i hi => by
  unfold SWor
  rw [if_neg (by omega), if_neg (by omega), if_neg (by omega), if_neg (by omega), if_pos (by omega)]
  exact at_e _ _ _)
theorem sub_Wor_seen : SUB SWor 34 (SPrs 5) 3 (fun i => 25 + i) := sub_off (by omega) (fun i hi => by
  unfold SWor
  rw [if_neg (by omega), if_neg (by omega), if_neg (by omega), if_neg (by omega), if_neg (by omega), if_pos (by omega)]
  exact at_e _ _ _)
theorem sub_Wor_plan : SUB SWor 34 (SPrs 10) 3 (fun i => 28 + i) := sub_off (by omega) (fun i hi => by
  unfold SWor
  rw [if_neg (by omega), if_neg (by omega), if_neg (by omega), if_neg (by omega), if_neg (by omega), if_neg (by omega), if_pos (by omega)]
  exact at_e _ _ _)
theorem sub_Wor_book : SUB SWor 34 (SPrs 8) 3 (fun i => 31 + i) := sub_off (by omega) (fun i hi => by
  unfold SWor
  rw [if_neg (by omega), if_neg (by omega), if_neg (by omega), if_neg (by omega), if_neg (by omega), if_neg (by omega), if_neg (by omega)]
  exact at_e _ _ _)
theorem sub_Top_now : SUB STop 123 SWor 34 (fun i => 1 + i) := sub_off (by omega) (fun i hi => by
  unfold STop
  rw [if_neg (by omega), if_pos (by omega)]
  exact at_e _ _ _)
theorem sub_Top_kept : SUB STop 123 SWor 34 (fun i => 35 + i) := sub_off (by omega) (fun i hi => by
  unfold STop
  rw [if_neg (by omega), if_neg (by omega), if_pos (by omega)]
  exact at_e _ _ _)
theorem sub_Top_asked : SUB STop 123 SWor 34 (fun i => 69 + i) := sub_off (by omega) (fun i hi => by
  unfold STop
  rw [if_neg (by omega), if_neg (by omega), if_neg (by omega), if_pos (by omega)]
  exact at_e _ _ _)
theorem sub_Top_text : SUB STop 123 STxt 7 (fun i => 103 + i) := sub_off (by omega) (fun i hi => by
  unfold STop
  rw [if_neg (by omega), if_neg (by omega), if_neg (by omega), if_neg (by omega), if_pos (by omega)]
  exact at_e _ _ _)
theorem sub_Top_tape (a : Nat) : SUB STop 123 STap 2 (fun i => gTap a + i) := by
  have h4 : a % 6 < 6 := Nat.mod_lt _ (by omega)
  refine sub_off (by unfold gTap; omega) (fun i hi => ?_)
  have e : 111 + 2 * ((gTap a + i - 111) / 2) = gTap a := by unfold gTap; omega
  unfold STop
  rw [if_neg (by unfold gTap; omega), if_neg (by unfold gTap; omega), if_neg (by unfold gTap; omega), if_neg (by unfold gTap; omega), if_neg (by unfold gTap; omega), if_neg (by unfold gTap; omega), e]
  exact at_e _ _ _
theorem sub_tr {S S1 S2 : SF} {N N1 N2 e f : Nat} (h1 : SUB S N S1 N1 (fun i => e + i)) (h2 : SUB S1 N1 S2 N2 (fun i => f + i)) : SUB S N S2 N2 (fun i => (e + f) + i) := by
  have ef : ∀ i, (e + f) + i = e + (f + i) := fun i => Nat.add_assoc e f i
  refine ⟨fun i hi => ?_, fun i j _ _ h => ?_, fun i hi => ?_⟩
  · show (e + f) + i < N
    rw [ef]
    exact h1.1 _ (h2.1 i hi)
  · have h : (e + f) + i = (e + f) + j := h
    omega
  · show S ((e + f) + i) = _
    rw [ef, h1.2.2 _ (h2.1 i hi), h2.2.2 i hi, shM_M]
    congr 1
    funext k
    exact (ef k).symm
/-- the cells that a world names are its own -/
def CLO (n : Nat) (S' : SF) : Prop := ∀ (φ ψ : Nat → Nat), (∀ j, j < n → φ j = ψ j) → ∀ i, i < n → shM φ (S' i) = shM ψ (S' i)
theorem clo_at {n n' e : Nat} {S' : SF} (h : CLO n' S') (he : e + n' ≤ n) {φ ψ : Nat → Nat} (hφ : ∀ j, j < n → φ j = ψ j) {i : Nat} (h1 : e ≤ i) (h2 : i < e + n') : shM φ (at_ e S' i) = shM ψ (at_ e S' i) := by
  unfold at_
  rw [shM_M, shM_M]
  exact h _ _ (fun j hj => hφ _ (by omega)) _ (by omega)
theorem clo_Arm : CLO 2 SArm := fun φ ψ h i hi => by
  by_cases h0 : i = 0
  · subst h0
    simp [SArm, shM, fkM, fR, h 1 (by omega)]
  · simp [SArm, h0, ia, shM]
theorem clo_Ent : CLO 6 SEnt := fun φ ψ h i hi => by
  by_cases h0 : i = 0
  · subst h0
    simp [SEnt, shM, fkM, fR, h 1 (by omega), h 2 (by omega), h 3 (by omega), h 4 (by omega), h 5 (by omega)]
  · simp [SEnt, h0, ia, shM]
theorem clo_Prs (n : Nat) : CLO 3 (SPrs n) := fun φ ψ h i hi => by
  by_cases h0 : i = 0
  · subst h0
    simp [SPrs, shM, fkM, fR, h 1 (by omega), h 2 (by omega)]
  · simp [SPrs, h0, ia, shM]
theorem clo_Tas : CLO 9 STas := fun φ ψ h i hi => by
  by_cases h0 : i = 0
  · subst h0
    simp [STas, shM, fkM, fR, h 1 (by omega), h 2 (by omega), h 3 (by omega), h 4 (by omega), h 5 (by omega), h 6 (by omega), h 7 (by omega), h 8 (by omega)]
  · simp [STas, h0, ia, shM]
theorem clo_Wor : CLO 34 SWor := fun φ ψ h i hi => by
  unfold SWor
  by_cases h0 : i = 0
  · rw [if_pos h0]
    simp [shM, fkM, fR, h 1 (by omega), h 10 (by omega), h 19 (by omega), h 25 (by omega), h 28 (by omega), h 31 (by omega)]
  rw [if_neg h0]
  by_cases h1 : i = 1
  · rw [if_pos h1]
    have e : (fun j => φ (gArm j)) = fun j => ψ (gArm j) := by
      funext j
      exact h _ (by have h4 : j % 4 < 4 := Nat.mod_lt _ (by omega); unfold gArm; omega)
    simp [shM, e]
  rw [if_neg h1]
  by_cases h2 : i < 10
  · rw [if_pos h2]
    exact clo_at clo_Arm (by omega) h (by omega) (by omega)
  rw [if_neg h2]
  by_cases h3 : i < 19
  · rw [if_pos h3]
    exact clo_at clo_Tas (by omega) h (by omega) (by omega)
  rw [if_neg h3]
  by_cases h4 : i < 25
  · rw [if_pos h4]
    exact clo_at clo_Ent (by omega) h (by omega) (by omega)
  rw [if_neg h4]
  by_cases h5 : i < 28
  · rw [if_pos h5]
    exact clo_at (clo_Prs 5) (by omega) h (by omega) (by omega)
  rw [if_neg h5]
  by_cases h6 : i < 31
  · rw [if_pos h6]
    exact clo_at (clo_Prs 10) (by omega) h (by omega) (by omega)
  · rw [if_neg h6]
    exact clo_at (clo_Prs 8) (by omega) h (by omega) (by omega)
theorem sub_o2 {S S' : SF} {N n a b : Nat} (hc : CLO n S') (h1 : SUB S N S' n (fun i => a + i)) (h2 : SUB S N S' n (fun i => b + i)) (hd : a + n ≤ b ∨ b + n ≤ a) : SUB S N (dbl n S') (n + n) (o2 a n b) := by
  refine ⟨fun i hi => ?_, fun i j hi hj h => ?_, fun i hi => ?_⟩
  · unfold o2
    by_cases h : i < n
    · rw [if_pos h]; exact h1.1 i h
    · rw [if_neg h]; exact h2.1 (i - n) (by omega)
  · unfold o2 at h
    by_cases c1 : i < n <;> by_cases c2 : j < n <;> simp only [c1, c2, if_true, if_false] at h <;> omega
  · by_cases h : i < n
    · have e1 : o2 a n b i = a + i := by unfold o2; rw [if_pos h]
      have e2 : dbl n S' i = S' i := by unfold dbl; rw [if_pos h]
      rw [e1, e2, h1.2.2 i h]
      exact hc _ _ (fun j hj => by unfold o2; rw [if_pos hj]) i h
    · have e1 : o2 a n b i = b + (i - n) := by unfold o2; rw [if_neg h]
      have e2 : dbl n S' i = at_ n S' i := by unfold dbl; rw [if_neg h]
      rw [e1, e2, h2.2.2 (i - n) (by omega)]
      unfold at_
      rw [shM_M]
      congr 1
      funext k
      unfold o2
      rw [if_neg (by omega)]
      congr 1
      omega
theorem sub_dbl1 {S' : SF} {n : Nat} (hc : CLO n S') : SUB (dbl n S') (n + n) S' n (fun i => 0 + i) := sub_off (by omega) (fun i hi => by
  rw [Nat.zero_add]
  unfold dbl
  rw [if_pos hi]
  exact (shM_id _).symm)
theorem sub_dbl2 {S' : SF} {n : Nat} : SUB (dbl n S') (n + n) S' n (fun i => n + i) := sub_off (by omega) (fun i hi => by
  unfold dbl
  rw [if_neg (by omega)]
  exact at_e _ _ _)
theorem sub_0 {S S' : SF} {N N' e : Nat} (h : SUB S N S' N' (fun i => (0 + e) + i)) : SUB S N S' N' (fun i => e + i) := by
  rw [Nat.zero_add] at h
  exact h
