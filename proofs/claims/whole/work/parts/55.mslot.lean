/-! ===== the Model: what is kept, place by place ===== -/
def slot (p : Nat) : Nat × Nat :=
  if p < 5 then (0, if p = 0 then 0 else if p = 1 then 6 else p + 12)
  else if p < 21 then (if (p - 5) % 4 = 0 then 1 else (p - 5) % 4 + 2, (p - 5) / 4)
  else if p < 149 then (2, p - 21)
  else if p < 373 then (6 + (p - 149) % 7, (p - 149) / 7)
  else if p < 533 then (13, p - 373)
  else if p < 536 then (0, 18 + 3 * (p - 533))
  else if p < 546 then (14 + (p - 536) % 2, (p - 536) / 2)
  else if p < 566 then (16 + (p - 546) % 2, (p - 546) / 2)
  else (18 + (p - 566) % 2, (p - 566) / 2)
def unsl (i b : Nat) : Nat :=
  if i = 0 then (if b = 0 then 0 else if b = 6 then 1 else if b = 14 then 2 else if b = 15 then 3 else if b = 16 then 4 else if b = 18 then 533 else if b = 21 then 534 else 535)
  else if i = 1 then 5 + 4 * b
  else if i = 2 then 21 + b
  else if i < 6 then 5 + 4 * b + (i - 2)
  else if i < 13 then 149 + 7 * b + (i - 6)
  else if i = 13 then 373 + b
  else if i < 16 then 536 + 2 * b + (i - 14)
  else if i < 18 then 546 + 2 * b + (i - 16)
  else 566 + 2 * b + (i - 18)
theorem slot_un : ∀ p : Fin 582, unsl (slot p.val).1 (slot p.val).2 = p.val ∧ (slot p.val).1 ≤ 19 ∧ ((slot p.val).1 = 0 → (slot p.val).2 ≤ 24) := by decide +kernel
theorem slot_inj {p q : Nat} (hp : p < 582) (hq : q < 582) (h : slot p = slot q) : p = q := by
  have h1 := (slot_un ⟨p, hp⟩).1
  have h2 := (slot_un ⟨q, hq⟩).1
  have h1 : unsl (slot p).1 (slot p).2 = p := h1
  have h2 : unsl (slot q).1 (slot q).2 = q := h2
  rw [h] at h1
  exact h1.symm.trans h2
theorem slot_lo {p : Nat} (hp : p < 582) : (slot p).1 ≤ 19 ∧ ((slot p).1 = 0 → (slot p).2 ≤ 24) := (slot_un ⟨p, hp⟩).2
/-- at place p of the taking (tk) or the giving back, from the kept row at A, whose number is c -/
def CAR (tk : Bool) (A : Nat) (c : Int32) (I : IS) (p : Nat) (J : IS) : Prop :=
  J 0 33 = nI p ∧ J 0 34 = (if tk = true then 1 else 0) ∧ J 0 35 = c ∧
  (∀ i, i ≠ 0 → 20 ≤ i → i ≠ A → J i = I i) ∧
  (∀ b, 25 ≤ b → b ≠ 33 → b ≠ 34 → b ≠ 35 → J 0 b = I 0 b) ∧
  (tk = true → (∀ q, q < p → J A q = I (slot q).1 (slot q).2) ∧ (∀ i b, i ≤ 19 → (i = 0 → b ≤ 24) → J i b = I i b)) ∧
  (tk = false → J A = I A ∧ (∀ q, q < p → J (slot q).1 (slot q).2 = I A q) ∧ ∀ i b, i ≤ 19 → (i = 0 → b ≤ 24) → (∀ q, q < p → slot q ≠ (i, b)) → J i b = I i b)
theorem car_step {tk : Bool} {A : Nat} {c : Int32} (hA : (A = 20 ∧ c = 1) ∨ (A = 21 ∧ c = 2)) {I J : IS} {p i b : Nat} (hp : p < 582) (hs : slot p = (i, b)) (h : CAR tk A c I p J) : ∃ q, f_X8_carry (J i b) J = some q ∧ CAR tk A c I (p + 1) (u2 q.2 i b q.1) := by
  obtain ⟨h1, h2, h3, h4, h5, h6, h7⟩ := h
  obtain ⟨l1, l2⟩ := slot_lo hp
  rw [hs] at l1 l2
  have l1 : i ≤ 19 := l1
  have l2 : i = 0 → b ≤ 24 := l2
  have hA1 : A = 20 ∨ A = 21 := hA.elim (fun q => Or.inl q.1) (fun q => Or.inr q.1)
  have co : okI (nI p) 600 = true := okI_nI (by omega) (by omega)
  have c21 : ¬ (2 : Int32) = 1 := by decide
  have cm : nI (p + 1) - 1 = nI p := nI_s1 p
  have hb17 : ∀ X : IS, X 0 33 = nI p → X 0 35 = c → f_X8_carry_b17 X = some (X A p, u2 X 0 33 (nI (p + 1))) := by
    intro X x1 x2
    have y1 : u2 X 0 33 (nI (p + 1)) 0 35 = c := by rw [u2_ne _ _ (Or.inr (by omega)), x2]
    have y2 : u2 X 0 33 (nI (p + 1)) A = X A := u2_oth _ _ _ (by omega)
    rw [f_X8_carry_b17, x1, nI_1, u2_eq, cm, y1]
    rcases hA with ⟨rfl, rfl⟩ | ⟨rfl, rfl⟩
    · rw [if_pos rfl, if_pos co, nI_clamp (by omega), y2]
    · rw [if_neg c21, if_pos rfl, if_pos co, nI_clamp (by omega), y2]
  cases tk with
  | true =>
    obtain ⟨g1, g2⟩ := h6 rfl
    have h2 : J 0 34 = 1 := h2
    have hw : f_X8_carry (J i b) J = some (J i b, u2 (u2 J A p (J i b)) 0 33 (nI (p + 1))) := by
      have hx := hb17 (u2 J A p (J i b)) (by rw [u2_oth _ _ _ (by omega), h1]) (by rw [u2_oth _ _ _ (by omega), h3])
      rw [u2_eq] at hx
      rw [f_X8_carry, h2, if_neg z10, h1, h3]
      rcases hA with ⟨rfl, rfl⟩ | ⟨rfl, rfl⟩
      · rw [if_pos rfl, if_pos co, nI_clamp (by omega)]
        exact hx
      · rw [if_neg c21, if_pos rfl, if_pos co, nI_clamp (by omega)]
        exact hx
    refine ⟨_, hw, ?_⟩
    have e : u2 (u2 (u2 J A p (J i b)) 0 33 (nI (p + 1))) i b (J i b) = u2 (u2 J A p (J i b)) 0 33 (nI (p + 1)) := by
      refine u2_self _ _ _ ?_
      rw [u2_ne _ _ (by by_cases hi : i = 0; exact Or.inr (by have := l2 hi; omega); exact Or.inl hi), u2_oth _ _ _ (by omega)]
    show CAR true A c I (p + 1) (u2 (u2 (u2 J A p (J i b)) 0 33 (nI (p + 1))) i b (J i b))
    rw [e]
    have o0 : ∀ x, u2 J A p (J i b) 0 x = J 0 x := fun x => by rw [u2_oth _ _ _ (by omega)]
    refine ⟨u2_eq _ _ _ _, by rw [u2_ne _ _ (Or.inr (by omega)), o0]; exact h2, by rw [u2_ne _ _ (Or.inr (by omega)), o0]; exact h3, fun x hx hx2 hx3 => by rw [u2_oth _ _ _ hx, u2_oth _ _ _ hx3]; exact h4 x hx hx2 hx3, fun x hx h33 h34 h35 => by rw [u2_ne _ _ (Or.inr h33), o0]; exact h5 x hx h33 h34 h35, fun _ => ⟨fun q hq => ?_, fun x y hx hy => ?_⟩, fun q => by cases q⟩
    · rw [u2_oth _ _ _ (by omega)]
      by_cases hqp : q = p
      · rw [hqp, u2_eq, hs]
        exact g2 i b l1 l2
      · rw [u2_ne _ _ (Or.inr hqp)]
        exact g1 q (by omega)
    · rw [u2_ne _ _ (by by_cases hi : x = 0; exact Or.inr (by have := hy hi; omega); exact Or.inl hi), u2_oth _ _ _ (by omega)]
      exact g2 x y hx hy
  | false =>
    obtain ⟨g1, g2, g3⟩ := h7 rfl
    have h2 : J 0 34 = 0 := h2
    have hw : f_X8_carry (J i b) J = some (J A p, u2 J 0 33 (nI (p + 1))) := by
      rw [f_X8_carry, h2, if_pos rfl]
      exact hb17 J h1 h3
    refine ⟨_, hw, ?_⟩
    show CAR false A c I (p + 1) (u2 (u2 J 0 33 (nI (p + 1))) i b (J A p))
    have ob : ∀ x, 25 ≤ x → u2 (u2 J 0 33 (nI (p + 1))) i b (J A p) 0 x = u2 J 0 33 (nI (p + 1)) 0 x := fun x hx => u2_ne _ _ (by by_cases hi : i = 0; exact Or.inr (by have := l2 hi; omega); exact Or.inl (fun q => hi q.symm))
    refine ⟨by rw [ob 33 (by omega), u2_eq], by rw [ob 34 (by omega), u2_ne _ _ (Or.inr (by omega))]; exact h2, by rw [ob 35 (by omega), u2_ne _ _ (Or.inr (by omega))]; exact h3, fun x hx hx2 hx3 => by rw [u2_oth _ _ _ (by omega), u2_oth _ _ _ hx]; exact h4 x hx hx2 hx3, fun x hx h33 h34 h35 => by rw [ob x hx, u2_ne _ _ (Or.inr h33)]; exact h5 x hx h33 h34 h35, fun q => (by cases q), fun _ => ⟨by rw [u2_oth _ _ _ (by omega), u2_oth _ _ _ (by omega)]; exact g1, fun q hq => ?_, fun x y hx hy hxy => ?_⟩⟩
    · by_cases hqp : q = p
      · rw [hqp, hs, u2_eq, g1]
      · have hne : slot q ≠ (i, b) := fun e => hqp (slot_inj (by omega) hp (e.trans hs.symm))
        obtain ⟨q1, q2⟩ := slot_lo (p := q) (by omega)
        rw [u2_ne _ _ (by
          by_cases e1 : (slot q).1 = i
          · refine Or.inr (fun e2 => hne ?_)
            exact Prod.ext e1 e2
          · exact Or.inl e1), u2_ne _ _ (by by_cases hi : (slot q).1 = 0; exact Or.inr (by have := q2 hi; omega); exact Or.inl hi)]
        exact g2 q (by omega)
    · have hne := hxy p (by omega)
      rw [hs] at hne
      rw [u2_ne _ _ (by
          by_cases e1 : x = i
          · refine Or.inr (fun e2 => hne ?_)
            rw [e1, e2]
          · exact Or.inl e1), u2_ne _ _ (by by_cases hi : x = 0; exact Or.inr (by have := hy hi; omega); exact Or.inl hi)]
      exact g3 x y hx hy (fun q hq => hxy q (by omega))
theorem slot_f {f b : Nat} (hf : f < 7) (hb : b < 32) : slot (149 + 7 * b + f) = (6 + f, b) := by
  unfold slot
  rw [if_neg (by omega), if_neg (by omega), if_neg (by omega), if_pos (by omega)]
  refine Prod.ext ?_ ?_
  · show 6 + (149 + 7 * b + f - 149) % 7 = 6 + f
    omega
  · show (149 + 7 * b + f - 149) / 7 = b
    omega
theorem slot_r {b : Nat} (hb : b < 128) : slot (21 + b) = (2, b) := by
  unfold slot
  rw [if_neg (by omega), if_neg (by omega), if_pos (by omega)]
  refine Prod.ext rfl ?_
  show 21 + b - 21 = b
  omega
theorem slot_t {b : Nat} (hb : b < 160) : slot (373 + b) = (13, b) := by
  unfold slot
  rw [if_neg (by omega), if_neg (by omega), if_neg (by omega), if_neg (by omega), if_pos (by omega)]
  refine Prod.ext rfl ?_
  show 373 + b - 373 = b
  omega
theorem slot_a {f b : Nat} (hf : f < 4) (hb : b < 4) : slot (5 + 4 * b + f) = (if f = 0 then 1 else f + 2, b) := by
  unfold slot
  rw [if_neg (by omega), if_pos (by omega)]
  refine Prod.ext ?_ ?_
  · show (if (5 + 4 * b + f - 5) % 4 = 0 then 1 else (5 + 4 * b + f - 5) % 4 + 2) = _
    rw [show (5 + 4 * b + f - 5) % 4 = f by omega]
  · show (5 + 4 * b + f - 5) / 4 = b
    omega
theorem slot_5 {f b : Nat} (hf : f < 2) (hb : b < 5) : slot (536 + 2 * b + f) = (14 + f, b) := by
  unfold slot
  rw [if_neg (by omega), if_neg (by omega), if_neg (by omega), if_neg (by omega), if_neg (by omega), if_neg (by omega), if_pos (by omega)]
  refine Prod.ext ?_ ?_
  · show 14 + (536 + 2 * b + f - 536) % 2 = 14 + f
    omega
  · show (536 + 2 * b + f - 536) / 2 = b
    omega
theorem slot_10 {f b : Nat} (hf : f < 2) (hb : b < 10) : slot (546 + 2 * b + f) = (16 + f, b) := by
  unfold slot
  rw [if_neg (by omega), if_neg (by omega), if_neg (by omega), if_neg (by omega), if_neg (by omega), if_neg (by omega), if_neg (by omega), if_pos (by omega)]
  refine Prod.ext ?_ ?_
  · show 16 + (546 + 2 * b + f - 546) % 2 = 16 + f
    omega
  · show (546 + 2 * b + f - 546) / 2 = b
    omega
theorem slot_8 {f b : Nat} (hf : f < 2) (hb : b < 8) : slot (566 + 2 * b + f) = (18 + f, b) := by
  unfold slot
  rw [if_neg (by omega), if_neg (by omega), if_neg (by omega), if_neg (by omega), if_neg (by omega), if_neg (by omega), if_neg (by omega), if_neg (by omega)]
  refine Prod.ext ?_ ?_
  · show 18 + (566 + 2 * b + f - 566) % 2 = 18 + f
    omega
  · show (566 + 2 * b + f - 566) / 2 = b
    omega
