/-! ===== what is shortened ===== -/
theorem lg_of {a : Nat} (h : a < 2 ^ 31) : (nI a).toInt64 = Int64.ofNat a := by
  rw [← Int64.toInt_inj, Int32.toInt_toInt64, tnI h, Int64.toInt_ofNat_of_lt (by omega)]
theorem l64_div {a b : Nat} (ha : a < 2 ^ 31) (hb : b < 2 ^ 31) : Int64.ofNat a / Int64.ofNat b = Int64.ofNat (a / b) := (Int64.ofNat_div (by omega) (by omega)).symm
theorem l64_rem {a b : Nat} (ha : a < 2 ^ 31) (hb : b < 2 ^ 31) : Int64.ofNat a - Int64.ofNat a / Int64.ofNat b * Int64.ofNat b = Int64.ofNat (a % b) := by
  rw [l64_div ha hb, ← Int64.ofNat_mul, ← Int64.ofNat_sub _ _ (Nat.div_mul_le_self a b)]
  congr 1
  have := Nat.div_add_mod a b
  rw [Nat.mul_comm] at this
  omega
theorem l64_0 {a : Nat} (ha : a < 2 ^ 31) : Int64.ofNat a = 0 ↔ a = 0 := by
  rw [← Int64.toInt_inj, Int64.toInt_ofNat_of_lt (by omega)]
  have : (0 : Int64).toInt = 0 := rfl
  omega
theorem low_half {d r k : Nat} (hpos : 0 < r) (hr : r < 2 ^ (k + 1)) (h0 : d % r ≠ 0) : r % (d % r) < 2 ^ k := by
  have h1 := Nat.mod_lt d hpos
  generalize d % r = e at h0 h1 ⊢
  have h2 := Nat.mod_lt r (Nat.pos_of_ne_zero h0)
  have hp : 2 ^ (k + 1) = 2 * 2 ^ k := by rw [Nat.pow_succ]; omega
  by_cases c : e ≤ 2 ^ k
  · omega
  · have : r % e = r - e := by
      rw [Nat.mod_eq_sub_mod (by omega), Nat.mod_eq_of_lt (by omega)]
    omega
theorem gcd_stp (d r : Nat) : Nat.gcd r (d % r) = Nat.gcd d r := by
  rw [Nat.gcd_comm r (d % r), Nat.gcd_comm d r]
  exact (Nat.gcd_rec r d).symm
theorem c_low : ∀ (k fu d r step : Nat) (x0 x1 x2 : Int32), r < 2 ^ k → k ≤ 31 → d < 2 ^ 31 → 2 * k + step ≤ 64 → 2 * k + 1 ≤ fu → f_X7_lowest_b8 fu x0 x1 x2 (nI d) (nI r) (nI step) = f_X7_lowest_b39 x0 x1 x2 (nI (Nat.gcd d r)) := by
  have fin : ∀ (fu d step : Nat) (x0 x1 x2 : Int32), 1 ≤ fu → f_X7_lowest_b8 fu x0 x1 x2 (nI d) (nI 0) (nI step) = f_X7_lowest_b39 x0 x1 x2 (nI d) := fun fu d step x0 x1 x2 hf => by
    obtain ⟨f, rfl⟩ : ∃ f, fu = f + 1 := ⟨fu - 1, by omega⟩
    rw [f_X7_lowest_b8]
    by_cases c : (64 : Int32) ≤ nI step
    · rw [if_pos c]
    · rw [if_neg c, if_pos (show nI 0 = 0 from rfl)]
  intro k
  induction k with
  | zero =>
    intro fu d r step x0 x1 x2 hr _ hd hs hf
    have : r = 0 := by
      have : 2 ^ 0 = 1 := rfl
      omega
    subst this
    rw [fin fu d step x0 x1 x2 (by omega), Nat.gcd_zero_right]
  | succ k ih =>
    intro fu d r step x0 x1 x2 hr hk hd hs hf
    rcases Nat.eq_zero_or_pos r with q | hpos
    · subst q
      rw [fin fu d step x0 x1 x2 (by omega), Nat.gcd_zero_right]
    · have hr31 : r < 2 ^ 31 := Nat.lt_of_lt_of_le hr (Nat.pow_le_pow_right (by omega) (by omega))
      have hstep : ∀ (f d r step : Nat), 0 < r → r < 2 ^ 31 → d < 2 ^ 31 → step < 64 → f_X7_lowest_b8 (f + 1) x0 x1 x2 (nI d) (nI r) (nI step) = f_X7_lowest_b8 f x0 x1 x2 (nI r) (nI (d % r)) (nI (step + 1)) := fun f d r step h0 hr hd hs => by
        have c64 : ¬ (64 : Int32) ≤ nI step := nI_ge (b := 64) hs (by omega)
        have c0 : ¬ nI r = 0 := nI_ne0 h0 hr
        have od : okD (nI r) = true := by
          unfold okD
          exact decide_eq_true c0
        rw [f_X7_lowest_b8, if_neg c64, if_neg c0, if_pos od, pk_rem hd h0 hr, nI_1]
      obtain ⟨f, rfl⟩ : ∃ f, fu = f + 1 := ⟨fu - 1, by omega⟩
      rw [hstep f d r step hpos hr31 hd (by omega)]
      by_cases h0 : d % r = 0
      · rw [h0, fin f r (step + 1) x0 x1 x2 (by omega)]
        have := gcd_stp d r
        rw [h0, Nat.gcd_zero_right] at this
        rw [← this]
      · have h1 := Nat.mod_lt d hpos
        obtain ⟨f', rfl⟩ : ∃ f', f = f' + 1 := ⟨f - 1, by omega⟩
        rw [hstep f' r (d % r) (step + 1) (Nat.pos_of_ne_zero h0) (by omega) hr31 (by omega)]
        rw [ih f' (d % r) (r % (d % r)) (step + 1 + 1) x0 x1 x2 (low_half hpos hr h0) (by omega) (by omega) (by omega) (by omega), gcd_stp r (d % r), gcd_stp d r]
theorem m_div : ∀ (k fu x y : Nat), y < 2 ^ k → k ≤ 31 → x < 2 ^ 31 → 2 * k + 1 ≤ fu → f_X8_divisor_b6 fu (Int64.ofNat x) (Int64.ofNat y) = some (Int64.ofNat (Nat.gcd x y)) := by
  have fin : ∀ (fu x : Nat), 1 ≤ fu → f_X8_divisor_b6 fu (Int64.ofNat x) (Int64.ofNat 0) = some (Int64.ofNat x) := fun fu x hf => by
    obtain ⟨f, rfl⟩ : ∃ f, fu = f + 1 := ⟨fu - 1, by omega⟩
    rw [f_X8_divisor_b6, if_pos (show lg_cmp (Int64.ofNat 0) 0 = 0 from (lg_cmp_eq _ _).mpr rfl)]
  intro k
  induction k with
  | zero =>
    intro fu x y hy _ hx hf
    have : y = 0 := by
      have : 2 ^ 0 = 1 := rfl
      omega
    subst this
    rw [fin fu x (by omega), Nat.gcd_zero_right]
  | succ k ih =>
    intro fu x y hy hk hx hf
    rcases Nat.eq_zero_or_pos y with q | hpos
    · subst q
      rw [fin fu x (by omega), Nat.gcd_zero_right]
    · have hy31 : y < 2 ^ 31 := Nat.lt_of_lt_of_le hy (Nat.pow_le_pow_right (by omega) (by omega))
      have hstep : ∀ (f x y : Nat), 0 < y → y < 2 ^ 31 → x < 2 ^ 31 → f_X8_divisor_b6 (f + 1) (Int64.ofNat x) (Int64.ofNat y) = f_X8_divisor_b6 f (Int64.ofNat y) (Int64.ofNat (x % y)) := fun f x y h0 hy hx => by
        have c0 : ¬ Int64.ofNat y = 0 := fun q => by
          have := (l64_0 hy).mp q
          omega
        have od : okDL (Int64.ofNat y) = true := by
          unfold okDL
          exact decide_eq_true c0
        rw [f_X8_divisor_b6, if_neg (fun q => c0 ((lg_cmp_eq _ _).mp q)), if_pos od, l64_rem hx hy]
      obtain ⟨f, rfl⟩ : ∃ f, fu = f + 1 := ⟨fu - 1, by omega⟩
      rw [hstep f x y hpos hy31 hx]
      by_cases h0 : x % y = 0
      · rw [h0, fin f y (by omega)]
        have := gcd_stp x y
        rw [h0, Nat.gcd_zero_right] at this
        rw [← this]
      · have h1 := Nat.mod_lt x hpos
        obtain ⟨f', rfl⟩ : ∃ f', f = f' + 1 := ⟨f - 1, by omega⟩
        rw [hstep f' y (x % y) (Nat.pos_of_ne_zero h0) (by omega) hy31]
        rw [ih f' (x % y) (y % (x % y)) (low_half hpos hy h0) (by omega) (by omega) (by omega), gcd_stp y (x % y), gcd_stp x y]
/-- both shorten alike -/
theorem both_low {a b : Nat} (ha : a < 2 ^ 31) (hb0 : 0 < b) (hb : b < 2 ^ 31) (p : Int32) : ∃ r, f_X7_lowest (nI a) (nI b) p = some r ∧ f_X8_partOf (nI a).toInt64 (nI b).toInt64 p = some r.toInt64 := by
  have hg0 : 0 < Nat.gcd a b := Nat.gcd_pos_of_pos_right a hb0
  have hgb : Nat.gcd a b ≤ b := Nat.gcd_le_right a hb0
  have hg : Nat.gcd a b < 2 ^ 31 := by omega
  have c := c_low 31 LF b a 0 (nI a) (nI b) p ha (by omega) hb (by omega) (by unfold LF; omega)
  rw [Nat.gcd_comm b a] at c
  have c : f_X7_lowest (nI a) (nI b) p = f_X7_lowest_b39 (nI a) (nI b) p (nI (Nat.gcd a b)) := c
  have m := m_div 31 LF a b hb (by omega) ha (by unfold LF; omega)
  have m : f_X8_divisor (Int64.ofNat a) (Int64.ofNat b) = some (Int64.ofNat (Nat.gcd a b)) := m
  have c1 : (1 : Int32) ≤ nI (Nat.gcd a b) := (nI_leI (a := 1) (by omega) hg).mpr hg0
  have od : okD (nI (Nat.gcd a b)) = true := by
    unfold okD
    exact decide_eq_true (nI_ne0 hg0 hg)
  have odL : okDL (Int64.ofNat (Nat.gcd a b)) = true := by
    unfold okDL
    exact decide_eq_true (fun q => by
      have := (l64_0 hg).mp q
      omega)
  rw [c, lg_of ha, lg_of hb, f_X8_partOf, m, some_bind, f_X7_lowest_b39, if_pos c1]
  by_cases hp : p = 0
  · rw [if_pos hp, if_pos hp, if_pos od, if_pos odL, f_X7_lowest_b59, f_X8_partOf_b23, pk_div ha hg0 hg, l64_div ha hg]
    exact ⟨_, rfl, by rw [lg_of (Nat.lt_of_le_of_lt (Nat.div_le_self _ _) ha)]⟩
  · rw [if_neg hp, if_neg hp, if_pos od, if_pos odL, f_X7_lowest_b59, f_X8_partOf_b23, pk_div hb hg0 hg, l64_div hb hg]
    exact ⟨_, rfl, by rw [lg_of (Nat.lt_of_le_of_lt (Nat.div_le_self _ _) hb)]⟩
/-! ===== mean ===== -/
theorem sm_nat {f : Nat → Int32} {c : Nat} : ∀ n, (∀ k, k < n → ∃ w, w ≤ c ∧ f k = nI w) → ∃ w, w ≤ n * c ∧ sm f n = nI w := by
  intro n
  induction n with
  | zero => intro _; exact ⟨0, by omega, rfl⟩
  | succ n ih =>
    intro h
    obtain ⟨w, w1, w2⟩ := ih (fun k hk => h k (by omega))
    obtain ⟨v, v1, v2⟩ := h n (by omega)
    refine ⟨w + v, by rw [Nat.add_mul]; omega, ?_⟩
    show sm f n + f n = _
    rw [w2, v2, nI_add]
theorem wf_worths {s : SP} (h : WF s) : ∃ w, w < 2 ^ 31 ∧ sm (fun t => if tf s 3 t = 3 then tf s 2 t else 0) (nT s) = nI w := by
  have hT := h.1.2.2
  have p4 : pow33 4 = 1185921 := rfl
  obtain ⟨w, w1, w2⟩ := sm_nat (f := fun t => if tf s 3 t = 3 then tf s 2 t else 0) (c := 9 * 1185921) (nT s) (fun k hk => by
    show ∃ w, w ≤ 9 * 1185921 ∧ (if tf s 3 k = 3 then tf s 2 k else 0) = nI w
    by_cases c : tf s 3 k = 3
    · rw [if_pos c]
      obtain ⟨w, v1, v2⟩ := (h.2.2.2.2.2.1 k hk).2
      have := v2 0 k rfl
      rw [show 4 - 0 = 4 from rfl, p4] at this
      exact ⟨w, this, v1⟩
    · rw [if_neg c]
      exact ⟨0, by omega, rfl⟩)
  refine ⟨w, ?_, w2⟩
  have : nT s * (9 * 1185921) ≤ 32 * (9 * 1185921) := Nat.mul_le_mul_right _ hT
  omega
theorem wf_dones (s : SP) (hT : nT s ≤ 32) : ∃ w, w ≤ 32 ∧ sm (fun t => if tf s 3 t = 3 then 1 else 0) (nT s) = nI w := by
  obtain ⟨w, w1, w2⟩ := sm_nat (f := fun t => if tf s 3 t = 3 then 1 else 0) (c := 1) (nT s) (fun k _ => by
    show ∃ w, w ≤ 1 ∧ (if tf s 3 k = 3 then (1 : Int32) else 0) = nI w
    by_cases c : tf s 3 k = 3
    · rw [if_pos c]
      exact ⟨1, by omega, rfl⟩
    · rw [if_neg c]
      exact ⟨0, by omega, rfl⟩)
  exact ⟨w, by omega, w2⟩
theorem sc_mean : SC_mean INV := by
  intro Ic Jc Im Jm h x
  have hq := inv_q h
  obtain ⟨s, si, h1, h2, h3, h4, h5, h6, h7⟩ := h
  have hT := h2.1.2.2
  have g3 := mo_29 (mo_b0 h3) 0
  have cD := tas_done (c_tas h1)
  have mD := mt_done g3.2.2.1
  have cW := tas_worths (c_tas h1)
  have mW := mt_worths g3.2.2.1
  obtain ⟨d, d1, d2⟩ := wf_dones s hT
  obtain ⟨w, w1, w2⟩ := wf_worths h2
  rw [d2] at cD mD
  rw [w2] at cW mW
  have mF : ¬ ((0 : Int32) ≤ x ∧ x ≤ 1) → f_X8_in x.toInt64 (0 : Int64) (1 : Int64) = some 0 := m_inF x 0 1
  have mT : ((0 : Int32) ≤ x ∧ x ≤ 1) → f_X8_in x.toInt64 (0 : Int64) (1 : Int64) = some 1 := m_inT x 0 1
  by_cases c1 : x < 0
  · refine ⟨-9223372036854775808, (-9223372036854775808, u2 Im 0 29 0), ?_, ?_, rfl, hq⟩
    · rw [f_X7_mean, cD, some_bind, if_pos c1, f_X7_mean_b24]
    · rw [f_X8_mean, mF (fun q => not_le_lt c1 q.1), some_bind, if_pos rfl, f_X8_mean_b39, f_X8_mean_b42]
  · by_cases c2 : 1 < x
    · refine ⟨-9223372036854775808, (-9223372036854775808, u2 Im 0 29 0), ?_, ?_, rfl, hq⟩
      · rw [f_X7_mean, cD, some_bind, if_neg c1, if_pos c2, f_X7_mean_b24]
      · rw [f_X8_mean, mF (fun q => not_le_lt c2 q.2), some_bind, if_pos rfl, f_X8_mean_b39, f_X8_mean_b42]
    · have cx : (0 : Int32) ≤ x ∧ x ≤ 1 := ⟨le0_of c1, by
        rw [Int32.lt_iff_toInt_lt] at c2
        rw [Int32.le_iff_toInt_le]
        omega⟩
      rcases Nat.eq_zero_or_pos d with hd | hd
      · subst hd
        refine ⟨-9223372036854775808, (-9223372036854775808, u2 Im 0 29 0), ?_, ?_, rfl, hq⟩
        · rw [f_X7_mean, cD, some_bind, if_neg c1, if_neg c2, if_pos (show nI 0 = 0 from rfl), f_X7_mean_b24]
        · rw [f_X8_mean, mT cx, some_bind, if_neg z10, mD, some_bind, if_pos (by decide), f_X8_mean_b39, f_X8_mean_b42]
      · obtain ⟨r, r1, r2⟩ := both_low w1 hd (show d < 2 ^ 31 by omega) x
        refine ⟨r.toInt64, (r.toInt64, u2 Im 0 29 0), ?_, ?_, rfl, hq⟩
        · rw [f_X7_mean, cD, some_bind, if_neg c1, if_neg c2, if_neg (nI_ne0 hd (by omega)), cW, some_bind, r1, some_bind]
        · rw [f_X8_mean, mT cx, some_bind, if_neg z10, mD, some_bind, if_neg (fun q => by
            have := (dr_le0 d1).mp q
            omega), mW, some_bind, some_bind, r2, some_bind, f_X8_mean_b42]
