theorem sc_tree : SC_tree INV := by
  intro Ic Jc Im Jm h x
  have hq := inv_q h
  obtain ⟨s, si, h1, h2, h3, h4, h5, ⟨l, l1, l2, l3, l4⟩, h7⟩ := h
  have hN := h2.1.2.1
  have hT := h2.1.2.2
  have g3 := mo_29 h3 0
  have ca := c_isArm h1 x
  have ma := mn_isArm g3.2.2.2.2.2.1 hN x
  by_cases c : x < 0 ∨ nI (na s) ≤ x
  · rw [if_pos c] at ca ma
    refine ⟨(-1, Ic), (-1, u2 Im 0 29 0), ?_, ?_, rfl, hq⟩
    · rw [f_X7_tree, ca, some_bind, if_pos rfl]
    · rw [f_X8_tree, ma, some_bind, if_pos rfl]
  · rw [if_neg c] at ca ma
    obtain ⟨a, haN, rfl⟩ := ix_of (by omega) c
    -- both read
    have rd : ∃ r q, f_X5_parse (zI 103 Ic) = some r ∧ f_X8_readTree (u2 Im 0 29 0) = some q ∧ FIN (u2 Im 0 29 0) r q := by
      have o : ∀ i, i ≠ 0 → u2 (u2 (u2 (u2 (u2 Im 0 29 0) 0 39 0) 0 40 0) 0 41 0) 0 45 0 i = Im i := fun i hi => by rw [u2_oth _ _ _ hi, u2_oth _ _ _ hi, u2_oth _ _ _ hi, u2_oth _ _ _ hi, u2_oth _ _ _ hi]
      have oc : ∀ i, i ≠ 0 → u2 (u2 (u2 (zI 103 Ic) 0 5 0) 0 8 0) 0 9 0 i = zI 103 Ic i := fun i hi => by rw [u2_oth _ _ _ hi, u2_oth _ _ _ hi, u2_oth _ _ _ hi]
      have hC : TRc l.length (fun k => Ic 104 k) (u2 (u2 (u2 (zI 103 Ic) 0 5 0) 0 8 0) 0 9 0) 0 0 0 := ⟨by rw [u2_ne _ _ (Or.inr (by omega)), u2_ne _ _ (Or.inr (by omega)), u2_ne _ _ (Or.inr (by omega))]; exact l2, by rw [u2_ne _ _ (Or.inr (by omega)), u2_ne _ _ (Or.inr (by omega)), u2_eq]; rfl, by rw [u2_ne _ _ (Or.inr (by omega)), u2_eq]; rfl, u2_eq _ _ _ _, fun k _ => by rw [oc 1 (by omega)]; rfl⟩
      have hM : TRm l.length (fun k => Ic 104 k) (u2 (u2 (u2 (u2 (u2 Im 0 29 0) 0 39 0) 0 40 0) 0 41 0) 0 45 0) 0 0 0 := ⟨by rw [u2_ne _ _ (Or.inr (by omega)), u2_ne _ _ (Or.inr (by omega)), u2_ne _ _ (Or.inr (by omega)), u2_ne _ _ (Or.inr (by omega)), u2_ne _ _ (Or.inr (by omega))]; exact l3, by rw [u2_ne _ _ (Or.inr (by omega)), u2_ne _ _ (Or.inr (by omega)), u2_ne _ _ (Or.inr (by omega)), u2_eq]; rfl, by rw [u2_ne _ _ (Or.inr (by omega)), u2_ne _ _ (Or.inr (by omega)), u2_eq], by rw [u2_ne _ _ (Or.inr (by omega)), u2_eq]; rfl, by rw [u2_eq]; rfl, fun k hk => by
        rw [o 23 (by omega)]
        obtain ⟨p1, p2⟩ := l4 k hk
        rw [p1] at p2
        exact (Option.some.inj p2).symm⟩
      have hF : FRm (u2 Im 0 29 0) (u2 (u2 (u2 (u2 (u2 Im 0 29 0) 0 39 0) 0 40 0) 0 41 0) 0 45 0) := ⟨fun i h0 _ => by rw [o i h0, u2_oth _ _ _ h0], fun b h1 h2 h3 h4 => by rw [u2_ne _ _ (Or.inr h4), u2_ne _ _ (Or.inr h3), u2_ne _ _ (Or.inr h2), u2_ne _ _ (Or.inr h1)]⟩
      exact both_read (N := l.length) l1 _ _ 0 0 (fun _ => 0) LF LF (Nat.le_refl _) (by omega) hC hM (fun k hk => absurd hk (Nat.not_lt_zero k)) (fun i hi => absurd hi (Nat.not_lt_zero i)) hF (fun _ => rfl) (by unfold LF; omega) (by unfold LF; omega)
    obtain ⟨⟨v, C'⟩, ⟨b, M'⟩, r1, r2, hF, hfin⟩ := rd
    have hF : FRm (u2 Im 0 29 0) M' := hF
    -- the states once the text is empty
    have I0 : ∀ j, j < 103 ∨ 110 ≤ j → u2 (gI 103 7 C' Ic) 103 1 0 j = Ic j := fun j hj => by rw [u2_oth _ _ _ (by omega), gI_out (by omega)]
    have I103 : u2 (gI 103 7 C' Ic) 103 1 0 103 1 = 0 := u2_eq _ _ _ _
    have I5 : u2 (gI 103 7 C' Ic) 103 1 0 103 5 = C' 0 5 := by rw [u2_ne _ _ (Or.inr (by omega)), show gI 103 7 C' Ic 103 = C' 0 from gI_in (i := 0) (by omega)]
    have Ii : ∀ i, 1 ≤ i → i < 7 → u2 (gI 103 7 C' Ic) 103 1 0 (103 + i) = C' i := fun i h1 h2 => by rw [u2_oth _ _ _ (by omega), gI_in h2]
    have Mi : ∀ i, i ≠ 0 → (i < 24 ∨ 28 < i) → u2 M' 0 38 0 i = Im i := fun i h0 h1 => by rw [u2_oth _ _ _ h0, hF.1 i h0 h1, u2_oth _ _ _ h0]
    have M0 : ∀ b, b ≠ 29 → b ≠ 38 → b ≠ 39 → b ≠ 40 → b ≠ 41 → b ≠ 45 → u2 M' 0 38 0 0 b = Im 0 b := fun b q1 q2 q3 q4 q5 q6 => by rw [u2_ne _ _ (Or.inr q2), hF.2 b q3 q4 q5 q6, u2_ne _ _ (Or.inr q1)]
    have M38 : u2 M' 0 38 0 0 38 = 0 := u2_eq _ _ _ _
    have Mo : ∀ b, b ≠ 38 → u2 M' 0 38 0 0 b = M' 0 b := fun b hb => u2_ne _ _ (Or.inr hb)
    have Ms : ∀ i, i ≠ 0 → u2 M' 0 38 0 i = M' i := fun i hi => u2_oth _ _ _ hi
    have hM1 := mo_text h3 (M := u2 M' 0 38 0) Mi M0
    have hc0 : f_X7_tree (nI a) Ic = (if v = -5 then (if (u2 (gI 103 7 C' Ic) 103 1 0) 11 8 + (u2 (gI 103 7 C' Ic) 103 1 0) 103 5 ≤ 32 then f_X7_tree_b68 LF (nI a) ((u2 (gI 103 7 C' Ic) 103 1 0) 11 8) 0 (u2 (gI 103 7 C' Ic) 103 1 0) else some (-4, u2 (gI 103 7 C' Ic) 103 1 0)) else some (-10 - v, u2 (gI 103 7 C' Ic) 103 1 0)) := by
      rw [f_X7_tree, ca, some_bind, if_neg z10, r1, some_bind]
    have hm0 : f_X8_tree (nI a) Im = (if b = 0 then some (-10 - (u2 M' 0 38 0) 0 39, u2 M' 0 38 0) else (if (u2 M' 0 38 0) 0 6 + (u2 M' 0 38 0) 0 41 ≤ 32 then f_X8_tree_b64 LF (nI a) ((u2 M' 0 38 0) 0 6) 0 (u2 M' 0 38 0) else some (-4, u2 M' 0 38 0))) := by
      rw [f_X8_tree, ma, some_bind, if_neg z10, r2, some_bind]
    have hR1 : RWo (zI 1 (u2 (gI 103 7 C' Ic) 103 1 0)) s := rwo_congr h1 (fun k hk => I0 _ (by omega))
    rw [hc0, hm0]
    rcases hfin with ⟨p, p1, p2, p3, p4⟩ | ⟨p1, p2, m, dp, m1, m100, m5, m41, mT⟩
    · have p2 : v = nI p := p2
      have p3 : b = 0 := p3
      have p4 : M' 0 39 = nI p := p4
      rw [if_neg (by rw [p2]; exact m5_ne (by omega)), if_pos p3, Mo 39 (by omega), p4, p2]
      exact ⟨_, _, rfl, rfl, rfl, inv_text hR1 h2 hM1 h4 h5 h7 (fun j hj => I0 j (by omega)) I103 (fun i q1 q2 => Mi i (by omega) q2) (M0 32 (by omega) (by omega) (by omega) (by omega) (by omega) (by omega)) M38⟩
    · have p1 : v = -5 := p1
      have p2 : b = 1 := p2
      have m5 : C' 0 5 = nI m := m5
      have m41 : M' 0 41 = nI m := m41
      have mT : TRt C' M' dp m := mT
      have e8 : (u2 (gI 103 7 C' Ic) 103 1 0) 11 8 = nI (nT s) := (c_tas hR1).1
      have e6 : (u2 M' 0 38 0) 0 6 = nI (nT s) := hM1.2.2.1.1
      have b0 : ¬ b = 0 := by rw [p2]; exact z10
      rw [if_pos p1, if_neg b0, e8, I5, m5, e6, Mo 41 (by omega), m41, nI_add]
      by_cases hfit : nT s + m ≤ 32
      · have cf : nI (nT s + m) ≤ (32 : Int32) := (nI_leI (b := 32) (by omega) (by omega)).mpr hfit
        have k105 : ∀ k, (u2 (gI 103 7 C' Ic) 103 1 0) 105 k = C' 2 k := fun k => by rw [Ii 2 (by omega) (by omega)]
        have k106 : ∀ k, (u2 (gI 103 7 C' Ic) 103 1 0) 106 k = C' 3 k := fun k => by rw [Ii 3 (by omega) (by omega)]
        have k107 : ∀ k, (u2 (gI 103 7 C' Ic) 103 1 0) 107 k = C' 4 k := fun k => by rw [Ii 4 (by omega) (by omega)]
        obtain ⟨J, j1, j2, j3⟩ := c_adds hR1 h2 haN m1 hfit (by rw [I5]; exact m5) dp (fun k hk => by
          rw [k105, k107]
          obtain ⟨-, -, -, t4, t5, t6⟩ := mT k hk
          exact ⟨t4, t5, t6⟩)
        obtain ⟨K, q1, q2, q3, q4⟩ := m_adds hM1 h2 haN m1 hfit (by rw [Mo 41 (by omega)]; exact m41) dp (fun k hk => by
          rw [Ms 26 (by omega)]
          obtain ⟨-, -, t3, -, -, t6⟩ := mT k hk
          rw [← t3]
          exact t6)
        rw [if_pos cf, if_pos cf, j1, q1]
        -- the two sides' new tasks are the same
        have same : ∀ k, k ≤ m → eNews s ((u2 (gI 103 7 C' Ic) 103 1 0) 105) ((u2 (gI 103 7 C' Ic) 103 1 0) 106) (fun k => if (u2 (gI 103 7 C' Ic) 103 1 0) 107 k = -5 then -5 else nI (nT s) + (u2 (gI 103 7 C' Ic) 103 1 0) 107 k) k = eNews s ((u2 M' 0 38 0) 24) ((u2 M' 0 38 0) 25) (fun k => if (u2 M' 0 38 0) 26 k = -5 then -5 else nI (nT s) + (u2 M' 0 38 0) 26 k) k := by
          intro k
          induction k with
          | zero => intro _; rfl
          | succ k ih =>
            intro hk
            obtain ⟨t1, t2, t3, -⟩ := mT k (by omega)
            show eNew (eNews s _ _ _ k) _ _ _ = eNew (eNews s _ _ _ k) _ _ _
            have ei : (if (u2 (gI 103 7 C' Ic) 103 1 0) 107 k = -5 then (-5 : Int32) else nI (nT s) + (u2 (gI 103 7 C' Ic) 103 1 0) 107 k) = (if (u2 M' 0 38 0) 26 k = -5 then -5 else nI (nT s) + (u2 M' 0 38 0) 26 k) := by rw [k107, Ms 26 (by omega), t3]
            rw [ih (by omega), k105, k106, Ms 24 (by omega), Ms 25 (by omega), t1, t2]
            exact congrArg (eNew _ _ _) ei
        rw [same m (Nat.le_refl _)] at j2
        have wn := wf_news h2 ((u2 M' 0 38 0) 24) ((u2 M' 0 38 0) 25) (fun k => if (u2 M' 0 38 0) 26 k = -5 then -5 else nI (nT s) + (u2 M' 0 38 0) 26 k) dp hfit (fun k hk => by
          rw [Ms 24 (by omega), Ms 26 (by omega)]
          obtain ⟨t1, t2, t3, t4, t5, t6⟩ := mT k hk
          rw [← t1, ← t3]
          refine ⟨t4, t5, ?_⟩
          rcases t6 with ⟨e1, e2⟩ | ⟨q, e1, e2, e3⟩
          · exact Or.inl ⟨by rw [if_pos e1], e2⟩
          · exact Or.inr ⟨q, e1, by rw [if_neg (by rw [e2]; exact m5_ne (by omega)), e2, nI_add], e3⟩)
        have hroot : WF (ePut (eNews s ((u2 M' 0 38 0) 24) ((u2 M' 0 38 0) 25) (fun k => if (u2 M' 0 38 0) 26 k = -5 then -5 else nI (nT s) + (u2 M' 0 38 0) 26 k) m) a (nT s)) := by
          obtain ⟨t1, t2, t3, t4, t5, t6⟩ := mT 0 (by omega)
          have in0 : (if (u2 M' 0 38 0) 26 0 = -5 then (-5 : Int32) else nI (nT s) + (u2 M' 0 38 0) 26 0) = -5 := by
            rw [Ms 26 (by omega), ← t3]
            rcases t6 with ⟨e1, -⟩ | ⟨q, e1, -⟩
            · rw [if_pos e1]
            · exact absurd e1 (Nat.not_lt_zero q)
          have w0 := (wn m (Nat.le_refl _)).1
          obtain ⟨n1, n2, -, -, -, n6, -⟩ := news_k s ((u2 M' 0 38 0) 24) ((u2 M' 0 38 0) 25) (fun k => if (u2 M' 0 38 0) 26 k = -5 then -5 else nI (nT s) + (u2 M' 0 38 0) 26 k) m
          have first : ∀ k, 1 ≤ k → k ≤ m → tf (eNews s ((u2 M' 0 38 0) 24) ((u2 M' 0 38 0) 25) (fun k => if (u2 M' 0 38 0) 26 k = -5 then -5 else nI (nT s) + (u2 M' 0 38 0) 26 k) k) 3 (nT s) = 0 ∧ tf (eNews s ((u2 M' 0 38 0) 24) ((u2 M' 0 38 0) 25) (fun k => if (u2 M' 0 38 0) 26 k = -5 then -5 else nI (nT s) + (u2 M' 0 38 0) 26 k) k) 4 (nT s) = -5 := by
            intro k
            induction k with
            | zero => intro h _; omega
            | succ k ih =>
              intro _ hk
              have eT := (news_k s ((u2 M' 0 38 0) 24) ((u2 M' 0 38 0) 25) (fun k => if (u2 M' 0 38 0) 26 k = -5 then -5 else nI (nT s) + (u2 M' 0 38 0) 26 k) k).2.1
              by_cases hk0 : k = 0
              · subst hk0
                exact ⟨nw_3 s _ _ _, (nw_4 s _ _ _).trans in0⟩
              · obtain ⟨i1, i2⟩ := ih (by omega) (by omega)
                exact ⟨(nw_o (eNews s _ _ _ k) _ _ _ 3 (by rw [eT]; omega)).trans i1, (nw_o (eNews s _ _ _ k) _ _ _ 4 (by rw [eT]; omega)).trans i2⟩
          obtain ⟨f1, f2⟩ := first m m1 (Nat.le_refl _)
          generalize eNews s ((u2 M' 0 38 0) 24) ((u2 M' 0 38 0) 25) (fun k => if (u2 M' 0 38 0) 26 k = -5 then -5 else nI (nT s) + (u2 M' 0 38 0) 26 k) m = sN at w0 n1 n2 n6 f1 f2 ⊢
          refine wf_put w0 (by omega) (by omega) f1 ?_ (fun b hb => ?_)
          · unfold prn
            rw [f2, if_pos (by decide)]
          · rw [n6] at hb
            obtain ⟨t, ht, e, -⟩ := h2.2.1.2.2 b _ hb
            have := nIne (by omega) (by omega) e
            omega
        refine ⟨_, _, rfl, rfl, rfl, inv_text j2 hroot q2 h4 h5 h7 (fun j hj => ?_) ?_ (fun i q5 q6 => ?_) ?_ ?_⟩
        · show J j = Ic j
          rw [j3 j (by omega)]
          exact I0 j (by omega)
        · show J 103 1 = 0
          rw [j3 103 (by omega)]
          exact I103
        · show K i = Im i
          rw [q3 i q5]
          exact Mi i (by omega) q6
        · show K 0 32 = Im 0 32
          rw [q4 32 (by omega)]
          exact M0 32 (by omega) (by omega) (by omega) (by omega) (by omega) (by omega)
        · show K 0 38 = 0
          rw [q4 38 (by omega)]
          exact M38
      · have cf : ¬ nI (nT s + m) ≤ (32 : Int32) := fun q => hfit ((nI_leI (b := 32) (by omega) (by omega)).mp q)
        rw [if_neg cf, if_neg cf]
        exact ⟨_, _, rfl, rfl, rfl, inv_text hR1 h2 hM1 h4 h5 h7 (fun j hj => I0 j (by omega)) I103 (fun i q1 q2 => Mi i (by omega) q2) (M0 32 (by omega) (by omega) (by omega) (by omega) (by omega) (by omega)) M38⟩
/-! ===== the beginning ===== -/
def S0 : SP := mkS 2 0 1 0 (fun _ _ => 0) (fun f _ => if f = 0 then -5 else 0) (fun _ => []) [] [] ([], [], [])
theorem wf_S0 : WF S0 := by
  refine ⟨⟨by show 1 ≤ 2; omega, by show 2 ≤ 4; omega, by show 0 ≤ 32; omega⟩, ⟨fun _ => List.nodup_nil, fun a b x h => (by cases h), fun a x h => (by cases h)⟩, ⟨fun _ => Or.inl rfl, fun a b _ h => absurd rfl h, fun t ht => absurd ht (Nat.not_lt_zero t), fun a _ => ⟨rfl, rfl, rfl, rfl⟩⟩, ⟨fun t ht => absurd ht (Nat.not_lt_zero t), fun t ht => absurd ht (Nat.not_lt_zero t), fun t ht => absurd ht (Nat.not_lt_zero t), fun t ht => absurd ht (Nat.not_lt_zero t)⟩, fun t ht => absurd ht (Nat.not_lt_zero t), fun t ht => absurd ht (Nat.not_lt_zero t), fun q h => (by cases h), fun q h => (by cases h), fun q h => (by cases h)⟩
theorem rwo_S0 {I : IS} (hA : ∀ a, a < 4 → I (gArm a) 1 = 0 ∧ I (gArm a) 2 = -5 ∧ I (gArm a) 3 = 0 ∧ I (gArm a) 4 = 0) (h10 : I 10 8 = 0) (h19 : I 19 5 = 0 ∧ I 19 6 = 0 ∧ I 19 7 = 0) (h0 : I 0 6 = 2 ∧ I 0 7 = 1 ∧ I 0 8 = 0) (hp : I 25 2 = 0 ∧ I 28 2 = 0 ∧ I 31 2 = 0) : RWo I S0 := by
  refine ⟨fun a ha => ?_, ⟨h10, by show 0 ≤ 32; omega, fun f _ t ht => absurd ht (Nat.not_lt_zero t)⟩, ⟨0, by omega, h19.2.1, h19.2.2, by show 0 ≤ 40; omega, fun k hk => absurd hk (Nat.not_lt_zero k)⟩, ⟨h19.1, fun k hk => (by
    have hk : k < min 0 40 := hk
    omega)⟩, h0.1, h0.2.1, h0.2.2, ⟨hp.1, by show 0 ≤ 5; omega, fun k hk => absurd hk (Nat.not_lt_zero k)⟩, ⟨hp.2.1, by show 0 ≤ 10; omega, fun k hk => absurd hk (Nat.not_lt_zero k)⟩, ⟨hp.2.2, by show 0 ≤ 8; omega, fun k hk => absurd hk (Nat.not_lt_zero k)⟩⟩
  obtain ⟨a1, a2, a3, a4⟩ := hA a ha
  exact ⟨⟨a1, by show 0 ≤ 32; omega, fun k hk => absurd hk (Nat.not_lt_zero k)⟩, a2, a3, a4⟩
theorem inv_init' : INV I0T J00 I0M J00 := by
  have arms : ∀ e, e = 1 ∨ e = 35 ∨ e = 69 → RWo (zI e I0T) S0 := fun e he => by
    refine rwo_S0 (fun a ha => ?_) ?_ ?_ ?_ ?_
    · have key : ∀ e : Fin 3, ∀ a : Fin 4, I0T ((if e.val = 0 then 1 else if e.val = 1 then 35 else 69) + gArm a.val) 1 = 0 ∧ I0T ((if e.val = 0 then 1 else if e.val = 1 then 35 else 69) + gArm a.val) 2 = -5 ∧ I0T ((if e.val = 0 then 1 else if e.val = 1 then 35 else 69) + gArm a.val) 3 = 0 ∧ I0T ((if e.val = 0 then 1 else if e.val = 1 then 35 else 69) + gArm a.val) 4 = 0 := by decide +kernel
      rcases he with rfl | rfl | rfl
      · exact key 0 ⟨a, ha⟩
      · exact key 1 ⟨a, ha⟩
      · exact key 2 ⟨a, ha⟩
    · rcases he with rfl | rfl | rfl <;> rfl
    · rcases he with rfl | rfl | rfl <;> exact ⟨rfl, rfl, rfl⟩
    · rcases he with rfl | rfl | rfl <;> exact ⟨rfl, rfl, rfl⟩
    · rcases he with rfl | rfl | rfl <;> exact ⟨rfl, rfl, rfl⟩
  have hM : RMo False BN I0M S0 := by
    refine ⟨fun a ha => ⟨rfl, by show 0 ≤ 32; omega, fun k hk => absurd hk (Nat.not_lt_zero k)⟩, ⟨fun a ha => ?_, fun a ha => ⟨rfl, rfl⟩⟩, ⟨rfl, by show 0 ≤ 32; omega, fun f _ t ht => absurd ht (Nat.not_lt_zero t)⟩, ⟨rfl, by show 0 ≤ 40; omega, fun k hk => absurd hk (Nat.not_lt_zero k)⟩, ⟨⟨rfl, by show 0 ≤ 5; omega, fun k hk => absurd hk (Nat.not_lt_zero k)⟩, ⟨rfl, by show 0 ≤ 10; omega, fun k hk => absurd hk (Nat.not_lt_zero k)⟩, ⟨rfl, by show 0 ≤ 8; omega, fun k hk => absurd hk (Nat.not_lt_zero k)⟩⟩, ⟨rfl, rfl, rfl⟩, ⟨Or.inl rfl, fun q => q.elim⟩, fun i f _ hf => (by cases hf), fun f hf => (by cases hf)⟩
    have key : ∀ a : Fin 4, I0M 3 a.val = -5 := by decide +kernel
    exact key ⟨a, ha⟩
  refine ⟨S0, S0, arms 1 (Or.inl rfl), wf_S0, hM, ⟨arms 35 (Or.inr (Or.inl rfl)), wf_S0, rfl, Or.inl rfl⟩, ⟨S0, arms 69 (Or.inr (Or.inr rfl))⟩, ⟨[], by simp, rfl, rfl, fun k hk => absurd hk (Nat.not_lt_zero k)⟩, fun t ht => ?_⟩
  have key : ∀ t : Fin 6, I0T (gTap t.val) 1 = -1 ∧ I0T (gTap t.val) 2 = 0 := by decide +kernel
  obtain ⟨k1, k2⟩ := key ⟨t, ht⟩
  exact ⟨Or.inl ⟨k1, rfl, k2⟩, ⟨0, by omega, k2, rfl⟩, fun i _ => rfl⟩
theorem inv_step' : SCALL INV := ⟨sc_arms, sc_seed, sc_feed, sc_tree, sc_of, sc_cause, sc_arm, sc_pass, sc_cancel, sc_told, sc_trace, sc_on, sc_till, sc_see, sc_seeds, sc_odds, sc_mean, sc_plan, sc_ends, sc_book, sc_looked, sc_judge, sc_image, sc_undo, sc_count, sc_tape, sc_item, sc_read, sc_shift⟩
