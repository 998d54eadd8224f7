/-- the arrays' classes, as the tables have them -/
theorem tys_at {args : Array Value} {s : State} (hts : ∀ w ∈ lw_tbl, w.before args s = true) : ∃ cA : Nat → ClassId, ∀ (k : Nat) (q : ClassId × FieldType), (tysOf cA)[k]? = some q → ArrOfT s q.1 q.2 ∧ va_RA s q.1 q.2 := by
  have hp : ∀ ty : FieldType, (∀ C, ty ≠ .object C) → Cond.arrayClass ty ∈ lw_tbl → ∃ cA, ArrOfT s cA ty ∧ va_RA s cA ty := by
    intro ty hty hw
    obtain ⟨cA, kA, comp, h1, h2, h3⟩ := Cond.arrayClass_spec (hts _ hw)
    refine ⟨cA, fun n z => ⟨fun k h => (by cases h), kA, h2, comp, h3⟩, ?_⟩
    cases ty with
    | object C => exact absurd rfl (hty C)
    | _ => exact h1
  have ho : ∀ C : String, Cond.arrayOver (.object C) ∈ lw_tbl → ∃ cA, ArrOfT s cA (.object C) ∧ va_RA s cA (.object C) := by
    intro C hw
    obtain ⟨comp, cA, kA, h1, -, h2, h3, h4⟩ := Cond.arrayOver_spec (hts _ hw)
    exact ⟨cA, fun n z => ⟨fun k h => (by cases h), kA, h2, comp, h3⟩, kA, comp, h2, h3, h1, h4⟩
  obtain ⟨c0, a0⟩ := hp .int (fun _ h => by cases h) (List.mem_append_right _ (List.mem_of_getElem? (i := 58) (by decide +kernel)))
  obtain ⟨c1, a1⟩ := hp .long (fun _ h => by cases h) (List.mem_append_right _ (List.mem_of_getElem? (i := 259) (by decide +kernel)))
  obtain ⟨c2, a2⟩ := hp .boolean (fun _ h => by cases h) (List.mem_append_right _ (List.mem_of_getElem? (i := 849) (by decide +kernel)))
  obtain ⟨c3, a3⟩ := ho RX0 (List.mem_append_right _ (List.mem_of_getElem? (i := 27) (by decide +kernel)))
  obtain ⟨c4, a4⟩ := ho RX3 (List.mem_append_right _ (List.mem_of_getElem? (i := 240) (by decide +kernel)))
  refine ⟨fun k => match k with | 0 => c0 | 1 => c1 | 2 => c2 | 3 => c3 | _ => c4, ?_⟩
  intro k q hq
  match k, hq with
  | 0, hq => cases hq; exact a0
  | 1, hq => cases hq; exact a1
  | 2, hq => cases hq; exact a2
  | 3, hq => cases hq; exact a3
  | 4, hq => cases hq; exact a4
  | k + 5, hq => simp [tysOf] at hq
theorem known_at {s : State} {args : Array Value} (hts : ∀ w ∈ lw_tbl, w.before args s = true) : ∃ (dC : Nat → ClassId) (dI : Nat → Nat → Nat), ∀ (k : Nat) (q : vw_C), vwCl[k]? = some q → u_Kn s q.1 q.2.1 q.2.2 (dC k) (dI k) := by
  obtain ⟨c0, i0, h0⟩ := u_known (C := RX0) (T := TX0) (N := 5) (n := 5) hts (fun w hw => gw_lw (isC_X0.2 w hw)) (hts (.instantiable RX0 5) (List.mem_append_right _ (List.mem_of_getElem? (i := 28) (by decide +kernel))))
  obtain ⟨c1, i1, h1⟩ := u_known (C := RX1) (T := TX1) (N := 8) (n := 8) hts (fun w hw => gw_lw (isC_X1.2 w hw)) (hts (.instantiable RX1 8) (List.mem_append_right _ (List.mem_of_getElem? (i := 107) (by decide +kernel))))
  obtain ⟨c2, i2, h2⟩ := u_known (C := RX2) (T := TX2) (N := 3) (n := 3) hts (fun w hw => gw_lw (isC_X2.2 w hw)) (hts (.instantiable RX2 3) (List.mem_append_right _ (List.mem_of_getElem? (i := 139) (by decide +kernel))))
  obtain ⟨c3, i3, h3⟩ := u_known (C := RX3) (T := TX3) (N := 3) (n := 3) hts (fun w hw => gw_lw (isC_X3.2 w hw)) (hts (.instantiable RX3 3) (List.mem_append_right _ (List.mem_of_getElem? (i := 241) (by decide +kernel))))
  obtain ⟨c4, i4, h4⟩ := u_known (C := RX4) (T := TX4) (N := 9) (n := 9) hts (fun w hw => gw_lw (isC_X4.2 w hw)) (hts (.instantiable RX4 9) (List.mem_append_right _ (List.mem_of_getElem? (i := 60) (by decide +kernel))))
  obtain ⟨c5, i5, h5⟩ := u_known (C := RX5) (T := TX5) (N := 10) (n := 10) hts (fun w hw => gw_lw (isC_X5.2 w hw)) (hts (.instantiable RX5 10) (List.mem_append_right _ (List.mem_of_getElem? (i := 198) (by decide +kernel))))
  obtain ⟨c6, i6, h6⟩ := u_known (C := RX6) (T := TX6) (N := 9) (n := 9) hts (fun w hw => gw_lw (isC_X6.2 w hw)) (hts (.instantiable RX6 9) (List.mem_append_right _ (List.mem_of_getElem? (i := 21) (by decide +kernel))))
  obtain ⟨c7, i7, h7⟩ := u_known (C := RX7) (T := TX7) (N := 6) (n := 6) hts (fun w hw => gw_lw (isC_X7.2 w hw)) (hts (.instantiable RX7 6) (List.mem_append_right _ (List.mem_of_getElem? (i := 13) (by decide +kernel))))
  obtain ⟨c8, i8, h8⟩ := u_known (C := RX8) (T := TX8) (N := 55) (n := 55) hts (fun w hw => gw_lw (isC_X8.2 w hw)) (hts (.instantiable RX8 55) (List.mem_append_right _ (List.mem_of_getElem? (i := 678) (by decide +kernel))))
  refine ⟨fun k => match k with | 0 => c0 | 1 => c1 | 2 => c2 | 3 => c3 | 4 => c4 | 5 => c5 | 6 => c6 | 7 => c7 | _ => c8, fun k => match k with | 0 => i0 | 1 => i1 | 2 => i2 | 3 => i3 | 4 => i4 | 5 => i5 | 6 => i6 | 7 => i7 | _ => i8, ?_⟩
  intro k q hq
  match k, hq with
  | 0, hq => cases hq; exact h0
  | 1, hq => cases hq; exact h1
  | 2, hq => cases hq; exact h2
  | 3, hq => cases hq; exact h3
  | 4, hq => cases hq; exact h4
  | 5, hq => cases hq; exact h5
  | 6, hq => cases hq; exact h6
  | 7, hq => cases hq; exact h7
  | 8, hq => cases hq; exact h8
  | k + 9, hq => simp [vwCl] at hq
theorem ci_X7 : CI yX7_init cX7_init 2 0 := ⟨tw 15 (by decide +kernel) (by decide +kernel), tw 1 (by decide +kernel) (by decide +kernel), tw 16 (by decide +kernel) (by decide +kernel), rfl, by decide +kernel⟩
theorem ci_X8 : CI yX8_init cX8_init 2 0 := ⟨tw 680 (by decide +kernel) (by decide +kernel), tw 10 (by decide +kernel) (by decide +kernel), tw 681 (by decide +kernel) (by decide +kernel), rfl, by decide +kernel⟩
set_option maxHeartbeats 4000000 in
set_option maxRecDepth 100000 in
theorem start_of {Inv : IS → JS → IS → JS → Prop} (HS : SCALL Inv) (HI : Inv I0T J00 I0M J00) {p : Program} {e : Env} {s : State} {m : MethodId} {below : List Frame} {meth : Method} {c : Code} (l : Launch) {b L : Nat} {xs : Nat → Int32} (hL : L ≤ 3072) (C0 : lw_At p s m meth c b L xs) : W p l e room_1 s m #[Value.ref b] below meth c s.heap [] 0 0 (lw_Z below #[Value.ref b] s) (entryFrame m ([Value.ref b] : List Value).toArray 4) := by
  obtain ⟨hx, hb, hr, hml, hown, hts, hX, hbl, hlocks, hgv⟩ := id C0
  obtain ⟨cA, hcA⟩ := tys_at hts
  obtain ⟨dC, dI, hKn⟩ := known_at hts
  have hK : va_K (dC, dI) vwCl (tysOf cA) s := ⟨hKn, hcA⟩
  have hgw : ∀ w ∈ gw_tbl, w.before #[Value.ref b] s = true := fun w hw => hts w (gw_lw hw)
  have hA1 : va_AO RX0 s := va_AO.of (hts (.arrayOver (.object RX0)) (List.mem_append_right _ (List.mem_of_getElem? (i := 27) (by decide +kernel))))
  have hA2 : va_AO RX3 s := va_AO.of (hts (.arrayOver (.object RX3)) (List.mem_append_right _ (List.mem_of_getElem? (i := 240) (by decide +kernel))))
  have hAn : ∀ q : Nat, s.heap.size ≤ q → AL s q := fun _ h => h
  have hS : va_S (AL s) s.heap s.heap [] := va_S.rf
  have hP : va_P (dC, dI) vwCl [] s.heap := fun k q h => by simp at h
  have hD : va_D (AL s) [] := ⟨fun i j p q h => by simp at h, fun k q h => by simp at h⟩
  have hl := lv_entry ([.ref b]) (n := 4) (Nat.le_of_ble_eq_true rfl)
  rw [lg_entry_eq]
  generalize (lg_sl ([.ref b]) ++ List.replicate (4 - (lg_sl ([.ref b])).length) Slot.unset).toArray = ls at hl ⊢
  have hl : lv_has ls 4 [(0, .ref b)] := hl
  refine va_new (ci := 7) (fs := [.null, .null, .null, .null, .null, .int 0]) (C := RX7) (T := TX7) (N := 6) hx hb hts (fun w hw => gw_lw (isC_X7.2 w hw)) tyX7 tyX7_ok hown (hts (.classLink R_law 7 RX7) (List.mem_append_right _ (List.mem_of_getElem? (i := 12) (by decide +kernel)))) (hts (.instantiable RX7 6) (List.mem_append_right _ (List.mem_of_getElem? (i := 13) (by decide +kernel)))) (hts (.initialized RX7) (List.mem_append_right _ (List.mem_of_getElem? (i := 1) (by decide +kernel)))) hK hP hD hS hAn rfl dv_X7 (Nat.le_of_ble_eq_true rfl) (Nat.le_of_ble_eq_true rfl) dL_law_0 (fun q0 H hP hD hS => ?_)
  refine lv_dup hx hb dL_law_3 rfl ?_
  refine w_init (wr := []) hx hb hml hown hgw hK hA1 hA2 hAn hl.1 hP hD hS (fun _ => rfl) dL_law_4 ma_X7_init ci_X7 (tw 14 (by decide +kernel) (by decide +kernel)) (rmokA (Nat.le_of_ble_eq_true rfl) (Nat.le_of_ble_eq_true rfl)) ⟨Nat.le_of_ble_eq_true rfl, Nat.le_of_ble_eq_true rfl⟩ (Nat.le_of_ble_eq_true rfl) (fun H locs adC hq0 hP hD hS => ?_)
  rw [List.nil_append] at hP hD
  refine lv_astore_n (lv' := [(1, .ref q0), (0, .ref b)]) hx hb dL_law_7 rfl hl (by decide) rfl (fun ls hl => ?_)
  refine va_new (ci := 8) (fs := [.int 0, .null, .null, .null, .null, .null, .int 0, .null, .null, .null, .null, .null, .null, .null, .int 0, .int 0, .int 0, .null, .int 0, .null, .null, .int 0, .null, .null, .int 0, .null, .null, .int 0, .int 0, .int 0, .null, .null, .int 0, .int 0, .int 0, .null, .null, .null, .int 0, .int 0, .int 0, .int 0, .null, .null, .null, .int 0, .null, .null, .null, .null, .null, .null, .null, .null, .null]) (C := RX8) (T := TX8) (N := 55) hx hb hts (fun w hw => gw_lw (isC_X8.2 w hw)) tyX8 tyX8_ok hown (hts (.classLink R_law 10 RX8) (List.mem_append_right _ (List.mem_of_getElem? (i := 677) (by decide +kernel)))) (hts (.instantiable RX8 55) (List.mem_append_right _ (List.mem_of_getElem? (i := 678) (by decide +kernel)))) (hts (.initialized RX8) (List.mem_append_right _ (List.mem_of_getElem? (i := 10) (by decide +kernel)))) hK hP hD hS hAn rfl dv_X8 (Nat.le_of_ble_eq_true rfl) (Nat.le_of_ble_eq_true rfl) dL_law_8 (fun q1 H hP hD hS => ?_)
  refine lv_dup hx hb dL_law_11 rfl ?_
  refine w_init (wr := wl cA adC fin_X7) hx hb hml hown hgw hK hA1 hA2 hAn hl.1 hP hD hS (fun _ => rfl) dL_law_12 ma_X8_init ci_X8 (tw 679 (by decide +kernel) (by decide +kernel)) (rmokA (Nat.le_of_ble_eq_true rfl) (Nat.le_of_ble_eq_true rfl)) ⟨Nat.le_of_ble_eq_true rfl, Nat.le_of_ble_eq_true rfl⟩ (Nat.le_of_ble_eq_true rfl) (fun H locs adM hq1 hP hD hS => ?_)
  refine lv_astore_n (lv' := [(2, .ref q1), (1, .ref q0), (0, .ref b)]) hx hb dL_law_15 rfl hl (by decide) rfl (fun ls hl => ?_)
  refine lv_iconst (v := 0) hx hb dL_law_16 (by decide) ?_
  refine lv_istore_n (lv' := [(3, .int 0), (2, .ref q1), (1, .ref q0), (0, .ref b)]) hx hb dL_law_17 rfl hl (by decide) rfl (fun ls hl => ?_)
  rw [conv_T, conv_M] at hP hD
  refine W.widen (k := 600000) (n := 7302250) (Nat.le_of_ble_eq_true rfl) (Nat.le_of_ble_eq_true rfl) ?_
  have hlen : (wls cA STop 123 adC I0T J00).length = 123 := by simp [wls]
  have gC : ∀ i, i < 123 → (wls cA STop 123 adC I0T J00 ++ wls cA SMod 36 adM I0M J00)[i]? = some (adC i, cel cA STop adC I0T J00 i) := fun i hi => by
    rw [List.getElem?_append_left (by omega), wls_get hi]
  have gM : ∀ i, i < 36 → (wls cA STop 123 adC I0T J00 ++ wls cA SMod 36 adM I0M J00)[123 + i]? = some (adM i, cel cA SMod adM I0M J00 i) := fun i hi => by
    rw [List.getElem?_append_right (by omega), hlen, Nat.add_sub_cancel_left, wls_get hi]
  have hPC : va_P (dC, dI) vwCl (wls cA STop 123 adC I0T J00) H := fun k q hq => by
    obtain ⟨hk, rfl⟩ := wls_inv hq
    exact hP k _ (gC k hk)
  have hPM : va_P (dC, dI) vwCl (wls cA SMod 36 adM I0M J00) H := fun k q hq => by
    obtain ⟨hk, rfl⟩ := wls_inv hq
    exact hP (123 + k) _ (gM k hk)
  have hO : OL (p, l, e, s, m, below, meth, c, b, L, xs, (dC, dI), cA, adC, adM) b L xs q0 q1 := by
    refine ⟨C0, hK, fun i j hi hj h => hD.1 i j _ _ (gC i hi) (gC j hj) h, fun i j hi hj h => ?_, fun i hi => hD.2 i _ (gC i hi), fun i hi => hD.2 (123 + i) _ (gM i hi), fun i j hi hj h => ?_, rfl, rfl, rfl, hq0, hq1⟩
    · have := hD.1 (123 + i) (123 + j) _ _ (gM i hi) (gM j hj) h
      omega
    · have := hD.1 i (123 + j) _ _ (gC i hi) (gM j hj) h
      omega
  have hGL := law_loop HS hL hO (L + 1) 0 0 rfl (Nat.zero_le _) (by omega) I0T J00 I0M J00 HI
  refine hGL H locs ls hPC hPM hS ?_
  rw [hq0, hq1]
  exact lv_sub hl [3, 2, 1, 0] rfl
