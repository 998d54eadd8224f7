/-! ===== contracts, calls, ends ===== -/
def MC (y : MethodName) (cc : ByteArray) (maxL : Nat) (ret : Option FieldType) (rm : Room) (S : SF) (N : Nat) (av : List Value) (I : IS) (J : JS) (out : OUT) : Prop :=
  ∀ (l : Launch) (D : va_G) (cA : Nat → ClassId) (ad : Nat → Nat) (sz : Nat), Met l y (.code y cc maxL ret :: gw_tbl) rm (va_Pc (av.map (cv ad)) (fun U => U.heap.size = sz ∧ va_P D vwCl (wls cA S N ad I J) U.heap ∧ va_K D vwCl (tysOf cA) U ∧ va_D (fun _ => True) (wls cA S N ad I J))) (QC D cA S N ad (va_A (wls cA S N ad I J) sz) out) 0 0 (va_A (wls cA S N ad I J) sz)
theorem lg_cv (ad : Nat → Nat) (av : List Value) : (lg_sl (av.map (cv ad))).length = (lg_sl av).length := by
  induction av with
  | nil => rfl
  | cons v vs ih =>
    have e1 : lg_sl (cv ad v :: vs.map (cv ad)) = (if (cv ad v).category = 2 then [.val (cv ad v), .second] else [.val (cv ad v)]) ++ lg_sl (vs.map (cv ad)) := by simp [lg_sl]
    have e2 : lg_sl (v :: vs) = (if v.category = 2 then [.val v, .second] else [.val v]) ++ lg_sl vs := by simp [lg_sl]
    rw [List.map_cons, e1, e2, List.length_append, List.length_append, ih, cv_cat]
    by_cases h : v.category = 2 <;> simp [h]
theorem mc_of {y : MethodName} {cc : ByteArray} {maxL : Nat} {ret : Option FieldType} {rm : Room} {S : SF} {N : Nat} {av : List Value} {I : IS} {J : JS} {out : OUT} (hp : plainName y.cls = true) (hl : (lg_sl av).length ≤ maxL)
    (hG : ∀ z, OK z cc y.cls maxL S N rm ret → G z 0 (lv_args 0 av) [] I J out) : MC y cc maxL ret rm S N av I J out := by
  intro l D cA ad sz
  refine Met.ofW (cc := cc) (maxL := maxL) (ret := ret) hp rfl ?_
  intro p e s m args below meth c s₁ B hml hv
  obtain ⟨rfl, hsz, hP, hK, hD0⟩ := hv
  have hts := atoms_spec (ws := .code y cc maxL ret :: gw_tbl) B.pre
  subst hsz
  have hD := hD0.self (sz := s.heap.size)
  have hK2 := hG (p, l, e, rm, s, m, (av.map (cv ad)).toArray, below, meth, c, va_A (wls cA S N ad I J) s.heap.size, maxL, D, cA, S, N, ad)
    ⟨B.exec, B.bytes, findClass_of_methodNamed B.named, hml, fun w hw => hts w (List.mem_cons_of_mem _ hw), hK, fun i j hi hj h => hD0.1 i j _ _ (wls_get hi) (wls_get hj) h, fun i hi => hD.2 i _ (wls_get hi), fun q h => Or.inr h, rfl, rfl, rfl, rfl, B.returns, B.notSynchronized⟩
  rw [lg_entry_eq]
  exact hK2 s.heap [] _ hP va_S.rf (by rw [← lq_args]; exact lv_entry (av.map (cv ad)) (by rw [lg_cv]; exact hl))
section GE
variable {z : CTX} {cc : ByteArray} {own : String} {nL N : Nat} {S : SF} {R : Room} {ret : Option FieldType} {pc : Nat} {L : List (Nat × Value)} {st : List Value} {I : IS} {J : JS} {out : OUT}
theorem g_ireturn (O : OK z cc own nL S N R (some .int)) {x : Int32} (d : decode cc pc = .ok (.ireturn, 1)) (h : out = (some (.int x), I, J)) : G z pc L [.int x] I J out := by
  obtain ⟨p, l, e, R, s, m, args, below, meth, c, A, nL, D, cA, S, N, ad⟩ := z
  obtain ⟨hx, hb, -, -, -, hK, -, -, -, -, -, -, -, hr, hlk⟩ := O
  intro H locs ls hP hS hl
  subst h
  exact W.iret (v := x) hx hb hr (fun t ht hW => ⟨⟨rfl, by rw [ht]; exact hP, va_K.moved hW.alike hK⟩, hS.F ht⟩) hS.2.2 d hlk
theorem g_zreturn (O : OK z cc own nL S N R (some .boolean)) {x : Int32} (d : decode cc pc = .ok (.ireturn, 1)) (hz : okZ x = true) (h : out = (some (.int x), I, J)) : G z pc L [.int x] I J out := by
  obtain ⟨p, l, e, R, s, m, args, below, meth, c, A, nL, D, cA, S, N, ad⟩ := z
  obtain ⟨hx, hb, -, -, -, hK, -, -, -, -, -, -, -, hr, hlk⟩ := O
  intro H locs ls hP hS hl
  subst h
  exact W.zret (v := x) hx hb hr (okZ_n hz) (fun t ht hW => ⟨⟨rfl, by rw [ht]; exact hP, va_K.moved hW.alike hK⟩, hS.F ht⟩) hS.2.2 d hlk
theorem g_lreturn (O : OK z cc own nL S N R (some .long)) {x : Int64} (d : decode cc pc = .ok (.lreturn, 1)) (h : out = (some (.long x), I, J)) : G z pc L [.long x] I J out := by
  obtain ⟨p, l, e, R, s, m, args, below, meth, c, A, nL, D, cA, S, N, ad⟩ := z
  obtain ⟨hx, hb, -, -, -, hK, -, -, -, -, -, -, -, hr, hlk⟩ := O
  intro H locs ls hP hS hl
  subst h
  exact W.lret (v := x) hx hb hr (fun t ht hW => ⟨⟨rfl, by rw [ht]; exact hP, va_K.moved hW.alike hK⟩, hS.F ht⟩) hS.2.2 d hlk
theorem g_return (O : OK z cc own nL S N R none) (d : decode cc pc = .ok (.return_, 1)) (h : out = (none, I, J)) : G z pc L [] I J out := by
  obtain ⟨p, l, e, R, s, m, args, below, meth, c, A, nL, D, cA, S, N, ad⟩ := z
  obtain ⟨hx, hb, -, -, -, hK, -, -, -, -, -, -, -, hr, hlk⟩ := O
  intro H locs ls hP hS hl
  subst h
  exact W.vret hx hb hr (fun t ht hW => ⟨⟨rfl, by rw [ht]; exact hP, va_K.moved hW.alike hK⟩, hS.F ht⟩) hS.2.2 d hlk
/-- a callee's world within the caller's: where its cells lie, what they are before, what the caller's are behind -/
def ZM (S : SF) (N : Nat) (S' : SF) (N' : Nat) (φ : Nat → Nat) (I : IS) (J : JS) (I' : IS) (J' : JS) (out' : OUT) (I2 : IS) (J2 : JS) : Prop :=
  (∀ i, i < N' → φ i < N) ∧ (∀ i j, i < N' → j < N' → φ i = φ j → i = j) ∧
  (∀ (cA : Nat → ClassId) (ad : Nat → Nat) (i : Nat), i < N' → cel cA S' (fun k => ad (φ k)) I' J' i = cel cA S ad I J (φ i)) ∧
  (∀ (cA : Nat → ClassId) (ad : Nat → Nat) (i : Nat), i < N' → cel cA S ad I2 J2 (φ i) = cel cA S' (fun k => ad (φ k)) out'.2.1 out'.2.2 i) ∧
  (∀ (cA : Nat → ClassId) (ad : Nat → Nat) (j : Nat), j < N → (∀ i, i < N' → φ i ≠ j) → cel cA S ad I2 J2 j = cel cA S ad I J j)
theorem cv_ref (ad : Nat → Nat) (a : Nat) : cv ad (.ref a) = .ref (ad a) := rfl
theorem gd_all : GoodIn gw_tbl gw_tbl := fun w hw => ⟨hw, good_of_word (List.mem_filter.mp hw).2⟩
/-- what the tables say of a method that is called on an object -/
def CB (y : MethodName) (cc' : ByteArray) (maxL' : Nat) (ret' : Option FieldType) (n : Nat) : Prop :=
  Cond.instanceMethod y ∈ gw_tbl ∧ Cond.selects y.cls y y ∈ gw_tbl ∧ Cond.initialized y.cls ∈ gw_tbl ∧ Cond.code y cc' maxL' ret' ∈ gw_tbl ∧ (y.cls ≠ "java/lang/invoke/MethodHandle" ∧ y.cls ≠ "java/lang/invoke/VarHandle" ∧ (parseMethodDescriptor y.desc).map (fun d => d.parameters.length) = some n)
def CS (y : MethodName) (cc' : ByteArray) (maxL' : Nat) (ret' : Option FieldType) (n : Nat) : Prop :=
  Cond.static y ∈ gw_tbl ∧ Cond.initialized y.cls ∈ gw_tbl ∧ Cond.code y cc' maxL' ret' ∈ gw_tbl ∧ (y.cls ≠ "java/lang/invoke/MethodHandle" ∧ y.cls ≠ "java/lang/invoke/VarHandle" ∧ (parseMethodDescriptor y.desc).map (fun d => d.parameters.length) = some n)
theorem good1 {w : Cond} (h : w ∈ gw_tbl) : GoodIn gw_tbl [w] := fun v hv => by
  rw [List.mem_singleton.mp hv]
  exact gd_all w h
theorem good_cons {w : Cond} {ws : List Cond} (h : w ∈ gw_tbl) (hg : GoodIn gw_tbl ws) : GoodIn gw_tbl (w :: ws) := fun v hv => by
  rcases List.mem_cons.mp hv with rfl | hv
  · exact gd_all _ h
  · exact hg v hv
theorem behind {D : va_G} {cA : Nat → ClassId} {S S' : SF} {N N' : Nat} {ad φ : Nat → Nat} {I I' I2 : IS} {J J' J2 : JS} {out' : OUT} {A : Nat → Prop} {H0 : Heap} {st₀ t T' : State} {locs Lc : List Loc} (hZ : ZM S N S' N' φ I J I' J' out' I2 J2) (hij : ∀ i j, i < N → j < N → ad i = ad j → i = j) (hA : ∀ i, i < N → A (ad i)) (hAn : ∀ q, H0.size ≤ q → A q) {H : Heap} (hP : va_P D vwCl (wls cA S N ad I J) H) (hS : va_S A H0 H locs) (h0 : st₀.heap = H) (e1 : T'.heap = t.heap) (hL : ∀ q ∈ Lc, va_A (wls cA S' N' (fun k => ad (φ k)) I' J') H.size q.base)
    (hP1 : va_P D vwCl (wls cA S' N' (fun k => ad (φ k)) out'.2.1 out'.2.2) t.heap) (hF : va_F (va_A (wls cA S' N' (fun k => ad (φ k)) I' J') H.size) st₀ t) : va_P D vwCl (wls cA S N ad I2 J2) T'.heap ∧ va_S A H0 T'.heap (locs ++ Lc) := by
  have hAA : ∀ q, va_A (wls cA S' N' (fun k => ad (φ k)) I' J') H.size q → A q := by
    intro q hq
    rcases hq with ⟨k, e, hq⟩ | hq
    · obtain ⟨hk, e2⟩ := wls_inv hq
      cases e2
      exact hA _ (hZ.1 k hk)
    · exact hAn q (Nat.le_trans hS.1 hq)
  have hz := hF.1
  rw [h0] at hz
  have hk : ∀ q : Nat, q < H.size → ¬ va_A (wls cA S' N' (fun k => ad (φ k)) I' J') H.size q → T'.heap[q]? = H[q]? := by
    intro q h1 h2
    rw [e1]
    have h3 := hF.2 q (by rw [h0]; exact h1) h2
    rw [h0] at h3
    exact h3
  refine ⟨fun k q hq => ?_, ?_, fun q h1 h2 => ?_, fun q hq => ?_⟩
  · obtain ⟨hkN, rfl⟩ := wls_inv hq
    by_cases hin : ∃ i, i < N' ∧ φ i = k
    · obtain ⟨i, hi, rfl⟩ := hin
      rw [hZ.2.2.2.1 cA ad i hi, e1]
      exact hP1 i _ (wls_get hi)
    · rw [hZ.2.2.2.2 cA ad k hkN (fun i hi h => hin ⟨i, hi, h⟩)]
      have hc := hP k _ (wls_get hkN)
      refine hc.kept (hk _ hc.lt ?_)
      rintro (⟨k2, e, h⟩ | h)
      · obtain ⟨hk2, e2⟩ := wls_inv h
        have e3 : ad k = ad (φ k2) := congrArg Prod.fst e2
        exact hin ⟨k2, hk2, (hij _ _ hkN (hZ.1 k2 hk2) e3).symm⟩
      · exact absurd hc.lt (Nat.not_lt.mpr h)
  · rw [e1]
    exact Nat.le_trans hS.1 hz
  · have h3 : q < H.size := Nat.lt_of_lt_of_le h1 hS.1
    rw [hk q h3 (fun z => h2 (hAA q z))]
    exact hS.2.1 q h1 h2
  · rcases List.mem_append.mp hq with h | h
    · exact hS.2.2 q h
    · exact hAA _ (hL q h)
theorem g_callV (O : OK z cc own nL S N R ret) {index : Nat} (d : decode cc pc = .ok (.invokevirtual index, 3)) {y : MethodName} {cc' : ByteArray} {maxL' : Nat} {ret' : Option FieldType} {rm' : Room} {S' : SF} {N' : Nat} {av' : List Value} {I' : IS} {J' : JS} {v' : Option Value} {I'' : IS} {J'' : JS}
    (hM : MC y cc' maxL' ret' rm' S' N' (.ref 0 :: av') I' J' (v', I'', J'')) (hcb : CB y cc' maxL' ret' av'.length) (hlk : Cond.methodLink own index y ∈ gw_tbl) {ci n' : Nat} {T : u_T} {fks : List FK} (hC : isC ci y.cls T n') (hS0 : S' 0 = .inl (ci, fks)) (hN0 : 0 < N') (φ : Nat → Nat) {I2 : IS} {J2 : JS} (hZ : ZM S N S' N' φ I J I' J' (v', I'', J'') I2 J2) (hrm : rm'.cells = 0 ∧ rm'.slots = 0 ∧ rm'.frames + 1 ≤ R.frames ∧ 8 + (maxL' + 11) + rm'.locals ≤ R.locals) (hsm : (st.map fun v => v.category).sum ≤ 8) (hv' : ∀ ad, v'.map (cv ad) = v')
    {st0 : List Value} (hst : st0 = (av'.map (cv φ)).reverse ++ .ref (φ 0) :: st) (K : G z (pc + 3) L (v'.toList ++ st) I2 J2 out) : G z pc L st0 I J out := by
  obtain ⟨p, l, e, R, s, m, args, below, meth, c, A, nL, D, cA, S, N, ad⟩ := z
  obtain ⟨hx, hb, hown, hml, hts, hK, hij, hA, hAn, -, rfl, rfl, rfl, -⟩ := O
  subst hst
  intro H locs ls hP hS hl T hT X
  have hPc : va_P D vwCl (wls cA S' N' (fun k => ad (φ k)) I' J') H := by
    intro k q hq
    obtain ⟨hk, rfl⟩ := wls_inv hq
    rw [hZ.2.2.1 cA ad k hk]
    exact hP (φ k) _ (wls_get (hZ.1 k hk))
  have hDc : va_D (fun _ => True) (wls cA S' N' (fun k => ad (φ k)) I' J') := dOf (fun i j hi hj h => hZ.2.1 i j hi hj (hij _ _ (hZ.1 i hi) (hZ.1 j hj) h)) (fun _ _ => trivial)
  have hG : GoodIn gw_tbl (wsV own index y.cls y (.code y cc' maxL' ret' :: gw_tbl)) := good_cons hlk (good_cons hcb.1 (good_cons hcb.2.1 (good_cons hcb.2.2.1 (good_cons hcb.2.2.2.1 gd_all))))
  have hrun := va_runV (R := R) (locs := locs) (As := av'.map (cv fun k => ad (φ k))) (rest := st.map (cv ad)) (g := F0 m pc ls ((av'.map (cv φ)).reverse ++ .ref (φ 0) :: st |>.map (cv ad))) (cells := 0) (slots := 0) (mc := 0) (ms := 0) ⟨hx, hb, hml, hown, hts⟩ (hM l D cA (fun k => ad (φ k)) H.size)
    (cwV (C := y.cls) av'.length hts hG rfl hrm.1 hrm.2.1 ⟨rfl, hcb.2.2.2.2⟩ hrm.2.2)
    ⟨fun a U g mk q => by obtain ⟨q0, q1, qP, qK, qD⟩ := q; exact ⟨q0, q1, qP, va_K.moved (u := U) (U := U.calling g mk a) (Vm.Alike.refl U.vm) qK, qD⟩, va_recv (a := ad (φ 0)) (q0 := 0) (fs := fks.mapIdx (fun k fk => fv (fun k => ad (φ k)) (I' 0) k fk)) hK hPc hC.1 (by rw [wls_get hN0]; simp only [cel, hS0]), fun U hU hW => ⟨rfl, by rw [hU], by rw [hU]; exact hPc, va_K.moved hW.alike hK, hDc⟩⟩
    rfl (by simp) hl.1 (by simp [cv_cv, cv_ref, List.map_reverse, Function.comp_def]) (by
      refine lv_room ?_
      rw [List.map_map]
      have e9 : ((fun v => v.category) ∘ cv ad) = fun v => v.category := by funext v; exact cv_cat ad v
      rw [e9]
      exact hsm) d ⟨Nat.zero_le _, Nat.zero_le _⟩ T hT X
  obtain ⟨v, st₀, t, T', Lc, h0, X', hL, e1, e2, ⟨⟨ho, hP1, hK1⟩, hF⟩, go⟩ := hrun
  obtain ⟨hP2, hS2⟩ := behind hZ hij hA hAn hP hS h0 e1 hL hP1 hF
  have hv : v = v' := by injection ho
  subst hv
  have hKK := K T'.heap (locs ++ Lc) ls hP2 hS2 hl
  have e8 : (v.toList ++ st).map (cv ad) = v.toList ++ st.map (cv ad) := by
    rw [List.map_append]
    congr 1
    have := hv' ad
    cases v with
    | none => rfl
    | some w =>
      have h9 : cv ad w = w := by simpa using this
      simp [h9]
  rw [e8] at hKK
  obtain ⟨t2, a1, b1⟩ := hKK T' rfl X'
  exact ⟨t2, go t2 a1, b1⟩
theorem g_callS (O : OK z cc own nL S N R ret) {index : Nat} (d : decode cc pc = .ok (.invokestatic index, 3)) {y : MethodName} {cc' : ByteArray} {maxL' : Nat} {ret' : Option FieldType} {rm' : Room} {S' : SF} {av' : List Value} {v' : Option Value}
    (hM : MC y cc' maxL' ret' rm' S' 0 av' I J (v', I, J)) (hcb : CS y cc' maxL' ret' av'.length) (hlk : Cond.methodLink own index y ∈ gw_tbl) (hyo : y.cls = own) (hrm : rm'.cells = 0 ∧ rm'.slots = 0 ∧ rm'.frames + 1 ≤ R.frames ∧ 8 + (maxL' + 11) + rm'.locals ≤ R.locals) (hsm : (st.map fun v => v.category).sum ≤ 8) (hv' : ∀ ad, v'.map (cv ad) = v') (hav : ∀ ad, av'.map (cv ad) = av')
    {st0 : List Value} (hst : st0 = av'.reverse ++ st) (K : G z (pc + 3) L (v'.toList ++ st) I J out) : G z pc L st0 I J out := by
  obtain ⟨p, l, e, R, s, m, args, below, meth, c, A, nL, D, cA, S, N, ad⟩ := z
  obtain ⟨hx, hb, hown, hml, hts, hK, hij, hA, hAn, -, rfl, rfl, rfl, -⟩ := O
  subst hst
  subst hyo
  intro H locs ls hP hS hl T hT X
  have hZ : ZM S N S' 0 (fun i => i) I J I J (v', I, J) I J := ⟨fun i h => absurd h (Nat.not_lt_zero i), fun i j h => absurd h (Nat.not_lt_zero i), fun _ _ i h => absurd h (Nat.not_lt_zero i), fun _ _ i h => absurd h (Nat.not_lt_zero i), fun _ _ _ _ _ => rfl⟩
  have hPc : va_P D vwCl (wls cA S' 0 (fun k => ad k) I J) H := by
    intro k q hq
    obtain ⟨hk, rfl⟩ := wls_inv hq
    exact absurd hk (Nat.not_lt_zero k)
  have hDc : va_D (fun _ => True) (wls cA S' 0 (fun k => ad k) I J) := dOf (fun i j hi => absurd hi (Nat.not_lt_zero i)) (fun i hi => absurd hi (Nat.not_lt_zero i))
  have hG : GoodIn gw_tbl (wsS y.cls index y (.code y cc' maxL' ret' :: gw_tbl)) := good_cons hlk (good_cons hcb.1 (good_cons hcb.2.1 (good_cons hcb.2.2.1 gd_all)))
  have hrun := va_runS (R := R) (locs := locs) (As := av'.map (cv fun k => ad k)) (rest := st.map (cv ad)) (g := F0 m pc ls ((av'.reverse ++ st).map (cv ad))) (cells := 0) (slots := 0) (mc := 0) (ms := 0) ⟨hx, hb, hml, hown, hts⟩ (hM l D cA (fun k => ad k) H.size)
    (cwS av'.length hts hG rfl hrm.1 hrm.2.1 ⟨rfl, hcb.2.2.2⟩ hrm.2.2)
    ⟨fun a U g mk q => by obtain ⟨q0, q1, qP, qK, qD⟩ := q; exact ⟨q0, q1, qP, va_K.moved (u := U) (U := U.calling g mk a) (Vm.Alike.refl U.vm) qK, qD⟩, fun U hU hW => ⟨rfl, by rw [hU], by rw [hU]; exact hPc, va_K.moved hW.alike hK, hDc⟩⟩
    rfl (by simp) hl.1 (by simp [List.map_reverse]) (by
      refine lv_room ?_
      rw [List.map_map]
      have e9 : ((fun v => v.category) ∘ cv ad) = fun v => v.category := by funext v; exact cv_cat ad v
      rw [e9]
      exact hsm) d ⟨Nat.zero_le _, Nat.zero_le _⟩ T hT X
  obtain ⟨v, st₀, t, T', Lc, h0, X', hL, e1, e2, ⟨⟨ho, hP1, hK1⟩, hF⟩, go⟩ := hrun
  obtain ⟨hP2, hS2⟩ := behind hZ hij hA hAn hP hS h0 e1 hL hP1 hF
  have hv : v = v' := by injection ho
  subst hv
  have hKK := K T'.heap (locs ++ Lc) ls hP2 hS2 hl
  have e8 : (v.toList ++ st).map (cv ad) = v.toList ++ st.map (cv ad) := by
    rw [List.map_append]
    congr 1
    have := hv' ad
    cases v with
    | none => rfl
    | some w =>
      have h9 : cv ad w = w := by simpa using this
      simp [h9]
  rw [e8] at hKK
  obtain ⟨t2, a1, b1⟩ := hKK T' rfl X'
  exact ⟨t2, go t2 a1, b1⟩
end GE
