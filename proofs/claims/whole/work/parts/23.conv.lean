theorem w_init {p : Program} {l : Launch} {e : Env} {R : Room} {s : State} {m : MethodId} {args : Array Value} {below : List Frame} {meth : Method} {c : Code} {cc : ByteArray} {own : String} {nL kc ks : Nat} {D : va_G} {cA : Nat → ClassId} {A : Nat → Prop} {Q : State → Prop} {wr : va_W} {q0 : Nat} {H : Heap} {locs : List Loc} {ls : Array Slot} {st : List Value} {pc : Nat}
    (hx : p.tables.exec = Jvm.exec) (hb : c.code = cc) (hml : c.maxLocals = nL) (hown : s.vm.findClass own = some m.cls) (hts : ∀ w ∈ gw_tbl, w.before args s = true) (hK : va_K D vwCl (tysOf cA) s) (hA1 : va_AO RX0 s) (hA2 : va_AO RX3 s) (hAn : ∀ q, s.heap.size ≤ q → A q) (hls : ls.size = nL)
    {ci : Nat} {fs : List Value} (hP : va_P D vwCl (wr ++ [(q0, .inr (ci, fs))]) H) (hD : va_D A (wr ++ [(q0, .inr (ci, fs))])) (hS : va_S A s.heap H locs) (hfc : ∀ ad : Nat → Nat, fs.map (cv ad) = fs)
    {index : Nat} (d : decode cc pc = .ok (.invokespecial index, 3)) {y : MethodName} {cc' : ByteArray} {maxL' : Nat} {rm' : Room} {mc' ms' : Nat} {fin' : List AE} (hM : MA y cc' maxL' rm' [.ref 0] [.inr (ci, fs)] fin' mc' ms') (hcb : CI y cc' maxL' 0) (hlk : Cond.methodLink own index y ∈ gw_tbl) (hrm : rm'.cells = mc' ∧ rm'.slots = ms' ∧ rm'.frames + 1 ≤ R.frames ∧ 8 + (maxL' + 11) + rm'.locals ≤ R.locals) (hkc : kc + mc' ≤ R.cells ∧ ks + ms' ≤ R.slots) (hsm : (st.map fun v => v.category).sum ≤ 8)
    (K : ∀ (H1 : Heap) (locs1 : List Loc) (ad' : Nat → Nat), ad' 0 = q0 → va_P D vwCl (wr ++ wl cA ad' fin') H1 → va_D A (wr ++ wl cA ad' fin') → va_S A s.heap H1 locs1 → W p l e R s m args below meth c H1 locs1 (kc + mc') (ks + ms') Q (F0 m (pc + 3) ls st)) : W p l e R s m args below meth c H locs kc ks Q (F0 m pc ls (.ref q0 :: st)) := by
  intro T hT X
  have hge : (wr ++ [(q0, (Sum.inr (ci, fs) : va_E))])[wr.length]? = some (q0, .inr (ci, fs)) := by simp
  have hwc : wl cA (fun _ => q0) [.inr (ci, fs)] = [(q0, .inr (ci, fs))] := by
    show [(q0, (Sum.inr (ci, fs.map (cv fun _ => q0)) : va_E))] = _
    rw [hfc]
  have hPc : va_P D vwCl (wl cA (fun _ => q0) [.inr (ci, fs)]) H := by
    rw [hwc]
    exact hP.sub [wr.length] (by simp)
  have hDc : va_D (fun _ => True) (wl cA (fun _ => q0) [.inr (ci, fs)]) := by
    rw [hwc]
    exact (hD.sub [wr.length] (by simp [va_nd]) (by simp)).weaken (fun _ _ _ _ => trivial)
  have hFc : ∀ q, va_A (wl cA (fun _ => q0) [.inr (ci, fs)]) H.size q → A q := by
    rw [hwc]
    exact va_free hD hS hAn [wr.length] (by simp)
  have hG : GoodIn gw_tbl (.code y cc' maxL' none :: gw_tbl) := good_cons hcb.2.2.1 gd_all
  have hrun := va_runI (R := R) (locs := locs) (As := []) (rest := st) (b := q0) (g := F0 m pc ls (.ref q0 :: st)) (cells := kc) (slots := ks) (mc := mc') (ms := ms') ⟨hx, hb, hml, hown, hts⟩ (hM l D cA (fun _ => q0) H.size)
    (cwI 0 hts hG rfl hrm.1 hrm.2.1 (hts _ hcb.2.1) (hts _ hlk) (hts _ hcb.1) hcb.2.2.2.1 hcb.2.2.2.2 hrm.2.2)
    ⟨fun a U g mk q => by obtain ⟨q0, q1, qP, ⟨qK, qa, qb⟩, qD⟩ := q; exact ⟨q0, q1, qP, ⟨va_K.moved (u := U) (U := U.calling g mk a) (Vm.Alike.refl U.vm) qK, va_AO.moved (u := U) (U := U.calling g mk a) (Vm.Alike.refl U.vm) qa, va_AO.moved (u := U) (U := U.calling g mk a) (Vm.Alike.refl U.vm) qb⟩, qD⟩, fun U hU hW => ⟨rfl, by rw [hU], by rw [hU]; exact hPc, ⟨va_K.moved hW.alike hK, va_AO.moved hW.alike hA1, va_AO.moved hW.alike hA2⟩, hDc⟩⟩
    rfl rfl hls rfl (lv_room hsm) d hkc T hT X
  obtain ⟨v, st₀, t, T', Lc, g0, X', hLc, e1, e2, ⟨⟨ho, ad', ha', ⟨hP1, hK1⟩, hD1⟩, hF⟩, go⟩ := hrun
  have hv : v = none := by injection ho
  subst hv
  have hz := hF.1
  have hk := hF.2
  rw [g0] at hz hk
  have hwr : (List.range wr.length).map (fun i => (wr ++ [(q0, (Sum.inr (ci, fs) : va_E))])[i]?) = wr.map some := by
    apply List.ext_getElem?
    intro i
    by_cases hi : i < wr.length
    · rw [List.getElem?_map, List.getElem?_range hi, List.getElem?_map]
      show some ((wr ++ _)[i]?) = _
      rw [List.getElem?_append_left hi, List.getElem?_eq_getElem hi]
      rfl
    · rw [List.getElem?_eq_none (by simp; omega), List.getElem?_eq_none (by simp; omega)]
  obtain ⟨hP2, hD2⟩ := va_join (wc := wl cA (fun _ => q0) [.inr (ci, fs)]) hP hD [wr.length] (List.range wr.length) (by rw [hwc]; simp) hwr (nd_range _ List.nodup_range) (fun i hi hj => by
    have h1 := List.mem_range.mp hi
    have h2 := List.mem_singleton.mp hj
    omega) hk hFc hP1 hD1
  rw [← e1] at hP2
  have hS2 : va_S A s.heap T'.heap (locs ++ Lc) := by
    refine ⟨by rw [e1]; exact Nat.le_trans hS.1 hz, fun q h1 h2 => ?_, fun q hq => ?_⟩
    · rw [e1, hk q (Nat.lt_of_lt_of_le h1 hS.1) (fun z => h2 (hFc q z))]
      exact hS.2.1 q h1 h2
    · rcases List.mem_append.mp hq with h | h
      · exact hS.2.2 q h
      · exact hFc _ (hLc q h)
  obtain ⟨t2, q1, q2⟩ := K T'.heap (locs ++ Lc) ad' ha' hP2 hD2 hS2 T' rfl X'
  exact ⟨t2, go t2 q1, q2⟩
/-- the numbers with which both begin -/
def I0T : IS := fun i => if (i == 3 || i == 5 || i == 7 || i == 9 || i == 37 || i == 39 || i == 41 || i == 43 || i == 71 || i == 73 || i == 75 || i == 77) = true then (fun k => if k = 2 then (-5 : Int32) else 0) else if (i == 1 || i == 35 || i == 69) = true then (fun k => if k = 6 then (2 : Int32) else if k = 7 then 1 else 0) else if (i == 111 || i == 113 || i == 115 || i == 117 || i == 119 || i == 121) = true then (fun k => if k = 1 then (-1 : Int32) else 0) else fun _ => 0
def J00 : JS := fun _ _ => 0
def wk0 : Nat → Int32 := upd (upd (upd (upd (fun _ => (0 : Int32)) (0 : Int32).toNatClampNeg (-5)) (1 : Int32).toNatClampNeg (-5)) (2 : Int32).toNatClampNeg (-5)) (3 : Int32).toNatClampNeg (-5)
def I0M : IS := fun i => if (i == 0) = true then (fun k => if k = 0 then (2 : Int32) else if k = 14 then 1 else 0) else if (i == 3) = true then wk0 else fun _ => 0
theorem arms_conv (cA : Nat → ClassId) (ad : Nat → Nat) (e : Nat) : (Sum.inl (cA 3, 4, cX ad (.inr (.inr (.inr (.inr (fun j => (fArms j).map (fun i => e + i))))))) : va_E) = Sum.inl (cA 3, 4, .inr (.inr (.inr (.inr (fun j => if j < 4 then some (ad (e + gArm j)) else none))))) := by
  have h : (fun j => ((fArms j).map (fun i => e + i)).map ad) = fun j => if j < 4 then some (ad (e + gArm j)) else none := by
    funext j
    unfold fArms
    by_cases h4 : j < 4
    · rw [if_pos h4, if_pos h4]; rfl
    · rw [if_neg h4, if_neg h4]; rfl
  show (Sum.inl (cA 3, 4, .inr (.inr (.inr (.inr (fun j => ((fArms j).map (fun i => e + i)).map ad))))) : va_E) = _
  rw [h]
theorem tapes_conv (cA : Nat → ClassId) (ad : Nat → Nat) : (Sum.inl (cA 4, 6, cX ad (.inr (.inr (.inr (.inr fTapes))))) : va_E) = Sum.inl (cA 4, 6, .inr (.inr (.inr (.inr (fun j => if j < 6 then some (ad (gTap j)) else none))))) := by
  have h : (fun j => (fTapes j).map ad) = fun j => if j < 6 then some (ad (gTap j)) else none := by
    funext j
    unfold fTapes
    by_cases h4 : j < 6
    · rw [if_pos h4, if_pos h4]; rfl
    · rw [if_neg h4, if_neg h4]; rfl
  show (Sum.inl (cA 4, 6, .inr (.inr (.inr (.inr (fun j => (fTapes j).map ad))))) : va_E) = _
  rw [h]
set_option maxHeartbeats 4000000 in
set_option maxRecDepth 100000 in
theorem conv_T (cA : Nat → ClassId) (ad : Nat → Nat) : wl cA ad fin_X7 = wls cA STop 123 ad I0T J00 := wl_wls rfl (lt_s (lt_s (lt_s (lt_s (lt_s (lt_s (lt_s (lt_s (lt_s (lt_s (lt_s (lt_s (lt_s (lt_s (lt_s (lt_s (lt_s (lt_s (lt_s (lt_s (lt_s (lt_s (lt_s (lt_s (lt_s (lt_s (lt_s (lt_s (lt_s (lt_s (lt_s (lt_s (lt_s (lt_s (lt_s (lt_s (lt_s (lt_s (lt_s (lt_s (lt_s (lt_s (lt_s (lt_s (lt_s (lt_s (lt_s (lt_s (lt_s (lt_s (lt_s (lt_s (lt_s (lt_s (lt_s (lt_s (lt_s (lt_s (lt_s (lt_s (lt_s (lt_s (lt_s (lt_s (lt_s (lt_s (lt_s (lt_s (lt_s (lt_s (lt_s (lt_s (lt_s (lt_s (lt_s (lt_s (lt_s (lt_s (lt_s (lt_s (lt_s (lt_s (lt_s (lt_s (lt_s (lt_s (lt_s (lt_s (lt_s (lt_s (lt_s (lt_s (lt_s (lt_s (lt_s (lt_s (lt_s (lt_s (lt_s (lt_s (lt_s (lt_s (lt_s (lt_s (lt_s (lt_s (lt_s (lt_s (lt_s (lt_s (lt_s (lt_s (lt_s (lt_s (lt_s (lt_s (lt_s (lt_s (lt_s (lt_s (lt_s (lt_s (lt_s lt_0 rfl) rfl) (congrArg some (arms_conv cA ad 1))) rfl) rfl) rfl) rfl) rfl) rfl) rfl) rfl) rfl) rfl) rfl) rfl) rfl) rfl) rfl) rfl) rfl) rfl) rfl) rfl) rfl) rfl) rfl) rfl) rfl) rfl) rfl) rfl) rfl) rfl) rfl) rfl) rfl) (congrArg some (arms_conv cA ad 35))) rfl) rfl) rfl) rfl) rfl) rfl) rfl) rfl) rfl) rfl) rfl) rfl) rfl) rfl) rfl) rfl) rfl) rfl) rfl) rfl) rfl) rfl) rfl) rfl) rfl) rfl) rfl) rfl) rfl) rfl) rfl) rfl) rfl) (congrArg some (arms_conv cA ad 69))) rfl) rfl) rfl) rfl) rfl) rfl) rfl) rfl) rfl) rfl) rfl) rfl) rfl) rfl) rfl) rfl) rfl) rfl) rfl) rfl) rfl) rfl) rfl) rfl) rfl) rfl) rfl) rfl) rfl) rfl) rfl) rfl) rfl) rfl) rfl) rfl) rfl) rfl) rfl) (congrArg some (tapes_conv cA ad))) rfl) rfl) rfl) rfl) rfl) rfl) rfl) rfl) rfl) rfl) rfl) rfl)
theorem obj_conv {cA : Nat → ClassId} {ad : Nat → Nat} {ci : Nat} {fs : List Value} {fks : List FK} {f : Nat → Int32} (hl : fs.length = fks.length) (h : ∀ k, k < fs.length → (fs[k]?).map (cv ad) = (fks[k]?).map (fv ad f k)) : cnv cA ad (.inr (ci, fs)) = .inr (ci, fks.mapIdx (fun k fk => fv ad f k fk)) := by
  show (Sum.inr _ : va_E) = Sum.inr _
  congr 2
  apply List.ext_getElem?
  intro k
  rw [List.getElem?_map, List.getElem?_mapIdx]
  by_cases hk : k < fs.length
  · exact h k hk
  · rw [List.getElem?_eq_none (by omega), List.getElem?_eq_none (by omega)]
    rfl
theorem cnull {ad : Nat → Nat} {f : Nat → Int32} {k : Nat} {q : Nat × Nat} (h : f k = 0) : fv ad f k (some (.inr q)) = .null := by
  have h1 : ¬ f k = 1 := by rw [h]; decide
  have h2 : ¬ f k = 2 := by rw [h]; decide
  simp [fv, h1, h2]
def o8 : List Value := [.int (2), .ref 1, .ref 2, .ref 3, .ref 4, .ref 5, .int 0, .ref 6, .ref 7, .ref 8, .ref 9, .ref 10, .ref 11, .ref 12, .int (1), .int 0, .int 0, .ref 13, .int 0, .ref 14, .ref 15, .int 0, .ref 16, .ref 17, .int 0, .ref 18, .ref 19, .int 0, .int 0, .int (0), .ref 20, .ref 21, .int 0, .int 0, .int 0, .null, .ref 22, .ref 23, .int 0, .int 0, .int 0, .int 0, .ref 24, .ref 25, .ref 26, .int 0, .ref 27, .ref 28, .ref 29, .ref 30, .ref 31, .ref 32, .ref 33, .ref 34, .ref 35]
set_option maxHeartbeats 4000000 in
set_option maxRecDepth 100000 in
theorem conv_M0 (cA : Nat → ClassId) (ad : Nat → Nat) : cnv cA ad (.inr (8, o8)) = .inr (8, mFld.mapIdx (fun k fk => fv ad (I0M 0) k fk)) :=
  obj_conv rfl (show ∀ k, k < 55 → (o8[k]?).map (cv ad) = (mFld[k]?).map (fv ad (I0M 0) k) from (lt_s (lt_s (lt_s (lt_s (lt_s (lt_s (lt_s (lt_s (lt_s (lt_s (lt_s (lt_s (lt_s (lt_s (lt_s (lt_s (lt_s (lt_s (lt_s (lt_s (lt_s (lt_s (lt_s (lt_s (lt_s (lt_s (lt_s (lt_s (lt_s (lt_s (lt_s (lt_s (lt_s (lt_s (lt_s (lt_s (lt_s (lt_s (lt_s (lt_s (lt_s (lt_s (lt_s (lt_s (lt_s (lt_s (lt_s (lt_s (lt_s (lt_s (lt_s (lt_s (lt_s (lt_s (lt_s lt_0 rfl) rfl) rfl) rfl) rfl) rfl) rfl) rfl) rfl) rfl) rfl) rfl) rfl) rfl) rfl) rfl) rfl) rfl) rfl) rfl) rfl) rfl) rfl) rfl) rfl) rfl) rfl) rfl) rfl) rfl) rfl) rfl) rfl) rfl) rfl) (congrArg some (cnull (f := I0M 0) (k := 35) (q := (20, 21)) rfl).symm)) rfl) rfl) rfl) rfl) rfl) rfl) rfl) rfl) rfl) rfl) rfl) rfl) rfl) rfl) rfl) rfl) rfl) rfl) rfl))
set_option maxHeartbeats 4000000 in
set_option maxRecDepth 100000 in
theorem conv_M (cA : Nat → ClassId) (ad : Nat → Nat) : wl cA ad fin_X8 = wls cA SMod 36 ad I0M J00 := wl_wls rfl (lt_s (lt_s (lt_s (lt_s (lt_s (lt_s (lt_s (lt_s (lt_s (lt_s (lt_s (lt_s (lt_s (lt_s (lt_s (lt_s (lt_s (lt_s (lt_s (lt_s (lt_s (lt_s (lt_s (lt_s (lt_s (lt_s (lt_s (lt_s (lt_s (lt_s (lt_s (lt_s (lt_s (lt_s (lt_s (lt_s lt_0 (congrArg some (conv_M0 cA ad))) rfl) rfl) rfl) rfl) rfl) rfl) rfl) rfl) rfl) rfl) rfl) rfl) rfl) rfl) rfl) rfl) rfl) rfl) rfl) rfl) rfl) rfl) rfl) rfl) rfl) rfl) rfl) rfl) rfl) rfl) rfl) rfl) rfl) rfl) rfl)
