/-! ===== constructors: a world that grows, as a list of cells by numbers ===== -/
abbrev CT : Type := (Nat → Int32) ⊕ (Nat → Int64) ⊕ (Nat → UInt32) ⊕ (Nat → UInt64) ⊕ (Nat → Option Nat)
abbrev AE : Type := (Nat × Nat × CT) ⊕ (Nat × List Value)
def cX (ad : Nat → Nat) : CT → CT
  | .inr (.inr (.inr (.inr f))) => .inr (.inr (.inr (.inr (fun j => (f j).map ad))))
  | x => x
def cnv (cA : Nat → ClassId) (ad : Nat → Nat) : AE → va_E
  | .inl (t, n, x) => .inl (cA t, n, cX ad x)
  | .inr (ci, fs) => .inr (ci, fs.map (cv ad))
def vB (n : Nat) : Value → Bool
  | .ref a => decide (a < n)
  | _ => true
def xB (n : Nat) : CT → Prop
  | .inr (.inr (.inr (.inr f))) => ∀ j a, f j = some a → a < n
  | _ => True
def cB (n : Nat) : AE → Prop
  | .inl (_, _, x) => xB n x
  | .inr (_, fs) => ∀ v ∈ fs, vB n v = true
theorem cv_eq {ad ad' : Nat → Nat} {n : Nat} {v : Value} (h : vB n v = true) (ha : ∀ i, i < n → ad i = ad' i) : cv ad v = cv ad' v := by
  cases v with
  | ref a => exact congrArg Value.ref (ha a (of_decide_eq_true h))
  | _ => rfl
theorem cX_eq {ad ad' : Nat → Nat} {n : Nat} {x : CT} (h : xB n x) (ha : ∀ i, i < n → ad i = ad' i) : cX ad x = cX ad' x := by
  match x, h with
  | .inl f, _ => rfl
  | .inr (.inl f), _ => rfl
  | .inr (.inr (.inl f)), _ => rfl
  | .inr (.inr (.inr (.inl f))), _ => rfl
  | .inr (.inr (.inr (.inr f))), h =>
    show (Sum.inr (Sum.inr (Sum.inr (Sum.inr _))) : CT) = Sum.inr (Sum.inr (Sum.inr (Sum.inr _)))
    congr 4
    funext j
    cases hf : f j with
    | none => rfl
    | some a => exact congrArg some (ha a (h j a hf))
theorem cnv_eq {cA : Nat → ClassId} {ad ad' : Nat → Nat} {n : Nat} {c : AE} (h : cB n c) (ha : ∀ i, i < n → ad i = ad' i) : cnv cA ad c = cnv cA ad' c := by
  cases c with
  | inl q =>
    obtain ⟨t, k, x⟩ := q
    show (Sum.inl _ : va_E) = Sum.inl _
    congr 3
    exact cX_eq h ha
  | inr q =>
    obtain ⟨ci, fs⟩ := q
    show (Sum.inr _ : va_E) = Sum.inr _
    congr 2
    exact List.map_congr_left (fun v hv => cv_eq (h v hv) ha)
theorem vB_mono {n m : Nat} {v : Value} (h : vB n v = true) (hnm : n ≤ m) : vB m v = true := by
  cases v with
  | ref a =>
    have h1 : a < n := of_decide_eq_true h
    exact decide_eq_true (Nat.lt_of_lt_of_le h1 hnm)
  | _ => rfl
theorem cB_mono {n m : Nat} {c : AE} (h : cB n c) (hnm : n ≤ m) : cB m c := by
  cases c with
  | inl q =>
    obtain ⟨t, k, x⟩ := q
    match x, h with
    | .inl f, _ => exact trivial
    | .inr (.inl f), _ => exact trivial
    | .inr (.inr (.inl f)), _ => exact trivial
    | .inr (.inr (.inr (.inl f))), _ => exact trivial
    | .inr (.inr (.inr (.inr f))), h => exact fun j a hf => Nat.lt_of_lt_of_le (h j a hf) hnm
  | inr q => exact fun v hv => vB_mono (h v hv) hnm
def wl (cA : Nat → ClassId) (ad : Nat → Nat) (cs : List AE) : va_W := cs.mapIdx (fun i c => (ad i, cnv cA ad c))
def cloA (cs : List AE) : Prop := ∀ c ∈ cs, cB cs.length c
theorem wl_get {cA : Nat → ClassId} {ad : Nat → Nat} {cs : List AE} {i : Nat} {c : AE} (h : cs[i]? = some c) : (wl cA ad cs)[i]? = some (ad i, cnv cA ad c) := by
  unfold wl
  rw [List.getElem?_mapIdx, h]
  rfl
theorem wl_push {cA : Nat → ClassId} {ad ad' : Nat → Nat} {cs : List AE} (c : AE) (h : cloA cs) (ha : ∀ i, i < cs.length → ad i = ad' i) : wl cA ad' (cs ++ [c]) = wl cA ad cs ++ [(ad' cs.length, cnv cA ad' c)] := by
  apply List.ext_getElem?
  intro i
  by_cases hi : i < cs.length
  · have h1 : cs[i]? = some cs[i] := List.getElem?_eq_getElem hi
    rw [wl_get (by rw [List.getElem?_append_left hi]; exact h1), List.getElem?_append_left (by simpa [wl] using hi), wl_get h1, ha i hi, cnv_eq (h _ (List.getElem_mem hi)) ha]
  · by_cases he : i = cs.length
    · subst he
      rw [wl_get (c := c) (by simp), List.getElem?_append_right (by simp [wl])]
      simp [wl]
    · rw [List.getElem?_eq_none (by simp [wl]; omega), List.getElem?_eq_none (by simp [wl]; omega)]
theorem wl_set {cA : Nat → ClassId} {ad : Nat → Nat} {cs : List AE} {i : Nat} (c : AE) : (wl cA ad cs).set i (ad i, cnv cA ad c) = wl cA ad (cs.set i c) := by
  apply List.ext_getElem?
  intro k
  unfold wl
  by_cases hk : k = i
  · subst hk
    by_cases hl : k < cs.length
    · rw [List.getElem?_set_self (by simpa using hl), List.getElem?_mapIdx, List.getElem?_set_self hl]
      rfl
    · rw [List.getElem?_eq_none (by simp; omega), List.getElem?_eq_none (by simp; omega)]
  · rw [List.getElem?_set_ne (Ne.symm hk), List.getElem?_mapIdx, List.getElem?_mapIdx, List.getElem?_set_ne (Ne.symm hk)]
theorem clo_push {cs : List AE} {c : AE} (h : cloA cs) (hc : cB (cs.length + 1) c) : cloA (cs ++ [c]) := by
  intro x hx
  rw [List.length_append]
  rcases List.mem_append.mp hx with hx | hx
  · exact cB_mono (h x hx) (by simp)
  · rw [List.mem_singleton.mp hx]
    exact hc
theorem clo_set {cs : List AE} {i : Nat} {c : AE} (h : cloA cs) (hc : cB cs.length c) : cloA (cs.set i c) := by
  intro x hx
  rw [List.length_set]
  rcases List.mem_or_eq_of_mem_set hx with hx | rfl
  · exact h x hx
  · exact hc
abbrev CTA : Type := Program × Launch × Env × Room × State × MethodId × Array Value × List Frame × Method × Code × (Nat → Prop) × Nat × va_G × (Nat → ClassId) × Nat × Nat × Nat × List AE
def QA (D : va_G) (cA : Nat → ClassId) (a0 : Nat) (A : Nat → Prop) (fin : List AE) : Array Value → State → Outcome → State → Prop := fun _ st o t => (o = .returned none ∧ ∃ ad' : Nat → Nat, ad' 0 = a0 ∧ (va_P D vwCl (wl cA ad' fin) t.heap ∧ va_K D vwCl (tysOf cA) t) ∧ va_D A (wl cA ad' fin)) ∧ va_F A st t
def GA (z : CTA) (pc : Nat) (L : List (Nat × Value)) (st : List Value) (cs : List AE) (kc ks : Nat) : Prop := match z with
  | (p, l, e, R, s, m, args, below, meth, c, A, nL, D, cA, a0, mc, ms, fin) => ∀ (H : Heap) (locs : List Loc) (ls : Array Slot) (ad : Nat → Nat), ad 0 = a0 → va_D A (wl cA ad cs) → cloA cs → 0 < cs.length → va_P D vwCl (wl cA ad cs) H → va_S A s.heap H locs → lv_has ls nL (lq ad L) →
    W p l e R s m args below meth c H locs kc ks (MQ below (QA D cA a0 A fin) args s mc ms A) (F0 m pc ls (st.map (cv ad)))
def OA (z : CTA) (cc : ByteArray) (own : String) (nL' : Nat) (R' : Room) (mc' ms' : Nat) (fin' : List AE) : Prop := match z with
  | (p, l, e, R, s, m, args, below, meth, c, A, nL, D, cA, a0, mc, ms, fin) => p.tables.exec = Jvm.exec ∧ c.code = cc ∧ s.vm.findClass own = some m.cls ∧ c.maxLocals = nL ∧ (∀ w ∈ gw_tbl, w.before args s = true) ∧ va_K D vwCl (tysOf cA) s ∧ (∀ q, s.heap.size ≤ q → A q) ∧ nL = nL' ∧ R = R' ∧ meth.sig.returnType = none ∧ meth.locks = false ∧ va_AO RX0 s ∧ va_AO RX3 s ∧ meth.name = "<init>" ∧ mc = mc' ∧ ms = ms' ∧ fin = fin'
def MA (y : MethodName) (cc : ByteArray) (maxL : Nat) (rm : Room) (av : List Value) (cs fin : List AE) (mc ms : Nat) : Prop :=
  ∀ (l : Launch) (D : va_G) (cA : Nat → ClassId) (ad : Nat → Nat) (sz : Nat), Met l y (.code y cc maxL none :: gw_tbl) rm (va_Pc (av.map (cv ad)) (fun U => U.heap.size = sz ∧ va_P D vwCl (wl cA ad cs) U.heap ∧ (va_K D vwCl (tysOf cA) U ∧ va_AO RX0 U ∧ va_AO RX3 U) ∧ va_D (fun _ => True) (wl cA ad cs))) (QA D cA (ad 0) (va_A (wl cA ad cs) sz) fin) mc ms (va_A (wl cA ad cs) sz)
theorem ma_of {y : MethodName} {cc : ByteArray} {maxL : Nat} {rm : Room} {av : List Value} {cs fin : List AE} {mc ms : Nat} (hp : plainName y.cls = true) (hy : y.name = "<init>") (hl : (lg_sl av).length ≤ maxL) (hcl : cloA cs) (h0 : 0 < cs.length)
    (hG : ∀ z, OA z cc y.cls maxL rm mc ms fin → GA z 0 (lv_args 0 av) [] cs 0 0) : MA y cc maxL rm av cs fin mc ms := by
  intro l D cA ad sz
  refine Met.ofW (cc := cc) (maxL := maxL) (ret := none) hp rfl ?_
  intro p e s m args below meth c s₁ B hml hv
  obtain ⟨rfl, hsz, hP, ⟨hK, hA1, hA2⟩, hD0⟩ := hv
  have hts := atoms_spec (ws := .code y cc maxL none :: gw_tbl) B.pre
  subst hsz
  have hD := hD0.self (sz := s.heap.size)
  have hK2 := hG (p, l, e, rm, s, m, (av.map (cv ad)).toArray, below, meth, c, va_A (wl cA ad cs) s.heap.size, maxL, D, cA, ad 0, mc, ms, fin)
    ⟨B.exec, B.bytes, findClass_of_methodNamed B.named, hml, fun w hw => hts w (List.mem_cons_of_mem _ hw), hK, fun q h => Or.inr h, rfl, rfl, B.returns, B.notSynchronized, hA1, hA2, by rw [(name_of_methodNamed B.named B.method).1, hy], rfl, rfl, rfl⟩
  rw [lg_entry_eq]
  exact hK2 s.heap [] _ ad rfl hD hcl h0 hP va_S.rf (by rw [← lq_args]; exact lv_entry (av.map (cv ad)) (by rw [lg_cv]; exact hl))
section GA
variable {z : CTA} {cc : ByteArray} {own : String} {nL mc ms : Nat} {R : Room} {fin : List AE} {pc : Nat} {L : List (Nat × Value)} {st : List Value} {cs : List AE} {kc ks : Nat}
theorem a_iconst (O : OA z cc own nL R mc ms fin) {n : Int} {v : Int32} (d : decode cc pc = .ok (.iconst n, 1)) (hv : Int32.ofInt n = v) (K : GA z (pc + 1) L (.int v :: st) cs kc ks) : GA z pc L st cs kc ks := by
  obtain ⟨p, l, e, R, s, m, args, below, meth, c, A, nL, D, cA, a0, mc, ms, fin⟩ := z
  obtain ⟨hx, hb, -⟩ := O
  intro H locs ls ad h0 hD hc hn hP hS hl
  exact lv_iconst hx hb d hv (K H locs ls ad h0 hD hc hn hP hS hl)
theorem a_bipush (O : OA z cc own nL R mc ms fin) {n : Int} {v : Int32} (d : decode cc pc = .ok (.bipush n, 2)) (hv : (Int8.ofInt n).toInt32 = v) (K : GA z (pc + 2) L (.int v :: st) cs kc ks) : GA z pc L st cs kc ks := by
  obtain ⟨p, l, e, R, s, m, args, below, meth, c, A, nL, D, cA, a0, mc, ms, fin⟩ := z
  obtain ⟨hx, hb, -⟩ := O
  intro H locs ls ad h0 hD hc hn hP hS hl
  exact lv_bipush hx hb d hv (K H locs ls ad h0 hD hc hn hP hS hl)
theorem a_sipush (O : OA z cc own nL R mc ms fin) {n : Int} {v : Int32} (d : decode cc pc = .ok (.sipush n, 3)) (hv : (Int16.ofInt n).toInt32 = v) (K : GA z (pc + 3) L (.int v :: st) cs kc ks) : GA z pc L st cs kc ks := by
  obtain ⟨p, l, e, R, s, m, args, below, meth, c, A, nL, D, cA, a0, mc, ms, fin⟩ := z
  obtain ⟨hx, hb, -⟩ := O
  intro H locs ls ad h0 hD hc hn hP hS hl
  exact lv_sipush hx hb d hv (K H locs ls ad h0 hD hc hn hP hS hl)
theorem a_aload_n (O : OA z cc own nL R mc ms fin) {k : Fin 4} {x : Nat} (d : decode cc pc = .ok (.aload_n k, 1)) (q : Nat) (h : L[q]? = some ((k : Nat), .ref x)) (K : GA z (pc + 1) L (.ref x :: st) cs kc ks) : GA z pc L st cs kc ks := by
  obtain ⟨p, l, e, R, s, m, args, below, meth, c, A, nL, D, cA, a0, mc, ms, fin⟩ := z
  obtain ⟨hx, hb, -⟩ := O
  intro H locs ls ad h0 hD hc hn hP hS hl
  exact lv_aload_n hx hb d rfl (lv_at hl q (lq_get h)) (K H locs ls ad h0 hD hc hn hP hS hl)
theorem a_iload_n (O : OA z cc own nL R mc ms fin) {k : Fin 4} {x : Int32} (d : decode cc pc = .ok (.iload_n k, 1)) (q : Nat) (h : L[q]? = some ((k : Nat), .int x)) (K : GA z (pc + 1) L (.int x :: st) cs kc ks) : GA z pc L st cs kc ks := by
  obtain ⟨p, l, e, R, s, m, args, below, meth, c, A, nL, D, cA, a0, mc, ms, fin⟩ := z
  obtain ⟨hx, hb, -⟩ := O
  intro H locs ls ad h0 hD hc hn hP hS hl
  exact lv_iload_n hx hb d rfl (lv_at hl q (lq_get h)) (K H locs ls ad h0 hD hc hn hP hS hl)
theorem a_istore_n (O : OA z cc own nL R mc ms fin) {k : Fin 4} {x : Int32} {L' : List (Nat × Value)} (d : decode cc pc = .ok (.istore_n k, 1)) (hn : (k : Nat) < nL) (h : ((k : Nat), Value.int x) :: L.filter (fun q => !(q.1 == (k : Nat)) && !(q.1 + 1 == (k : Nat) && q.2.category == 2)) = L') (K : GA z (pc + 1) L' st cs kc ks) : GA z pc L (.int x :: st) cs kc ks := by
  obtain ⟨p, l, e, R, s, m, args, below, meth, c, A, nL, D, cA, a0, mc, ms, fin⟩ := z
  obtain ⟨hx, hb, -, -, -, -, -, rfl, -⟩ := O
  intro H locs ls ad h0 hD hc hn2 hP hS hl
  exact lv_istore_n hx hb d rfl hl hn (by rw [← h]; exact lq_f1 ad _ (.int x) L) (fun ls' hl' => K H locs ls' ad h0 hD hc hn2 hP hS hl')
theorem a_iinc (O : OA z cc own nL R mc ms fin) {i : Nat} {n : Int} {x v : Int32} {L' : List (Nat × Value)} (d : decode cc pc = .ok (.iinc i n, 3)) (q : Nat) (hq : L[q]? = some (i, .int x)) (hv : x + Int32.ofInt n = v) (hn : i < nL) (h : (i, Value.int v) :: L.filter (fun q => !(q.1 == i) && !(q.1 + 1 == i && q.2.category == 2)) = L') (K : GA z (pc + 3) L' st cs kc ks) : GA z pc L st cs kc ks := by
  obtain ⟨p, l, e, R, s, m, args, below, meth, c, A, nL, D, cA, a0, mc, ms, fin⟩ := z
  obtain ⟨hx, hb, -, -, -, -, -, rfl, -⟩ := O
  intro H locs ls ad h0 hD hc hn2 hP hS hl
  exact lv_iinc hx hb d hl (lq_get hq) hv hn (by rw [← h]; exact lq_f1 ad _ (.int v) L) (fun ls' hl' => K H locs ls' ad h0 hD hc hn2 hP hS hl')
theorem a_goto (O : OA z cc own nL R mc ms fin) {off : Int} (tgt : Nat) (d : decode cc pc = .ok (.goto off, 3)) (ht : (pc : Int) + off = (tgt : Int)) (K : GA z tgt L st cs kc ks) : GA z pc L st cs kc ks := by
  obtain ⟨p, l, e, R, s, m, args, below, meth, c, A, nL, D, cA, a0, mc, ms, fin⟩ := z
  obtain ⟨hx, hb, -⟩ := O
  intro H locs ls ad h0 hD hc hn hP hS hl
  exact lv_goto hx hb d ht (K H locs ls ad h0 hD hc hn hP hS hl)
/-- a branch whose way is known -/
theorem a_geT (O : OA z cc own nL R mc ms fin) {x y : Int32} {off : Int} (tgt : Nat) (d : decode cc pc = .ok (.if_icmp .ge off, 3)) (ht : (pc : Int) + off = (tgt : Int)) (h : y ≤ x) (K : GA z tgt L st cs kc ks) : GA z pc L (.int y :: .int x :: st) cs kc ks := by
  obtain ⟨p, l, e, R, s, m, args, below, meth, c, A, nL, D, cA, a0, mc, ms, fin⟩ := z
  obtain ⟨hx, hb, -⟩ := O
  intro H locs ls ad h0 hD hc hn hP hS hl
  exact lv_icmp_ge hx hb d ht (fun _ => K H locs ls ad h0 hD hc hn hP hS hl) (fun q => absurd h q)
theorem a_geF (O : OA z cc own nL R mc ms fin) {x y : Int32} {off : Int} {tgt : Nat} (d : decode cc pc = .ok (.if_icmp .ge off, 3)) (ht : (pc : Int) + off = (tgt : Int)) (h : ¬ y ≤ x) (K : GA z (pc + 3) L st cs kc ks) : GA z pc L (.int y :: .int x :: st) cs kc ks := by
  obtain ⟨p, l, e, R, s, m, args, below, meth, c, A, nL, D, cA, a0, mc, ms, fin⟩ := z
  obtain ⟨hx, hb, -⟩ := O
  intro H locs ls ad h0 hD hc hn hP hS hl
  exact lv_icmp_ge hx hb d ht (fun q => absurd q h) (fun _ => K H locs ls ad h0 hD hc hn hP hS hl)
theorem a_dup (O : OA z cc own nL R mc ms fin) {v : Value} (d : decode cc pc = .ok (.dup, 1)) (h : v.category = 1) (K : GA z (pc + 1) L (v :: v :: st) cs kc ks) : GA z pc L (v :: st) cs kc ks := by
  obtain ⟨p, l, e, R, s, m, args, below, meth, c, A, nL, D, cA, a0, mc, ms, fin⟩ := z
  obtain ⟨hx, hb, -⟩ := O
  intro H locs ls ad h0 hD hc hn hP hS hl
  exact lv_dup hx hb d (by rw [cv_cat]; exact h) (K H locs ls ad h0 hD hc hn hP hS hl)
theorem a_obj (O : OA z cc own nL R mc ms fin) {index a : Nat} (d : decode cc pc = .ok (.invokespecial index, 3)) (h1 : Cond.methodLink own index Lib.objectInit ∈ gw_tbl) (h2 : Cond.instanceMethod Lib.objectInit ∈ gw_tbl) (h3 : Cond.code Lib.objectInit ⟨#[0xb1]⟩ 1 none ∈ gw_tbl) (hR : 1 ≤ R.frames) (hR2 : (st.map fun v => v.category).sum + 12 ≤ R.locals) (K : GA z (pc + 3) L st cs kc ks) : GA z pc L (.ref a :: st) cs kc ks := by
  obtain ⟨p, l, e, R, s, m, args, below, meth, c, A, nL, D, cA, a0, mc, ms, fin⟩ := z
  obtain ⟨hx, hb, hown, hml, hts, -, -, rfl, rfl, -⟩ := O
  intro H locs ls ad h0 hD hc hn hP hS hl
  refine W.objInit hx hb hown (hts _ h1) (hts _ h2) (hts _ h3) rfl (by rw [hml]; exact hl.1) rfl d hR ?_ ?_
  · rw [cats]
    show 0 + _ + 12 ≤ _
    omega
  · exact W.eq (g2 := F0 m (pc + 3) ls (st.map (cv ad))) rfl (K H locs ls ad h0 hD hc hn hP hS hl)
theorem a_get (O : OA z cc own nL R mc ms fin) {ci n index k i : Nat} {C : String} {T : u_T} (hC : isC ci C T n) (d : decode cc pc = .ok (.getfield index, 3)) (hw : Cond.fieldLink own index (T k).1 (T k).2.1 (T k).2.2.1 ∈ gw_tbl) (hk : k < n) {fs : List Value} (hi : cs[i]? = some (.inr (ci, fs))) {v : Value} (hv : fs[k]? = some v) (K : GA z (pc + 3) L (v :: st) cs kc ks) : GA z pc L (.ref i :: st) cs kc ks := by
  obtain ⟨p, l, e, R, s, m, args, below, meth, c, A, nL, D, cA, a0, mc, ms, fin⟩ := z
  obtain ⟨hx, hb, hown, -, hts, hK, -⟩ := O
  intro H locs ls ad h0 hD hc hn hP hS hl
  exact va_get (q0 := i) (fs := fs.map (cv ad)) (ci := ci) (C := C) (T := T) (N := n) hx hb hts hC.2 hown hK hP (by rw [wl_get hi]; rfl) hC.1 k hk (hts _ hw) (fun _ h => h) (v := cv ad v) (by rw [List.getElem?_map, hv]; rfl) d (K H locs ls ad h0 hD hc hn hP hS hl)
theorem a_putF (O : OA z cc own nL R mc ms fin) {ci n index k i : Nat} {C : String} {T : u_T} {tys : Nat → FieldType} (hC : isC ci C T n) (hT : isT T tys n) (d : decode cc pc = .ok (.putfield index, 3)) (hw : Cond.fieldLink own index (T k).1 (T k).2.1 (T k).2.2.1 ∈ gw_tbl) (hk : k < n) (hfin : (T k).2.2.2 = true) (hdecl : (T k).1 = own) {v : Value} (hv : ∀ ad, narrow (tys k) (cv ad v) = cv ad v ∧ fits (tys k) (cv ad v) = true) {fs : List Value} (hi : cs[i]? = some (.inr (ci, fs))) (hl2 : k < fs.length) (hvb : vB cs.length v = true) (K : GA z (pc + 3) L st (cs.set i (.inr (ci, fs.set k v))) kc ks) : GA z pc L (v :: .ref i :: st) cs kc ks := by
  obtain ⟨p, l, e, R, s, m, args, below, meth, c, A, nL, D, cA, a0, mc, ms, fin⟩ := z
  obtain ⟨hx, hb, hown, -, hts, hK, -, rfl, rfl, -, -, -, -, hin, -⟩ := O
  intro H locs ls ad h0 hD hc hn hP hS hl
  have e2 : (wl cA ad cs).set i (ad i, .inr (ci, (fs.map (cv ad)).set k (cv ad v))) = wl cA ad (cs.set i (.inr (ci, fs.set k v))) := by
    rw [← wl_set]
    congr 2
    show (Sum.inr _ : va_E) = Sum.inr _
    rw [List.map_set]
  refine va_putF (q0 := i) (fs := fs.map (cv ad)) (ci := ci) (C := C) (T := T) (N := n) (v := cv ad v) hx hb hts hC.2 tys hT.1 hT.2 hown hK hP hD hS (by rw [wl_get hi]; rfl) hC.1 k hk (hts _ hw) (fun _ h => h) hfin hin hdecl (hT.1 k hk) (hv ad).1 (hv ad).2 (by simpa using hl2) d (fun H1 locs1 hP1 hD1 hS1 => ?_)
  rw [e2] at hP1 hD1
  refine K H1 locs1 ls ad h0 hD1 (clo_set hc ?_) (by rw [List.length_set]; exact hn) hP1 hS1 hl
  intro w hw
  rcases List.mem_or_eq_of_mem_set hw with hw | rfl
  · exact hc _ (List.mem_of_getElem? hi) w hw
  · exact hvb
theorem a_put (O : OA z cc own nL R mc ms fin) {ci n index k i : Nat} {C : String} {T : u_T} {tys : Nat → FieldType} (hC : isC ci C T n) (hT : isT T tys n) (d : decode cc pc = .ok (.putfield index, 3)) (hw : Cond.fieldLink own index (T k).1 (T k).2.1 (T k).2.2.1 ∈ gw_tbl) (hk : k < n) (hfin : (T k).2.2.2 = false) {x : Int32} (hv : narrow (tys k) (.int x) = .int x ∧ fits (tys k) (.int x) = true) {fs : List Value} (hi : cs[i]? = some (.inr (ci, fs))) (hl2 : k < fs.length) (K : GA z (pc + 3) L st (cs.set i (.inr (ci, fs.set k (.int x)))) kc ks) : GA z pc L (.int x :: .ref i :: st) cs kc ks := by
  obtain ⟨p, l, e, R, s, m, args, below, meth, c, A, nL, D, cA, a0, mc, ms, fin⟩ := z
  obtain ⟨hx, hb, hown, -, hts, hK, -, rfl, rfl, -, -, -, -, hin, -⟩ := O
  intro H locs ls ad h0 hD hc hn hP hS hl
  have e2 : (wl cA ad cs).set i (ad i, .inr (ci, (fs.map (cv ad)).set k (.int x))) = wl cA ad (cs.set i (.inr (ci, fs.set k (.int x)))) := by
    rw [← wl_set]
    congr 2
    show (Sum.inr _ : va_E) = Sum.inr _
    rw [List.map_set]
    rfl
  refine va_put (q0 := i) (fs := fs.map (cv ad)) (ci := ci) (C := C) (T := T) (N := n) (v := .int x) hx hb hts hC.2 tys hT.1 hT.2 hown hK hP hD hS (by rw [wl_get hi]; rfl) hC.1 k hk (hts _ hw) (fun _ h => h) hfin (hT.1 k hk) hv.1 hv.2 (by simpa using hl2) d (fun H1 locs1 hP1 hD1 hS1 => ?_)
  rw [e2] at hP1 hD1
  refine K H1 locs1 ls ad h0 hD1 (clo_set hc ?_) (by rw [List.length_set]; exact hn) hP1 hS1 hl
  intro w hw
  rcases List.mem_or_eq_of_mem_set hw with hw | rfl
  · exact hc _ (List.mem_of_getElem? hi) w hw
  · rfl
theorem a_iast (O : OA z cc own nL R mc ms fin) (d : decode cc pc = .ok (.iastore, 1)) {i n : Nat} {f : Nat → Int32} (hi : cs[i]? = some (.inl (0, n, .inl f))) {x y : Int32} (hin : okI x n = true) (K : GA z (pc + 1) L st (cs.set i (.inl (0, n, .inl (upd f x.toNatClampNeg y)))) kc ks) : GA z pc L (.int y :: .int x :: .ref i :: st) cs kc ks := by
  obtain ⟨p, l, e, R, s, m, args, below, meth, c, A, nL, D, cA, a0, mc, ms, fin⟩ := z
  obtain ⟨hx, hb, hown, -, hts, hK, -⟩ := O
  intro H locs ls ad h0 hD hc hn hP hS hl
  have e2 : (wl cA ad cs).set i (ad i, .inl (cA 0, n, .inl (upd f x.toNatClampNeg y))) = wl cA ad (cs.set i (.inl (0, n, .inl (upd f x.toNatClampNeg y)))) := by
    rw [← wl_set]
    rfl
  refine va_iast (q0 := i) (t0 := 0) (cA := cA 0) (n := n) (f := f) hx hb hK hP hD hS (by rw [wl_get hi]; rfl) rfl (okI_in hin) d (fun H1 locs1 hP1 hD1 hS1 => ?_)
  rw [e2] at hP1 hD1
  exact K H1 locs1 ls ad h0 hD1 (clo_set hc trivial) (by rw [List.length_set]; exact hn) hP1 hS1 hl
theorem a_aast (O : OA z cc own nL R mc ms fin) (d : decode cc pc = .ok (.aastore, 1)) {i n t j ci k : Nat} {C : String} {T : u_T} {f : Nat → Option Nat} (hi : cs[i]? = some (.inl (t, n, .inr (.inr (.inr (.inr f)))))) (ht : ∀ cA, (tysOf cA)[t]? = some (cA t, .object C)) (hC : isC ci C T k) {fs : List Value} (hj : cs[j]? = some (.inr (ci, fs))) {x : Int32} (hin : okI x n = true) (K : GA z (pc + 1) L st (cs.set i (.inl (t, n, .inr (.inr (.inr (.inr (va_up f x.toNatClampNeg (some j))))))) ) kc ks) : GA z pc L (.ref j :: .int x :: .ref i :: st) cs kc ks := by
  obtain ⟨p, l, e, R, s, m, args, below, meth, c, A, nL, D, cA, a0, mc, ms, fin⟩ := z
  obtain ⟨hx, hb, hown, -, hts, hK, -⟩ := O
  intro H locs ls ad h0 hD hc hn hP hS hl
  have e3 : (fun q => (va_up f x.toNatClampNeg (some j) q).map ad) = va_up (fun q => (f q).map ad) x.toNatClampNeg (some (ad j)) := by
    funext q
    unfold va_up
    by_cases h : q = x.toNatClampNeg
    · rw [if_pos h, if_pos h]; rfl
    · rw [if_neg h, if_neg h]
  have e2 : (wl cA ad cs).set i (ad i, .inl (cA t, n, .inr (.inr (.inr (.inr (va_up (fun q => (f q).map ad) x.toNatClampNeg (some (ad j)))))))) = wl cA ad (cs.set i (.inl (t, n, .inr (.inr (.inr (.inr (va_up f x.toNatClampNeg (some j)))))))) := by
    rw [← wl_set, ← e3]
    rfl
  refine va_astq (q0 := i) (t0 := t) (qk := j) (ci := ci) (cA := cA t) (r := (C, T, k)) (n := n) (vs := fs.map (cv ad)) (f := fun q => (f q).map ad) hx hb hK hP hD hS (by rw [wl_get hi]; rfl) (ht cA) (by rw [wl_get hj]; rfl) hC.1 (okI_in hin) d (fun H1 locs1 hP1 hD1 hS1 => ?_)
  rw [e2] at hP1 hD1
  have hjl : j < cs.length := (List.getElem?_eq_some_iff.mp hj).1
  refine K H1 locs1 ls ad h0 hD1 (clo_set hc ?_) (by rw [List.length_set]; exact hn) hP1 hS1 hl
  intro q a hq
  unfold va_up at hq
  by_cases h : q = x.toNatClampNeg
  · rw [if_pos h] at hq
    cases hq
    exact hjl
  · rw [if_neg h] at hq
    exact (hc _ (List.mem_of_getElem? hi) : ∀ j a, f j = some a → a < cs.length) q a hq
theorem a_len (O : OA z cc own nL R mc ms fin) (d : decode cc pc = .ok (.arraylength, 1)) {i n t : Nat} {x : CT} (hi : cs[i]? = some (.inl (t, n, x))) {ty : FieldType} (ht : ∀ cA, (tysOf cA)[t]? = some (cA t, ty)) {v : Int32} (hv : Int32.ofNat n = v) (K : GA z (pc + 1) L (.int v :: st) cs kc ks) : GA z pc L (.ref i :: st) cs kc ks := by
  obtain ⟨p, l, e, R, s, m, args, below, meth, c, A, nL, D, cA, a0, mc, ms, fin⟩ := z
  obtain ⟨hx, hb, hown, -, hts, hK, -⟩ := O
  intro H locs ls ad h0 hD hc hn hP hS hl
  exact va_alen (q0 := i) (t0 := t) (cA := cA t) (x := (n, cX ad x)) hx hb hK hP (by rw [wl_get hi]; rfl) (ht cA) hv d (K H locs ls ad h0 hD hc hn hP hS hl)
theorem a_max (O : OA z cc own nL R mc ms fin) {index : Nat} (d : decode cc pc = .ok (.invokestatic index, 3)) (h1 : Cond.methodLink own index Lib.Math.max.name ∈ gw_tbl) (h2 : Cond.static Lib.Math.max.name ∈ gw_tbl) (h3 : Cond.initialized "java/lang/Math" ∈ gw_tbl) (h4 : Cond.code Lib.Math.max.name Lib.Math.max.code 2 (some .int) ∈ gw_tbl) (hR : 1 ≤ R.frames) (hR2 : (st.map fun v => v.category).sum + 13 ≤ R.locals) (hcR : kc ≤ R.cells) (hsR : ks ≤ R.slots) {x y : Int32} (K : GA z (pc + 3) L (.int (if x < y then y else x) :: st) cs kc ks) : GA z pc L (.int y :: .int x :: st) cs kc ks := by
  obtain ⟨p, l, e, R, s, m, args, below, meth, c, A, nL, D, cA, a0, mc, ms, fin⟩ := z
  obtain ⟨hx, hb, hown, hml, hts, -, -, rfl, rfl, -⟩ := O
  intro H locs ls ad h0 hD hc hn hP hS hl
  exact va_mmax hx hb (hml.trans hl.1.symm) hown (hts _ h1) (hts _ h2) (hts _ h3) (hts _ h4) hR (by rw [cats]; exact hR2) hcR hsR d (K H locs ls ad h0 hD hc hn hP hS hl)
theorem a_top (O : OA z cc own nL R mc ms fin) {x y : Int32} (h : x = y) (K : GA z pc L (.int y :: st) cs kc ks) : GA z pc L (.int x :: st) cs kc ks := h ▸ K
/-- other names for the new cells' numbers change nothing that is held -/
theorem lq_eqA {ad ad' : Nat → Nat} {n : Nat} {L : List (Nat × Value)} (hL : L.all (fun q => vB n q.2) = true) (h : ∀ i, i < n → ad i = ad' i) : lq ad L = lq ad' L := by
  unfold lq
  refine List.map_congr_left (fun q hq => ?_)
  rw [cv_eq (List.all_eq_true.mp hL q hq) h]
theorem st_eqA {ad ad' : Nat → Nat} {n : Nat} {st : List Value} (hL : st.all (vB n) = true) (h : ∀ i, i < n → ad i = ad' i) : st.map (cv ad) = st.map (cv ad') :=
  List.map_congr_left (fun v hv => cv_eq (List.all_eq_true.mp hL v hv) h)
def adX (ad : Nat → Nat) (n q : Nat) : Nat → Nat := fun i => if i = n then q else ad i
theorem adX_lt {ad : Nat → Nat} {n q : Nat} : ∀ i, i < n → ad i = adX ad n q i := fun i hi => by
  unfold adX
  rw [if_neg (by omega)]
theorem adX_n {ad : Nat → Nat} {n q : Nat} : adX ad n q n = q := by
  unfold adX
  rw [if_pos rfl]
theorem a_new (O : OA z cc own nL R mc ms fin) {ci n index : Nat} {C : String} {T : u_T} {tys : Nat → FieldType} (hC : isC ci C T n) (hT : isT T tys n) (d : decode cc pc = .ok (.new index, 3)) (h1 : Cond.classLink own index C ∈ gw_tbl) (h2 : Cond.instantiable C n ∈ gw_tbl) (h3 : Cond.initialized C ∈ gw_tbl) {fs : List Value} (hfs : ∀ j, j < n → defaultValue (tys j) = vp_V fs j) (hfc : ∀ ad : Nat → Nat, fs.map (cv ad) = fs) (hfb : fs.all (vB 0) = true) (hcR : kc + 1 ≤ R.cells) (hsR : ks + n ≤ R.slots) (N : Nat) (hN : cs.length = N) (hL : L.all (fun q => vB N q.2) = true) (hst : st.all (vB N) = true) (K : GA z (pc + 3) L (.ref N :: st) (cs ++ [.inr (ci, fs)]) (kc + 1) (ks + n)) : GA z pc L st cs kc ks := by
  obtain ⟨p, l, e, R, s, m, args, below, meth, c, A, nL, D, cA, a0, mc, ms, fin⟩ := z
  obtain ⟨hx, hb, hown, hml, hts, hK, hAn, rfl, rfl, -⟩ := O
  subst hN
  intro H locs ls ad h0 hD hc hn hP hS hl
  refine va_new (ci := ci) (fs := fs) (C := C) (T := T) (N := n) hx hb hts hC.2 tys hT.1 hown (hts _ h1) (hts _ h2) (hts _ h3) hK hP hD hS hAn hC.1 hfs hcR hsR d (fun q H1 hP1 hD1 hS1 => ?_)
  have e1 : wl cA ad cs ++ [(q, .inr (ci, fs))] = wl cA (adX ad cs.length q) (cs ++ [.inr (ci, fs)]) := by
    rw [wl_push _ hc adX_lt, adX_n]
    congr 3
    show (Sum.inr _ : va_E) = Sum.inr _
    rw [hfc]
  rw [e1] at hP1 hD1
  have hq : cv (adX ad cs.length q) (.ref cs.length) = .ref q := by rw [cv_ref, adX_n]
  have hK2 := K H1 locs ls (adX ad cs.length q) (by rw [← adX_lt 0 hn]; exact h0) hD1 (clo_push hc (fun v hv => vB_mono (List.all_eq_true.mp hfb v hv) (Nat.zero_le _))) (by simp) hP1 hS1 (by rw [← lq_eqA hL adX_lt]; exact hl)
  rw [List.map_cons, hq, ← st_eqA hst adX_lt] at hK2
  exact hK2
theorem arr_same {D : va_G} {tys : List (ClassId × FieldType)} {cA cB : ClassId} {t : Nat} {ty : FieldType} {U : State} (hK : va_K D vwCl tys U) (ht : tys[t]? = some (cA, ty)) (hK2 : va_K D vwCl (tys ++ [(cB, ty)]) U) : cB = cA := by
  have h1 := (hK.2 t _ ht).2
  have h2 := (hK2.2 tys.length (cB, ty) (by simp)).2
  cases ty with
  | object C =>
    obtain ⟨_, _, -, -, -, e1⟩ := h1
    obtain ⟨_, _, -, -, -, e2⟩ := h2
    exact Option.some.inj (e2.symm.trans e1)
  | _ => exact Option.some.inj (h2.symm.trans h1)
theorem a_newa (O : OA z cc own nL R mc ms fin) {atype : ArrayType} (d : decode cc pc = .ok (.newarray atype, 2)) {ty : FieldType} (hty : newarray.typeOf atype = ty) (hw : Cond.arrayClass ty ∈ gw_tbl) {t : Nat} (ht : ∀ cA, (tysOf cA)[t]? = some (cA t, ty)) {n : Int32} {N' : Nat} {x : CT} (hx1 : ∀ c, vp_cell c (N', x) = arrV c N' (fun _ => defaultValue ty)) (hxc : ∀ ad, cX ad x = x) (hxb : xB 0 x) (hn0 : ¬ n < 0) (hN' : n.toNatClampNeg = N') (hby : N' * componentBytes ty ≤ 536870912) (hcR : kc + 1 ≤ R.cells) (hsR : ks + N' ≤ R.slots) (N : Nat) (hN : cs.length = N) (hL : L.all (fun q => vB N q.2) = true) (hst : st.all (vB N) = true) (K : GA z (pc + 2) L (.ref N :: st) (cs ++ [.inl (t, N', x)]) (kc + 1) (ks + N')) : GA z pc L (.int n :: st) cs kc ks := by
  obtain ⟨p, l, e, R, s, m, args, below, meth, c, A, nL, D, cA, a0, mc, ms, fin⟩ := z
  obtain ⟨hx, hb, hown, hml, hts, hK, hAn, rfl, rfl, -⟩ := O
  subst hN
  subst hty
  intro H locs ls ad h0 hD hc hn hP hS hl
  refine va_newa (atype := atype) (ty := newarray.typeOf atype) (N' := N') (a0 := (N', x)) hx hb (hts _ hw) rfl hK hP hD hS hAn hx1 hn0 hN' hby hcR hsR d (fun q cB H1 hK1 hP1 hD1 hS1 => ?_)
  have hcB : cB = cA t := arr_same hK (ht cA) hK1
  subst hcB
  have e1 : wl cA ad cs ++ [(q, .inl (cA t, (N', x)))] = wl cA (adX ad cs.length q) (cs ++ [.inl (t, N', x)]) := by
    rw [wl_push _ hc adX_lt, adX_n]
    congr 3
    show (Sum.inl _ : va_E) = Sum.inl _
    rw [hxc]
  rw [e1] at hP1 hD1
  have hq : cv (adX ad cs.length q) (.ref cs.length) = .ref q := by rw [cv_ref, adX_n]
  have hK2 := K H1 locs ls (adX ad cs.length q) (by rw [← adX_lt 0 hn]; exact h0) hD1 (clo_push hc (cB_mono (c := .inl (t, N', x)) hxb (Nat.zero_le _))) (by simp) hP1 hS1 (by rw [← lq_eqA hL adX_lt]; exact hl)
  rw [List.map_cons, hq, ← st_eqA hst adX_lt] at hK2
  exact hK2
theorem a_newq (O : OA z cc own nL R mc ms fin) {index : Nat} {C : String} (d : decode cc pc = .ok (.anewarray index, 3)) (h1 : Cond.classLink own index C ∈ gw_tbl) (hCC : C = RX0 ∨ C = RX3) {t : Nat} (ht : ∀ cA, (tysOf cA)[t]? = some (cA t, .object C)) {n : Int32} {N' : Nat} (hn0 : ¬ n < 0) (hN' : n.toNatClampNeg = N') (hby : N' * 4 ≤ 536870912) (hcR : kc + 1 ≤ R.cells) (hsR : ks + N' ≤ R.slots) (N : Nat) (hN : cs.length = N) (hL : L.all (fun q => vB N q.2) = true) (hst : st.all (vB N) = true) (K : GA z (pc + 3) L (.ref N :: st) (cs ++ [.inl (t, N', .inr (.inr (.inr (.inr (fun _ => none)))))]) (kc + 1) (ks + N')) : GA z pc L (.int n :: st) cs kc ks := by
  obtain ⟨p, l, e, R, s, m, args, below, meth, c, A, nL, D, cA, a0, mc, ms, fin⟩ := z
  obtain ⟨hx, hb, hown, hml, hts, hK, hAn, rfl, rfl, -, -, hA1, hA2, -⟩ := O
  subst hN
  intro H locs ls ad h0 hD hc hn hP hS hl
  refine va_newq (N' := N') (C := C) hx hb hown (hts _ h1) (hCC.elim (fun h => by rw [h]; exact hA1) (fun h => by rw [h]; exact hA2)) hK hP hD hS hAn hn0 hN' hby hcR hsR d (fun q cB H1 hK1 hP1 hD1 hS1 => ?_)
  have hcB : cB = cA t := arr_same hK (ht cA) hK1
  subst hcB
  have e1 : wl cA ad cs ++ [(q, .inl (cA t, N', .inr (.inr (.inr (.inr (fun _ => none))))))] = wl cA (adX ad cs.length q) (cs ++ [.inl (t, N', .inr (.inr (.inr (.inr (fun _ => none)))))]) := by
    rw [wl_push _ hc adX_lt, adX_n]
    rfl
  rw [e1] at hP1 hD1
  have hq : cv (adX ad cs.length q) (.ref cs.length) = .ref q := by rw [cv_ref, adX_n]
  have hK2 := K H1 locs ls (adX ad cs.length q) (by rw [← adX_lt 0 hn]; exact h0) hD1 (clo_push hc (fun j a h => by cases h)) (by simp) hP1 hS1 (by rw [← lq_eqA hL adX_lt]; exact hl)
  rw [List.map_cons, hq, ← st_eqA hst adX_lt] at hK2
  exact hK2
theorem a_cs (h : ∀ cs', cs = cs' → GA z pc L st cs' kc ks) : GA z pc L st cs kc ks := h cs rfl
theorem a_ret (O : OA z cc own nL R mc ms fin) (d : decode cc pc = .ok (.return_, 1)) (hf : cs = fin) (h1 : kc = mc) (h2 : ks = ms) : GA z pc L [] cs kc ks := by
  obtain ⟨p, l, e, R, s, m, args, below, meth, c, A, nL, D, cA, a0, mc, ms, fin⟩ := z
  obtain ⟨hx, hb, -, -, -, hK, -, -, -, hr, hlk, -, -, -, rfl, rfl, rfl⟩ := O
  subst hf; subst h1; subst h2
  intro H locs ls ad h0 hD hc hn hP hS hl
  exact W.vret hx hb hr (fun t ht hW => ⟨⟨rfl, ad, h0, ⟨by rw [ht]; exact hP, va_K.moved hW.alike hK⟩, hD⟩, hS.F ht⟩) hS.2.2 d hlk
theorem nd_range : ∀ (l : List Nat), l.Nodup → va_nd l = true
  | [], _ => rfl
  | a :: l, h => by
    obtain ⟨h1, h2⟩ := List.nodup_cons.mp h
    simp only [va_nd, Bool.and_eq_true, decide_eq_true_eq]
    exact ⟨h1, nd_range l h2⟩
def rel (e : Nat) : AE → AE
  | .inl (t, n, x) => .inl (t, n, cX (fun i => e + i) x)
  | .inr (ci, fs) => .inr (ci, fs.map (cv (fun i => e + i)))
theorem cX_cX (ad φ : Nat → Nat) (x : CT) : cX ad (cX φ x) = cX (fun i => ad (φ i)) x := by
  match x with
  | .inl f => rfl
  | .inr (.inl f) => rfl
  | .inr (.inr (.inl f)) => rfl
  | .inr (.inr (.inr (.inl f))) => rfl
  | .inr (.inr (.inr (.inr f))) =>
    show (Sum.inr (Sum.inr (Sum.inr (Sum.inr _))) : CT) = Sum.inr (Sum.inr (Sum.inr (Sum.inr _)))
    congr 4
    funext j
    show ((f j).map φ).map ad = (f j).map (fun i => ad (φ i))
    cases f j <;> rfl
theorem cnv_rel {cA : Nat → ClassId} {ad : Nat → Nat} {e : Nat} (c : AE) : cnv cA ad (rel e c) = cnv cA (fun i => ad (e + i)) c := by
  cases c with
  | inl q =>
    obtain ⟨t, n, x⟩ := q
    show (Sum.inl _ : va_E) = Sum.inl _
    congr 3
    exact cX_cX _ _ _
  | inr q =>
    obtain ⟨ci, fs⟩ := q
    show (Sum.inr _ : va_E) = Sum.inr _
    congr 2
    rw [List.map_map]
    exact List.map_congr_left (fun v _ => cv_cv _ _ v)
theorem cB_rel {n e : Nat} {c : AE} (h : cB n c) : cB (e + n) (rel e c) := by
  cases c with
  | inl q =>
    obtain ⟨t, k, x⟩ := q
    match x, h with
    | .inl f, _ => exact trivial
    | .inr (.inl f), _ => exact trivial
    | .inr (.inr (.inl f)), _ => exact trivial
    | .inr (.inr (.inr (.inl f))), _ => exact trivial
    | .inr (.inr (.inr (.inr f))), h =>
      intro j a hj
      have hj : (f j).map (fun i => e + i) = some a := hj
      cases hf : f j with
      | none => rw [hf] at hj; cases hj
      | some b =>
        rw [hf] at hj
        cases hj
        exact Nat.add_lt_add_left (h j b hf) e
  | inr q =>
    obtain ⟨ci, fs⟩ := q
    intro v hv
    obtain ⟨w, hw, rfl⟩ := List.mem_map.mp hv
    have := h w hw
    cases w with
    | ref a => exact decide_eq_true (Nat.add_lt_add_left (of_decide_eq_true this) e)
    | _ => rfl
/-- what the tables say of a constructor -/
def CI (y : MethodName) (cc' : ByteArray) (maxL' : Nat) (n : Nat) : Prop :=
  Cond.instanceMethod y ∈ gw_tbl ∧ Cond.initialized y.cls ∈ gw_tbl ∧ Cond.code y cc' maxL' none ∈ gw_tbl ∧ y.name = "<init>" ∧ (y.cls ≠ "java/lang/invoke/MethodHandle" ∧ y.cls ≠ "java/lang/invoke/VarHandle" ∧ (parseMethodDescriptor y.desc).map (fun d => d.parameters.length) = some n)
theorem a_call (O : OA z cc own nL R mc ms fin) {index : Nat} (d : decode cc pc = .ok (.invokespecial index, 3)) {y : MethodName} {cc' : ByteArray} {maxL' : Nat} {rm' : Room} {av' : List Value} {ci mc' ms' : Nat} {fs : List Value} {fin' : List AE} (hM : MA y cc' maxL' rm' (.ref 0 :: av') [.inr (ci, fs)] fin' mc' ms') (hcb : CI y cc' maxL' av'.length) (hlk : Cond.methodLink own index y ∈ gw_tbl) (e : Nat) (hlen : cs.length = e + 1) (hce : cs[e]? = some (.inr (ci, fs))) (hfc : ∀ ad : Nat → Nat, fs.map (cv ad) = fs) (hrm : rm'.cells = mc' ∧ rm'.slots = ms' ∧ rm'.frames + 1 ≤ R.frames ∧ 8 + (maxL' + 11) + rm'.locals ≤ R.locals) (hcR : kc + mc' ≤ R.cells) (hsR : ks + ms' ≤ R.slots) (hsm : (st.map fun v => v.category).sum ≤ 8) (hav : ∀ ad : Nat → Nat, av'.map (cv ad) = av') (hL : L.all (fun q => vB (e + 1) q.2) = true) (hsb : st.all (vB (e + 1)) = true) (hcl : cloA fin') (hf0 : 0 < fin'.length) {st0 : List Value} (hst : st0 = av'.reverse ++ .ref e :: st)
    (K : GA z (pc + 3) L st (cs.take e ++ fin'.map (rel e)) (kc + mc') (ks + ms')) : GA z pc L st0 cs kc ks := by
  obtain ⟨p, l, e0, R, s, m, args, below, meth, c, A, nL, D, cA, a0, mc, ms, fin⟩ := z
  obtain ⟨hx, hb, hown, hml, hts, hK, hAn, rfl, rfl, -, -, hA1, hA2, -⟩ := O
  subst hst
  intro H locs ls ad h0 hD hc hn hP hS hl T hT X
  have he : e < cs.length := by omega
  have hwc : wl cA (fun i => ad (e + i)) [.inr (ci, fs)] = [(ad e, cnv cA ad (.inr (ci, fs)))] := by
    show [(ad (e + 0), (Sum.inr (ci, fs.map (cv fun i => ad (e + i))) : va_E))] = [(ad e, Sum.inr (ci, fs.map (cv ad)))]
    rw [hfc, hfc]
    rfl
  have hPc : va_P D vwCl (wl cA (fun i => ad (e + i)) [.inr (ci, fs)]) H := by
    rw [hwc]
    exact hP.sub [e] (by simp [wl_get hce])
  have hDc : va_D (fun _ => True) (wl cA (fun i => ad (e + i)) [.inr (ci, fs)]) := by
    rw [hwc]
    exact (hD.sub [e] (by simp [va_nd]) (by simp [wl_get hce])).weaken (fun _ _ _ _ => trivial)
  have hFc : ∀ q, va_A (wl cA (fun i => ad (e + i)) [.inr (ci, fs)]) H.size q → A q := by
    rw [hwc]
    exact va_free hD hS hAn [e] (by simp [wl_get hce])
  have hG : GoodIn gw_tbl (.code y cc' maxL' none :: gw_tbl) := good_cons hcb.2.2.1 gd_all
  have hrun := va_runI (R := R) (locs := locs) (As := av'.map (cv fun i => ad (e + i))) (rest := st.map (cv ad)) (b := ad e) (g := F0 m pc ls ((av'.reverse ++ .ref e :: st).map (cv ad))) (cells := kc) (slots := ks) (mc := mc') (ms := ms') ⟨hx, hb, hml, hown, hts⟩ (hM l D cA (fun i => ad (e + i)) H.size)
    (cwI av'.length hts hG rfl hrm.1 hrm.2.1 (hts _ hcb.2.1) (hts _ hlk) (hts _ hcb.1) hcb.2.2.2.1 hcb.2.2.2.2 hrm.2.2)
    ⟨fun a U g mk q => by obtain ⟨q0, q1, qP, ⟨qK, qa, qb⟩, qD⟩ := q; exact ⟨q0, q1, qP, ⟨va_K.moved (u := U) (U := U.calling g mk a) (Vm.Alike.refl U.vm) qK, va_AO.moved (u := U) (U := U.calling g mk a) (Vm.Alike.refl U.vm) qa, va_AO.moved (u := U) (U := U.calling g mk a) (Vm.Alike.refl U.vm) qb⟩, qD⟩, fun U hU hW => ⟨rfl, by rw [hU], by rw [hU]; exact hPc, ⟨va_K.moved hW.alike hK, va_AO.moved hW.alike hA1, va_AO.moved hW.alike hA2⟩, hDc⟩⟩
    rfl (by simp) hl.1 (by rw [hav, List.map_append, List.map_reverse, hav]; rfl) (by
      refine lv_room ?_
      rw [cats]
      exact hsm) d ⟨hcR, hsR⟩ T hT X
  obtain ⟨v, st₀, t, T', Lc, g0, X', hLc, e1, e2, ⟨⟨ho, ad', ha', ⟨hP1, hK1⟩, hD1⟩, hF⟩, go⟩ := hrun
  have hv : v = none := by injection ho
  subst hv
  have hz := hF.1
  have hk := hF.2
  rw [g0] at hz hk
  have ha' : ad' 0 = ad e := ha'
  have hwr : (List.range e).map (fun i => (wl cA ad cs)[i]?) = (wl cA ad (cs.take e)).map some := by
    apply List.ext_getElem?
    intro i
    by_cases hi : i < e
    · have h1 : cs[i]? = some cs[i] := List.getElem?_eq_getElem (by omega)
      have h2 : (cs.take e)[i]? = some cs[i] := by rw [List.getElem?_take_of_lt hi]; exact h1
      rw [List.getElem?_map, List.getElem?_range hi, List.getElem?_map, wl_get h2]
      show some ((wl cA ad cs)[i]?) = _
      rw [wl_get h1]
      rfl
    · rw [List.getElem?_eq_none (by simp; omega), List.getElem?_eq_none (by simp [wl]; omega)]
  obtain ⟨hP2, hD2⟩ := va_join (wc := wl cA (fun i => ad (e + i)) [.inr (ci, fs)]) hP hD [e] (List.range e) (by rw [hwc]; simp [wl_get hce]) hwr (nd_range _ List.nodup_range) (fun i hi hj => by
    have h1 := List.mem_range.mp hi
    have h2 := List.mem_singleton.mp hj
    omega) hk hFc hP1 hD1
  let ad2 : Nat → Nat := fun i => if i < e then ad i else ad' (i - e)
  have hlo : ∀ i, i < e → ad2 i = ad i := fun i hi => by show (if i < e then ad i else ad' (i - e)) = ad i; rw [if_pos hi]
  have hhi : ∀ i, ad2 (e + i) = ad' i := fun i => by
    show (if e + i < e then ad (e + i) else ad' (e + i - e)) = ad' i
    rw [if_neg (by omega), Nat.add_sub_cancel_left]
  have hag : ∀ i, i < e + 1 → ad i = ad2 i := fun i hi => by
    by_cases h : i < e
    · exact (hlo i h).symm
    · have : i = e + 0 := by omega
      rw [this, hhi, ha']
      rfl
  have ewl : wl cA ad (cs.take e) ++ wl cA ad' fin' = wl cA ad2 (cs.take e ++ fin'.map (rel e)) := by
    apply List.ext_getElem?
    intro i
    have hte : (cs.take e).length = e := by rw [List.length_take]; omega
    by_cases hi : i < e
    · have h1 : cs[i]? = some cs[i] := List.getElem?_eq_getElem (by omega)
      have h2 : (cs.take e)[i]? = some cs[i] := by rw [List.getElem?_take_of_lt hi]; exact h1
      rw [List.getElem?_append_left (by simp [wl, hte]; exact hi), wl_get h2, wl_get (c := cs[i]) (by rw [List.getElem?_append_left (by omega)]; exact h2), hlo i hi]
      congr 2
      exact cnv_eq (hc _ (List.mem_of_getElem? h1)) (fun j hj => hag j (by omega))
    · rw [List.getElem?_append_right (by simp [wl, hte]; omega)]
      have hwl : (wl cA ad (cs.take e)).length = e := by simp [wl, hte]
      rw [hwl]
      by_cases hj : i - e < fin'.length
      · have h3 : fin'[i - e]? = some fin'[i - e] := List.getElem?_eq_getElem hj
        rw [wl_get h3, wl_get (c := rel e fin'[i - e]) (by rw [List.getElem?_append_right (by omega), hte, List.getElem?_map, h3]; rfl), cnv_rel]
        have h4 : ad2 i = ad' (i - e) := by
          have := hhi (i - e)
          rw [show e + (i - e) = i by omega] at this
          exact this
        rw [h4]
        congr 2
        congr 1
        funext j
        exact (hhi j).symm
      · rw [List.getElem?_eq_none (by simp [wl]; omega), List.getElem?_eq_none (by simp [wl]; omega)]
  rw [ewl] at hP2 hD2
  rw [← e1] at hP2
  have hS2 : va_S A s.heap T'.heap (locs ++ Lc) := by
    refine ⟨by rw [e1]; exact Nat.le_trans hS.1 hz, fun q h1 h2 => ?_, fun q hq => ?_⟩
    · rw [e1, hk q (Nat.lt_of_lt_of_le h1 hS.1) (fun z => h2 (hFc q z))]
      exact hS.2.1 q h1 h2
    · rcases List.mem_append.mp hq with h | h
      · exact hS.2.2 q h
      · exact hFc _ (hLc q h)
  have hcl2 : cloA (cs.take e ++ fin'.map (rel e)) := by
    intro x hx
    have hln : (cs.take e ++ fin'.map (rel e)).length = e + fin'.length := by simp; omega
    rw [hln]
    rcases List.mem_append.mp hx with hx | hx
    · exact cB_mono (hc x (List.mem_of_mem_take hx)) (by omega)
    · obtain ⟨w, hw, rfl⟩ := List.mem_map.mp hx
      exact cB_rel (hcl w hw)
  have hKK := K T'.heap (locs ++ Lc) ls ad2 (by rw [← hag 0 (by omega)]; exact h0) hD2 hcl2 (by simp; omega) hP2 hS2 (by rw [← lq_eqA hL hag]; exact hl)
  rw [← st_eqA hsb hag] at hKK
  obtain ⟨t2, q1, q2⟩ := hKK T' rfl X'
  exact ⟨t2, go t2 q1, q2⟩
end GA
section GB
variable {z : CTA} {cc : ByteArray} {own : String} {nL mc ms : Nat} {R : Room} {fin : List AE} {pc : Nat} {L : List (Nat × Value)} {st : List Value} {cs : List AE} {kc ks : Nat}
theorem a_nm (cs' : List AE) (h : cs = cs') (K : GA z pc L st cs' kc ks) : GA z pc L st cs kc ks := by
  rw [h]
  exact K
theorem wl_wls {cA : Nat → ClassId} {S : SF} {N : Nat} {ad : Nat → Nat} {I : IS} {J : JS} {cs : List AE} (hl : cs.length = N) (h : ∀ i, i < N → (cs[i]?).map (cnv cA ad) = some (cel cA S ad I J i)) : wl cA ad cs = wls cA S N ad I J := by
  apply List.ext_getElem?
  intro i
  by_cases hi : i < N
  · have h1 := h i hi
    have h2 : cs[i]? = some cs[i] := List.getElem?_eq_getElem (by omega)
    rw [h2] at h1
    rw [wl_get h2, wls_get hi]
    have h3 : cnv cA ad cs[i] = cel cA S ad I J i := by simpa using h1
    rw [h3]
  · rw [List.getElem?_eq_none (by simp [wl]; omega), List.getElem?_eq_none (by simp [wls]; omega)]
end GB
def rmA (f c s l : Nat) : Room := { frames := f, cells := c, slots := s, locals := l }
theorem rmokA {f c s l maxL' : Nat} {R : Room} (h1 : f + 1 ≤ R.frames) (h2 : 8 + (maxL' + 11) + l ≤ R.locals) : (rmA f c s l).cells = c ∧ (rmA f c s l).slots = s ∧ (rmA f c s l).frames + 1 ≤ R.frames ∧ 8 + (maxL' + 11) + (rmA f c s l).locals ≤ R.locals := ⟨rfl, rfl, h1, h2⟩
