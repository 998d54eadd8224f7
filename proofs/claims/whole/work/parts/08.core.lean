/-- the tables' words that stay good in a callee -/
def gw_tbl : List Cond := lw_tbl.filter goodWord
theorem gw_in {w : Cond} (h : w ∈ lw_tbl) (g : goodWord w = true) : w ∈ gw_tbl := List.mem_filter.mpr ⟨h, g⟩
/-! ===== the abstract machine: cells by numbers; a method's world is N cells, cell i lies at ad i ===== -/
abbrev IS : Type := Nat → Nat → Int32
abbrev JS : Type := Nat → Nat → Int64
/-- a field: an int; a fixed cell; one of two cells or none, by a code -/
abbrev FK : Type := Option (Nat ⊕ (Nat × Nat))
/-- a cell: an object of a class, with its fields; an array of a kind, of a length, of numbers or of fixed cells -/
abbrev SH : Type := (Nat × List FK) ⊕ (Nat × Nat × Option (Nat → Nat))
abbrev SF : Type := Nat → SH
def cv (ad : Nat → Nat) : Value → Value
  | .ref a => .ref (ad a)
  | v => v
theorem cv_cat (ad : Nat → Nat) (v : Value) : (cv ad v).category = v.category := by cases v <;> rfl
theorem cv_cv (ad φ : Nat → Nat) (v : Value) : cv ad (cv φ v) = cv (fun i => ad (φ i)) v := by cases v <;> rfl
def fv (ad : Nat → Nat) (f : Nat → Int32) (k : Nat) : FK → Value
  | none => .int (f k)
  | some (.inl j) => .ref (ad j)
  | some (.inr q) => if f k = 1 then .ref (ad q.1) else if f k = 2 then .ref (ad q.2) else .null
def cel (cA : Nat → ClassId) (S : SF) (ad : Nat → Nat) (I : IS) (J : JS) (i : Nat) : va_E := match S i with
  | .inl (ci, fks) => .inr (ci, fks.mapIdx (fun k fk => fv ad (I i) k fk))
  | .inr (t, n, none) => if t = 1 then .inl (cA t, n, .inr (.inl (J i))) else .inl (cA t, n, .inl (I i))
  | .inr (t, n, some g) => .inl (cA t, n, .inr (.inr (.inr (.inr (fun j => if j < n then some (ad (g j)) else none)))))
def wls (cA : Nat → ClassId) (S : SF) (N : Nat) (ad : Nat → Nat) (I : IS) (J : JS) : va_W := (List.range N).map (fun i => (ad i, cel cA S ad I J i))
theorem wls_get {cA : Nat → ClassId} {S : SF} {N : Nat} {ad : Nat → Nat} {I : IS} {J : JS} {i : Nat} (h : i < N) : (wls cA S N ad I J)[i]? = some (ad i, cel cA S ad I J i) := by
  simp [wls, h]
theorem wls_inv {cA : Nat → ClassId} {S : SF} {N : Nat} {ad : Nat → Nat} {I : IS} {J : JS} {i : Nat} {q : Nat × va_E} (h : (wls cA S N ad I J)[i]? = some q) : i < N ∧ q = (ad i, cel cA S ad I J i) := by
  have hl : i < N := by
    have := (List.getElem?_eq_some_iff.mp h).1
    simpa [wls] using this
  exact ⟨hl, (Option.some.inj ((wls_get hl).symm.trans h)).symm⟩
theorem wls_set {cA : Nat → ClassId} {S : SF} {N : Nat} {ad : Nat → Nat} {I I' : IS} {J J' : JS} {i : Nat} {e : va_E} (_ : i < N) (he : cel cA S ad I' J' i = e) (ho : ∀ j, j < N → j ≠ i → cel cA S ad I' J' j = cel cA S ad I J j) : (wls cA S N ad I J).set i (ad i, e) = wls cA S N ad I' J' := by
  apply List.ext_getElem?
  intro k
  by_cases hk : k < N
  · by_cases hki : k = i
    · subst hki
      rw [List.getElem?_set_self (by simpa [wls] using hk), wls_get hk, he]
    · rw [List.getElem?_set_ne (Ne.symm hki), wls_get hk, wls_get hk, ho k hk hki]
  · rw [List.getElem?_eq_none (by simp [wls]; omega), List.getElem?_eq_none (by simp [wls]; omega)]
/-- one number of one cell changes -/
def u2 {α : Type} (I : Nat → Nat → α) (i k : Nat) (v : α) : Nat → Nat → α := fun j => if j = i then (fun b => if b = k then v else I i b) else I j
theorem cel_I {cA : Nat → ClassId} {S : SF} {ad : Nat → Nat} {I I' : IS} {J J' : JS} {i : Nat} (h : I' i = I i) (hJ : J' i = J i) : cel cA S ad I' J' i = cel cA S ad I J i := by
  unfold cel
  rw [h, hJ]
/-- the context of a walk -/
abbrev CTX : Type := Program × Launch × Env × Room × State × MethodId × Array Value × List Frame × Method × Code × (Nat → Prop) × Nat × va_G × (Nat → ClassId) × SF × Nat × (Nat → Nat)
abbrev OUT : Type := Option Value × IS × JS
def tysOf (cA : Nat → ClassId) : List (ClassId × FieldType) := [(cA 0, .int), (cA 1, .long), (cA 2, .boolean), (cA 3, .object RX0), (cA 4, .object RX3)]
def QC (D : va_G) (cA : Nat → ClassId) (S : SF) (N : Nat) (ad : Nat → Nat) (A : Nat → Prop) (out : OUT) : Array Value → State → Outcome → State → Prop := fun _ st o t => (o = .returned out.1 ∧ va_P D vwCl (wls cA S N ad out.2.1 out.2.2) t.heap ∧ va_K D vwCl (tysOf cA) t) ∧ va_F A st t
def lq (ad : Nat → Nat) (L : List (Nat × Value)) : List (Nat × Value) := L.map (fun q => (q.1, cv ad q.2))
/-- from here, with these locals, this stack and these numbers, the method comes to its end with 'out' -/
def G (z : CTX) (pc : Nat) (L : List (Nat × Value)) (st : List Value) (I : IS) (J : JS) (out : OUT) : Prop := match z with
  | (p, l, e, R, s, m, args, below, meth, c, A, nL, D, cA, S, N, ad) => ∀ (H : Heap) (locs : List Loc) (ls : Array Slot), va_P D vwCl (wls cA S N ad I J) H → va_S A s.heap H locs → lv_has ls nL (lq ad L) →
    W p l e R s m args below meth c H locs 0 0 (MQ below (QC D cA S N ad A out) args s 0 0 A) (F0 m pc ls (st.map (cv ad)))
/-- what a walk may use: the code, the class, the tables, the shapes, the room -/
def OK (z : CTX) (cc : ByteArray) (own : String) (nL' : Nat) (S' : SF) (N' : Nat) (R' : Room) (ret : Option FieldType) : Prop := match z with
  | (p, l, e, R, s, m, args, below, meth, c, A, nL, D, cA, S, N, ad) => p.tables.exec = Jvm.exec ∧ c.code = cc ∧ s.vm.findClass own = some m.cls ∧ c.maxLocals = nL ∧ (∀ w ∈ gw_tbl, w.before args s = true) ∧ va_K D vwCl (tysOf cA) s ∧ (∀ i j, i < N → j < N → ad i = ad j → i = j) ∧ (∀ i, i < N → A (ad i)) ∧ (∀ q, s.heap.size ≤ q → A q) ∧ nL = nL' ∧ S = S' ∧ N = N' ∧ R = R' ∧ meth.sig.returnType = ret ∧ meth.locks = false
theorem dOf {A : Nat → Prop} {cA : Nat → ClassId} {S : SF} {N : Nat} {ad : Nat → Nat} {I : IS} {J : JS} (hi : ∀ i j, i < N → j < N → ad i = ad j → i = j) (hA : ∀ i, i < N → A (ad i)) : va_D A (wls cA S N ad I J) := by
  refine ⟨fun i j p q h1 h2 h => ?_, fun k q h => ?_⟩
  · obtain ⟨a1, rfl⟩ := wls_inv h1
    obtain ⟨a2, rfl⟩ := wls_inv h2
    exact hi i j a1 a2 h
  · obtain ⟨a1, rfl⟩ := wls_inv h
    exact hA k a1
theorem lq_get {ad : Nat → Nat} {L : List (Nat × Value)} {k i : Nat} {v : Value} (h : L[k]? = some (i, v)) : (lq ad L)[k]? = some (i, cv ad v) := by
  simp [lq, h]
theorem lq_cons (ad : Nat → Nat) (q : Nat × Value) (L : List (Nat × Value)) : lq ad (q :: L) = (q.1, cv ad q.2) :: lq ad L := rfl
theorem lq_f1 (ad : Nat → Nat) (i : Nat) (v : Value) (L : List (Nat × Value)) : (i, cv ad v) :: (lq ad L).filter (fun q => !(q.1 == i) && !(q.1 + 1 == i && q.2.category == 2)) = lq ad ((i, v) :: L.filter (fun q => !(q.1 == i) && !(q.1 + 1 == i && q.2.category == 2))) := by
  rw [lq_cons]
  congr 1
  unfold lq
  rw [List.filter_map]
  congr 1
  congr 1
  funext q
  simp [Function.comp, cv_cat]
theorem lq_f2 (ad : Nat → Nat) (i : Nat) (v : Value) (L : List (Nat × Value)) : (i, cv ad v) :: (lq ad L).filter (fun q => !(q.1 == i) && (!(q.1 == i + 1) && !(q.1 + 1 == i && q.2.category == 2))) = lq ad ((i, v) :: L.filter (fun q => !(q.1 == i) && (!(q.1 == i + 1) && !(q.1 + 1 == i && q.2.category == 2)))) := by
  rw [lq_cons]
  congr 1
  unfold lq
  rw [List.filter_map]
  congr 1
  congr 1
  funext q
  simp [Function.comp, cv_cat]
theorem lq_pick (ad : Nat → Nat) (L : List (Nat × Value)) (ks : List Nat) : lv_pick (lq ad L) ks = lq ad (lv_pick L ks) := by
  induction ks with
  | nil => rfl
  | cons k ks ih =>
    have e1 : lv_pick (lq ad L) (k :: ks) = ((lq ad L)[k]?).toList ++ lv_pick (lq ad L) ks := by
      unfold lv_pick
      rw [List.filterMap_cons]
      cases (lq ad L)[k]? <;> rfl
    have e2 : lv_pick L (k :: ks) = (L[k]?).toList ++ lv_pick L ks := by
      unfold lv_pick
      rw [List.filterMap_cons]
      cases L[k]? <;> rfl
    rw [e1, e2, ih]
    unfold lq
    rw [List.map_append, List.getElem?_map]
    cases L[k]? <;> rfl
theorem lq_args (ad : Nat → Nat) (av : List Value) : ∀ i : Nat, lv_args i (av.map (cv ad)) = lq ad (lv_args i av) := by
  induction av with
  | nil => intro i; rfl
  | cons v vs ih =>
    intro i
    show (i, cv ad v) :: lv_args (if (cv ad v).category = 2 then i + 2 else i + 1) (vs.map (cv ad)) = (i, cv ad v) :: lq ad (lv_args (if v.category = 2 then i + 2 else i + 1) vs)
    rw [cv_cat, ih]
section GR
variable {z : CTX} {cc : ByteArray} {own : String} {nL N : Nat} {S : SF} {R : Room} {ret : Option FieldType} {pc : Nat} {L : List (Nat × Value)} {st : List Value} {I : IS} {J : JS} {out : OUT}
theorem g_sub (ks : List Nat) {L' : List (Nat × Value)} (h : lv_pick L ks = L') (K : G z pc L' st I J out) : G z pc L st I J out := by
  obtain ⟨p, l, e, R, s, m, args, below, meth, c, A, nL, D, cA, S, N, ad⟩ := z
  intro H locs ls hP hS hl
  exact K H locs ls hP hS (lv_sub hl ks (by rw [lq_pick, h]))
theorem g_iconst (O : OK z cc own nL S N R ret) {n : Int} {v : Int32} (d : decode cc pc = .ok (.iconst n, 1)) (hv : Int32.ofInt n = v) (K : G z (pc + 1) L (.int v :: st) I J out) : G z pc L st I J out := by
  obtain ⟨p, l, e, R, s, m, args, below, meth, c, A, nL, D, cA, S, N, ad⟩ := z
  obtain ⟨hx, hb, -⟩ := O
  intro H locs ls hP hS hl
  exact lv_iconst hx hb d hv (K H locs ls hP hS hl)
theorem g_bipush (O : OK z cc own nL S N R ret) {n : Int} {v : Int32} (d : decode cc pc = .ok (.bipush n, 2)) (hv : (Int8.ofInt n).toInt32 = v) (K : G z (pc + 2) L (.int v :: st) I J out) : G z pc L st I J out := by
  obtain ⟨p, l, e, R, s, m, args, below, meth, c, A, nL, D, cA, S, N, ad⟩ := z
  obtain ⟨hx, hb, -⟩ := O
  intro H locs ls hP hS hl
  exact lv_bipush hx hb d hv (K H locs ls hP hS hl)
theorem g_sipush (O : OK z cc own nL S N R ret) {n : Int} {v : Int32} (d : decode cc pc = .ok (.sipush n, 3)) (hv : (Int16.ofInt n).toInt32 = v) (K : G z (pc + 3) L (.int v :: st) I J out) : G z pc L st I J out := by
  obtain ⟨p, l, e, R, s, m, args, below, meth, c, A, nL, D, cA, S, N, ad⟩ := z
  obtain ⟨hx, hb, -⟩ := O
  intro H locs ls hP hS hl
  exact lv_sipush hx hb d hv (K H locs ls hP hS hl)
theorem g_lconst (O : OK z cc own nL S N R ret) {n : Fin 2} {v : Int64} (d : decode cc pc = .ok (.lconst n, 1)) (hv : Int64.ofNat (n : Nat) = v) (K : G z (pc + 1) L (.long v :: st) I J out) : G z pc L st I J out := by
  obtain ⟨p, l, e, R, s, m, args, below, meth, c, A, nL, D, cA, S, N, ad⟩ := z
  obtain ⟨hx, hb, -⟩ := O
  intro H locs ls hP hS hl
  exact lv_lconst hx hb d hv (K H locs ls hP hS hl)
theorem g_ldc (O : OK z cc own nL S N R ret) {index : Nat} {v : Int32} (hw : Cond.constant own index v ∈ gw_tbl) (d : decode cc pc = .ok (.ldc index, 2)) (K : G z (pc + 2) L (.int v :: st) I J out) : G z pc L st I J out := by
  obtain ⟨p, l, e, R, s, m, args, below, meth, c, A, nL, D, cA, S, N, ad⟩ := z
  obtain ⟨hx, hb, hown, -, hts, -⟩ := O
  intro H locs ls hP hS hl
  exact lv_ldc hx hb hown (hts _ hw) d (K H locs ls hP hS hl)
theorem g_ldc2 (O : OK z cc own nL S N R ret) {index : Nat} {v : Int64} (hw : Cond.constantLong own index v ∈ gw_tbl) (d : decode cc pc = .ok (.ldc2_w index, 3)) (K : G z (pc + 3) L (.long v :: st) I J out) : G z pc L st I J out := by
  obtain ⟨p, l, e, R, s, m, args, below, meth, c, A, nL, D, cA, S, N, ad⟩ := z
  obtain ⟨hx, hb, hown, -, hts, -⟩ := O
  intro H locs ls hP hS hl
  exact lv_ldc2 hx hb hown (hts _ hw) d (K H locs ls hP hS hl)
theorem g_iload_n (O : OK z cc own nL S N R ret) {k : Fin 4} {x : Int32} (d : decode cc pc = .ok (.iload_n k, 1)) (q : Nat) (h : L[q]? = some ((k : Nat), .int x)) (K : G z (pc + 1) L (.int x :: st) I J out) : G z pc L st I J out := by
  obtain ⟨p, l, e, R, s, m, args, below, meth, c, A, nL, D, cA, S, N, ad⟩ := z
  obtain ⟨hx, hb, -⟩ := O
  intro H locs ls hP hS hl
  exact lv_iload_n hx hb d rfl (lv_at hl q (lq_get h)) (K H locs ls hP hS hl)
theorem g_iload (O : OK z cc own nL S N R ret) {i : Nat} {x : Int32} (d : decode cc pc = .ok (.iload i, 2)) (q : Nat) (h : L[q]? = some (i, .int x)) (K : G z (pc + 2) L (.int x :: st) I J out) : G z pc L st I J out := by
  obtain ⟨p, l, e, R, s, m, args, below, meth, c, A, nL, D, cA, S, N, ad⟩ := z
  obtain ⟨hx, hb, -⟩ := O
  intro H locs ls hP hS hl
  exact lv_iload hx hb d (lv_at hl q (lq_get h)) (K H locs ls hP hS hl)
theorem g_lload_n (O : OK z cc own nL S N R ret) {k : Fin 4} {x : Int64} (d : decode cc pc = .ok (.lload_n k, 1)) (q : Nat) (h : L[q]? = some ((k : Nat), .long x)) (K : G z (pc + 1) L (.long x :: st) I J out) : G z pc L st I J out := by
  obtain ⟨p, l, e, R, s, m, args, below, meth, c, A, nL, D, cA, S, N, ad⟩ := z
  obtain ⟨hx, hb, -⟩ := O
  intro H locs ls hP hS hl
  exact lv_lload_n hx hb d rfl (lv_at hl q (lq_get h)) (K H locs ls hP hS hl)
theorem g_lload (O : OK z cc own nL S N R ret) {i : Nat} {x : Int64} (d : decode cc pc = .ok (.lload i, 2)) (q : Nat) (h : L[q]? = some (i, .long x)) (K : G z (pc + 2) L (.long x :: st) I J out) : G z pc L st I J out := by
  obtain ⟨p, l, e, R, s, m, args, below, meth, c, A, nL, D, cA, S, N, ad⟩ := z
  obtain ⟨hx, hb, -⟩ := O
  intro H locs ls hP hS hl
  exact lv_lload hx hb d (lv_at hl q (lq_get h)) (K H locs ls hP hS hl)
theorem g_aload_n (O : OK z cc own nL S N R ret) {k : Fin 4} {x : Nat} (d : decode cc pc = .ok (.aload_n k, 1)) (q : Nat) (h : L[q]? = some ((k : Nat), .ref x)) (K : G z (pc + 1) L (.ref x :: st) I J out) : G z pc L st I J out := by
  obtain ⟨p, l, e, R, s, m, args, below, meth, c, A, nL, D, cA, S, N, ad⟩ := z
  obtain ⟨hx, hb, -⟩ := O
  intro H locs ls hP hS hl
  exact lv_aload_n hx hb d rfl (lv_at hl q (lq_get h)) (K H locs ls hP hS hl)
theorem g_aload (O : OK z cc own nL S N R ret) {i : Nat} {x : Nat} (d : decode cc pc = .ok (.aload i, 2)) (q : Nat) (h : L[q]? = some (i, .ref x)) (K : G z (pc + 2) L (.ref x :: st) I J out) : G z pc L st I J out := by
  obtain ⟨p, l, e, R, s, m, args, below, meth, c, A, nL, D, cA, S, N, ad⟩ := z
  obtain ⟨hx, hb, -⟩ := O
  intro H locs ls hP hS hl
  exact lv_aload hx hb d (lv_at hl q (lq_get h)) (K H locs ls hP hS hl)
theorem g_istore_n (O : OK z cc own nL S N R ret) {k : Fin 4} {x : Int32} {L' : List (Nat × Value)} (d : decode cc pc = .ok (.istore_n k, 1)) (hn : (k : Nat) < nL) (h : ((k : Nat), Value.int x) :: L.filter (fun q => !(q.1 == (k : Nat)) && !(q.1 + 1 == (k : Nat) && q.2.category == 2)) = L') (K : G z (pc + 1) L' st I J out) : G z pc L (.int x :: st) I J out := by
  obtain ⟨p, l, e, R, s, m, args, below, meth, c, A, nL, D, cA, S, N, ad⟩ := z
  obtain ⟨hx, hb, -, -, -, -, -, -, -, rfl, -⟩ := O
  intro H locs ls hP hS hl
  exact lv_istore_n hx hb d rfl hl hn (by rw [← h]; exact lq_f1 ad _ (.int x) L) (fun ls' hl' => K H locs ls' hP hS hl')
theorem g_istore (O : OK z cc own nL S N R ret) {i : Nat} {x : Int32} {L' : List (Nat × Value)} (d : decode cc pc = .ok (.istore i, 2)) (hn : i < nL) (h : (i, Value.int x) :: L.filter (fun q => !(q.1 == i) && !(q.1 + 1 == i && q.2.category == 2)) = L') (K : G z (pc + 2) L' st I J out) : G z pc L (.int x :: st) I J out := by
  obtain ⟨p, l, e, R, s, m, args, below, meth, c, A, nL, D, cA, S, N, ad⟩ := z
  obtain ⟨hx, hb, -, -, -, -, -, -, -, rfl, -⟩ := O
  intro H locs ls hP hS hl
  exact lv_istore hx hb d hl hn (by rw [← h]; exact lq_f1 ad _ (.int x) L) (fun ls' hl' => K H locs ls' hP hS hl')
theorem g_astore_n (O : OK z cc own nL S N R ret) {k : Fin 4} {x : Nat} {L' : List (Nat × Value)} (d : decode cc pc = .ok (.astore_n k, 1)) (hn : (k : Nat) < nL) (h : ((k : Nat), Value.ref x) :: L.filter (fun q => !(q.1 == (k : Nat)) && !(q.1 + 1 == (k : Nat) && q.2.category == 2)) = L') (K : G z (pc + 1) L' st I J out) : G z pc L (.ref x :: st) I J out := by
  obtain ⟨p, l, e, R, s, m, args, below, meth, c, A, nL, D, cA, S, N, ad⟩ := z
  obtain ⟨hx, hb, -, -, -, -, -, -, -, rfl, -⟩ := O
  intro H locs ls hP hS hl
  exact lv_astore_n hx hb d rfl hl hn (by rw [← h]; exact lq_f1 ad _ (.ref x) L) (fun ls' hl' => K H locs ls' hP hS hl')
theorem g_astore (O : OK z cc own nL S N R ret) {i : Nat} {x : Nat} {L' : List (Nat × Value)} (d : decode cc pc = .ok (.astore i, 2)) (hn : i < nL) (h : (i, Value.ref x) :: L.filter (fun q => !(q.1 == i) && !(q.1 + 1 == i && q.2.category == 2)) = L') (K : G z (pc + 2) L' st I J out) : G z pc L (.ref x :: st) I J out := by
  obtain ⟨p, l, e, R, s, m, args, below, meth, c, A, nL, D, cA, S, N, ad⟩ := z
  obtain ⟨hx, hb, -, -, -, -, -, -, -, rfl, -⟩ := O
  intro H locs ls hP hS hl
  exact lv_astore hx hb d hl hn (by rw [← h]; exact lq_f1 ad _ (.ref x) L) (fun ls' hl' => K H locs ls' hP hS hl')
theorem g_lstore_n (O : OK z cc own nL S N R ret) {k : Fin 4} {x : Int64} {L' : List (Nat × Value)} (d : decode cc pc = .ok (.lstore_n k, 1)) (hn : (k : Nat) + 1 < nL) (h : ((k : Nat), Value.long x) :: L.filter (fun q => !(q.1 == (k : Nat)) && (!(q.1 == (k : Nat) + 1) && !(q.1 + 1 == (k : Nat) && q.2.category == 2))) = L') (K : G z (pc + 1) L' st I J out) : G z pc L (.long x :: st) I J out := by
  obtain ⟨p, l, e, R, s, m, args, below, meth, c, A, nL, D, cA, S, N, ad⟩ := z
  obtain ⟨hx, hb, -, -, -, -, -, -, -, rfl, -⟩ := O
  intro H locs ls hP hS hl
  exact lv_lstore_n hx hb d rfl hl hn (by rw [← h]; exact lq_f2 ad _ (.long x) L) (fun ls' hl' => K H locs ls' hP hS hl')
theorem g_lstore (O : OK z cc own nL S N R ret) {i : Nat} {x : Int64} {L' : List (Nat × Value)} (d : decode cc pc = .ok (.lstore i, 2)) (hn : i + 1 < nL) (h : (i, Value.long x) :: L.filter (fun q => !(q.1 == i) && (!(q.1 == i + 1) && !(q.1 + 1 == i && q.2.category == 2))) = L') (K : G z (pc + 2) L' st I J out) : G z pc L (.long x :: st) I J out := by
  obtain ⟨p, l, e, R, s, m, args, below, meth, c, A, nL, D, cA, S, N, ad⟩ := z
  obtain ⟨hx, hb, -, -, -, -, -, -, -, rfl, -⟩ := O
  intro H locs ls hP hS hl
  exact lv_lstore hx hb d hl hn (by rw [← h]; exact lq_f2 ad _ (.long x) L) (fun ls' hl' => K H locs ls' hP hS hl')
theorem g_iinc (O : OK z cc own nL S N R ret) {i : Nat} {n : Int} {x v : Int32} {L' : List (Nat × Value)} (d : decode cc pc = .ok (.iinc i n, 3)) (q : Nat) (hq : L[q]? = some (i, .int x)) (hv : x + Int32.ofInt n = v) (hn : i < nL) (h : (i, Value.int v) :: L.filter (fun q => !(q.1 == i) && !(q.1 + 1 == i && q.2.category == 2)) = L') (K : G z (pc + 3) L' st I J out) : G z pc L st I J out := by
  obtain ⟨p, l, e, R, s, m, args, below, meth, c, A, nL, D, cA, S, N, ad⟩ := z
  obtain ⟨hx, hb, -, -, -, -, -, -, -, rfl, -⟩ := O
  intro H locs ls hP hS hl
  exact lv_iinc hx hb d hl (lq_get hq) hv hn (by rw [← h]; exact lq_f1 ad _ (.int v) L) (fun ls' hl' => K H locs ls' hP hS hl')
end GR
