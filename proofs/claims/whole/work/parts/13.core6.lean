/-! ===== what a generated walk uses ===== -/
def LF : Nat := 700
def rm_ (f l : Nat) : Room := { frames := f, cells := 0, slots := 0, locals := l }
theorem rmok {f l maxL' : Nat} {R : Room} (h1 : f + 1 ≤ R.frames) (h2 : 8 + (maxL' + 11) + l ≤ R.locals) : (rm_ f l).cells = 0 ∧ (rm_ f l).slots = 0 ∧ (rm_ f l).frames + 1 ≤ R.frames ∧ 8 + (maxL' + 11) + (rm_ f l).locals ≤ R.locals := ⟨rfl, rfl, h1, h2⟩
theorem gd {c : Bool} {α : Type} {a : Option α} {o : α} (h : (if c = true then a else none) = some o) : c = true ∧ a = some o := by
  by_cases hc : c = true
  · rw [if_pos hc] at h
    exact ⟨hc, h⟩
  · rw [if_neg hc] at h
    cases h
theorem bnd {α β : Type} {a : Option α} {f : α → Option β} {o : β} (h : a.bind f = some o) : ∃ q, a = some q ∧ f q = some o := by
  cases a with
  | none => cases h
  | some q => exact ⟨q, rfl, h⟩
def okD (y : Int32) : Bool := decide (¬ y = 0)
theorem okD_n {y : Int32} (h : okD y = true) : ¬ y = 0 := of_decide_eq_true h
def okDL (y : Int64) : Bool := decide (¬ y = 0)
theorem okDL_n {y : Int64} (h : okDL y = true) : ¬ y = 0 := of_decide_eq_true h
/-- a copy within both rows -/
def okC (sp dp n : Int32) (n0 n1 : Nat) : Bool := decide (¬ sp < 0 ∧ ¬ dp < 0 ∧ ¬ n < 0 ∧ sp.toNatClampNeg + n.toNatClampNeg ≤ n0 ∧ dp.toNatClampNeg + n.toNatClampNeg ≤ n1)
theorem okC_n {sp dp n : Int32} {n0 n1 : Nat} (h : okC sp dp n n0 n1 = true) : ¬ sp < 0 ∧ ¬ dp < 0 ∧ ¬ n < 0 ∧ sp.toNatClampNeg + n.toNatClampNeg ≤ n0 ∧ dp.toNatClampNeg + n.toNatClampNeg ≤ n1 := of_decide_eq_true h
/-- one row changes -/
def u1 {α : Type} (I : Nat → α) (i : Nat) (f : α) : Nat → α := fun j => if j = i then f else I j
theorem u1_s {α : Type} (I : Nat → α) (i : Nat) (f : α) : u1 I i f i = f := by simp [u1]
theorem u1_o {α : Type} (I : Nat → α) {i j : Nat} (f : α) (h : j ≠ i) : u1 I i f j = I j := by simp [u1, h]
def FLD (S : SF) (N i ci k : Nat) (fk : FK) : Prop := i < N ∧ ∃ fks, S i = .inl (ci, fks) ∧ fks[k]? = some fk
def ARR (S : SF) (N i t n : Nat) : Prop := i < N ∧ S i = .inr (t, n, none)
def RAR (S : SF) (N i t n : Nat) (g : Nat → Nat) : Prop := i < N ∧ S i = .inr (t, n, some g)
def OBJ (S : SF) (N i ci : Nat) : Prop := i < N ∧ ∃ fks, S i = .inl (ci, fks)
theorem fld_sub {S S' : SF} {N N' e i ci k : Nat} {fk : FK} (h : SUB S N S' N' (fun i => e + i)) (hF : FLD S' N' i ci k fk) : FLD S N (e + i) ci k (fkM (fun i => e + i) fk) := by
  obtain ⟨hi, fks, h1, h2⟩ := hF
  refine ⟨h.1 i hi, fks.map (fkM (fun i => e + i)), ?_, by rw [List.getElem?_map, h2]; rfl⟩
  rw [h.2.2 i hi, h1]
  rfl
theorem arr_sub {S S' : SF} {N N' e i t n : Nat} (h : SUB S N S' N' (fun i => e + i)) (hF : ARR S' N' i t n) : ARR S N (e + i) t n := by
  refine ⟨h.1 i hF.1, ?_⟩
  rw [h.2.2 i hF.1, hF.2]
  rfl
theorem rar_sub {S S' : SF} {N N' e i t n : Nat} {g : Nat → Nat} (h : SUB S N S' N' (fun i => e + i)) (hF : RAR S' N' i t n g) : RAR S N (e + i) t n (fun j => e + g j) := by
  refine ⟨h.1 i hF.1, ?_⟩
  rw [h.2.2 i hF.1, hF.2]
  rfl
section GX
variable {z : CTX} {cc : ByteArray} {own : String} {nL N : Nat} {S : SF} {R : Room} {ret : Option FieldType} {pc : Nat} {L : List (Nat × Value)} {st : List Value} {I : IS} {J : JS} {out : OUT} {ci n index k i : Nat} {C : String} {T : u_T} {tys : Nat → FieldType}
theorem g_getI (O : OK z cc own nL S N R ret) (hC : isC ci C T n) (d : decode cc pc = .ok (.getfield index, 3)) (hw : Cond.fieldLink own index (T k).1 (T k).2.1 (T k).2.2.1 ∈ gw_tbl) (hk : k < n) (hF : FLD S N i ci k none) (K : G z (pc + 3) L (.int (I i k) :: st) I J out) : G z pc L (.ref i :: st) I J out := by
  obtain ⟨hi, fks, h1, h2⟩ := hF
  exact g_get O hC k d hw rfl hk hi h1 h2 (fun _ => rfl) K
theorem g_getR (O : OK z cc own nL S N R ret) (hC : isC ci C T n) (d : decode cc pc = .ok (.getfield index, 3)) (hw : Cond.fieldLink own index (T k).1 (T k).2.1 (T k).2.2.1 ∈ gw_tbl) (hk : k < n) {j : Nat} (hF : FLD S N i ci k (some (.inl j))) (K : G z (pc + 3) L (.ref j :: st) I J out) : G z pc L (.ref i :: st) I J out := by
  obtain ⟨hi, fks, h1, h2⟩ := hF
  exact g_get O hC k d hw rfl hk hi h1 h2 (fun _ => rfl) K
theorem g_getC1 (O : OK z cc own nL S N R ret) (hC : isC ci C T n) (d : decode cc pc = .ok (.getfield index, 3)) (hw : Cond.fieldLink own index (T k).1 (T k).2.1 (T k).2.2.1 ∈ gw_tbl) (hk : k < n) {j1 j2 : Nat} (hF : FLD S N i ci k (some (.inr (j1, j2)))) (h : I i k = 1) (K : G z (pc + 3) L (.ref j1 :: st) I J out) : G z pc L (.ref i :: st) I J out := by
  obtain ⟨hi, fks, h1, h2⟩ := hF
  exact g_get O hC k d hw rfl hk hi h1 h2 (fun ad => by simp [fv, h, cv]) K
theorem g_getC2 (O : OK z cc own nL S N R ret) (hC : isC ci C T n) (d : decode cc pc = .ok (.getfield index, 3)) (hw : Cond.fieldLink own index (T k).1 (T k).2.1 (T k).2.2.1 ∈ gw_tbl) (hk : k < n) {j1 j2 : Nat} (hF : FLD S N i ci k (some (.inr (j1, j2)))) (h : I i k = 2) (K : G z (pc + 3) L (.ref j2 :: st) I J out) : G z pc L (.ref i :: st) I J out := by
  obtain ⟨hi, fks, h1, h2⟩ := hF
  have h12 : ¬ (2 : Int32) = 1 := by decide
  exact g_get O hC k d hw rfl hk hi h1 h2 (fun ad => by simp [fv, h, cv, h12]) K
theorem g_putI (O : OK z cc own nL S N R ret) (hC : isC ci C T n) (hT : isT T tys n) (d : decode cc pc = .ok (.putfield index, 3)) (hw : Cond.fieldLink own index (T k).1 (T k).2.1 (T k).2.2.1 ∈ gw_tbl) (hk : k < n) (hfin : (T k).2.2.2 = false) (hty : tys k = .int) {x : Int32} (hF : FLD S N i ci k none) (K : G z (pc + 3) L st (u2 I i k x) J out) : G z pc L (.int x :: .ref i :: st) I J out := by
  obtain ⟨hi, fks, h1, h2⟩ := hF
  exact g_put O hC hT k d hw rfl hk hfin hty rfl rfl hi h1 h2 K
theorem g_putZ (O : OK z cc own nL S N R ret) (hC : isC ci C T n) (hT : isT T tys n) (d : decode cc pc = .ok (.putfield index, 3)) (hw : Cond.fieldLink own index (T k).1 (T k).2.1 (T k).2.2.1 ∈ gw_tbl) (hk : k < n) (hfin : (T k).2.2.2 = false) (hty : tys k = .boolean) {x : Int32} (hz : okZ x = true) (hF : FLD S N i ci k none) (K : G z (pc + 3) L st (u2 I i k x) J out) : G z pc L (.int x :: .ref i :: st) I J out := by
  obtain ⟨hi, fks, h1, h2⟩ := hF
  exact g_put O hC hT k d hw rfl hk hfin hty (okZ_n hz) (okZ_f hz) hi h1 h2 K
/-- the code of one of two cells -/
def cdR (r j1 j2 : Nat) : Option Int32 := if r = j1 then some 1 else if r = j2 then some 2 else none
theorem cdR_n {r j1 j2 : Nat} {x : Int32} (h : cdR r j1 j2 = some x) : (x = 1 ∧ r = j1) ∨ (x = 2 ∧ r = j2) := by
  unfold cdR at h
  split at h
  · cases h
    exact Or.inl ⟨rfl, by assumption⟩
  · split at h
    · cases h
      exact Or.inr ⟨rfl, by assumption⟩
    · cases h
theorem g_putC (O : OK z cc own nL S N R ret) (hC : isC ci C T n) (hT : isT T tys n) (d : decode cc pc = .ok (.putfield index, 3)) (hw : Cond.fieldLink own index (T k).1 (T k).2.1 (T k).2.2.1 ∈ gw_tbl) (hk : k < n) (hfin : (T k).2.2.2 = false) {ty : FieldType} (hty : tys k = .array ty) {r j1 j2 : Nat} {x : Int32} (hF : FLD S N i ci k (some (.inr (j1, j2)))) (hx : cdR r j1 j2 = some x) (K : G z (pc + 3) L st (u2 I i k x) J out) : G z pc L (.ref r :: .ref i :: st) I J out := by
  obtain ⟨hi, fks, h1, h2⟩ := hF
  exact g_putR O hC hT k d hw rfl hk hfin (fun a => by rw [hty]; rfl) (fun a => by rw [hty]; rfl) hi h1 h2 (cdR_n hx) K
theorem g_il (O : OK z cc own nL S N R ret) (d : decode cc pc = .ok (.iaload, 1)) (hA : ARR S N i 0 n) {x : Int32} (hin : okI x n = true) (K : G z (pc + 1) L (.int (I i x.toNatClampNeg) :: st) I J out) : G z pc L (.int x :: .ref i :: st) I J out := g_iald O d hA.1 hA.2 hin K
theorem g_zl (O : OK z cc own nL S N R ret) (d : decode cc pc = .ok (.baload, 1)) (hA : ARR S N i 2 n) {x : Int32} (hin : okI x n = true) (K : G z (pc + 1) L (.int (I i x.toNatClampNeg) :: st) I J out) : G z pc L (.int x :: .ref i :: st) I J out := g_zald O d hA.1 hA.2 hin K
theorem g_ll (O : OK z cc own nL S N R ret) (d : decode cc pc = .ok (.laload, 1)) (hA : ARR S N i 1 n) {x : Int32} (hin : okI x n = true) (K : G z (pc + 1) L (.long (J i x.toNatClampNeg) :: st) I J out) : G z pc L (.int x :: .ref i :: st) I J out := g_lald O d hA.1 hA.2 hin K
theorem g_al (O : OK z cc own nL S N R ret) (d : decode cc pc = .ok (.aaload, 1)) {t : Nat} {g : Nat → Nat} (hA : RAR S N i t n g) (ht : t = 3 ∨ t = 4) {x : Int32} (hin : okI x n = true) (K : G z (pc + 1) L (.ref (g x.toNatClampNeg) :: st) I J out) : G z pc L (.int x :: .ref i :: st) I J out := g_aald O d hA.1 hA.2 ht hin K
theorem g_is (O : OK z cc own nL S N R ret) (d : decode cc pc = .ok (.iastore, 1)) (hA : ARR S N i 0 n) {x y : Int32} (hin : okI x n = true) (K : G z (pc + 1) L st (u2 I i x.toNatClampNeg y) J out) : G z pc L (.int y :: .int x :: .ref i :: st) I J out := g_iast O d hA.1 hA.2 hin K
theorem g_zs (O : OK z cc own nL S N R ret) (d : decode cc pc = .ok (.bastore, 1)) (hA : ARR S N i 2 n) {x y : Int32} (hin : okI x n = true) (hz : okZ y = true) (K : G z (pc + 1) L st (u2 I i x.toNatClampNeg y) J out) : G z pc L (.int y :: .int x :: .ref i :: st) I J out := g_zast O d hA.1 hA.2 hin hz K
theorem g_ls (O : OK z cc own nL S N R ret) (d : decode cc pc = .ok (.lastore, 1)) (hA : ARR S N i 1 n) {x : Int32} {y : Int64} (hin : okI x n = true) (K : G z (pc + 1) L st I (u2 J i x.toNatClampNeg y) out) : G z pc L (.long y :: .int x :: .ref i :: st) I J out := g_last O d hA.1 hA.2 hin K
theorem g_len (O : OK z cc own nL S N R ret) (d : decode cc pc = .ok (.arraylength, 1)) {t : Nat} (ht : t < 5) (hA : ARR S N i t n) {v : Int32} (hv : Int32.ofNat n = v) (K : G z (pc + 1) L (.int v :: st) I J out) : G z pc L (.ref i :: st) I J out := g_alen O d hA.1 hA.2 ht hv K
theorem g_lenR (O : OK z cc own nL S N R ret) (d : decode cc pc = .ok (.arraylength, 1)) {t : Nat} (ht : t < 5) {g : Nat → Nat} (hA : RAR S N i t n g) {v : Int32} (hv : Int32.ofNat n = v) (K : G z (pc + 1) L (.int v :: st) I J out) : G z pc L (.ref i :: st) I J out := g_alen O d hA.1 hA.2 ht hv K
section CALL
variable {y : MethodName} {cc' : ByteArray} {maxL' : Nat} {ret' : Option FieldType} {rm' : Room} {S' : SF} {N' : Nat} {av' : List Value} {I' : IS} {J' : JS} {I'' : IS} {J'' : JS} {I2 : IS} {J2 : JS} {st0 : List Value} {n' : Nat} {φ : Nat → Nat}
theorem g_Vi (O : OK z cc own nL S N R ret) (d : decode cc pc = .ok (.invokevirtual index, 3)) {x : Int32} (hM : MC y cc' maxL' ret' rm' S' N' (.ref 0 :: av') I' J' (some (.int x), I'', J'')) (hcb : CB y cc' maxL' ret' av'.length) (hlk : Cond.methodLink own index y ∈ gw_tbl) (hC : isC ci y.cls T n') (hO : OBJ S' N' 0 ci) (hZ : ZM S N S' N' φ I J I' J' (some (.int x), I'', J'') I2 J2) (hrm : rm'.cells = 0 ∧ rm'.slots = 0 ∧ rm'.frames + 1 ≤ R.frames ∧ 8 + (maxL' + 11) + rm'.locals ≤ R.locals) (hsm : (st.map fun v => v.category).sum ≤ 8) (hst : st0 = (av'.map (cv φ)).reverse ++ .ref (φ 0) :: st) (K : G z (pc + 3) L (.int x :: st) I2 J2 out) : G z pc L st0 I J out := by
  obtain ⟨h0, fks, h1⟩ := hO
  exact g_callV O d hM hcb hlk hC h1 h0 φ hZ hrm hsm (fun _ => rfl) hst K
theorem g_Vl (O : OK z cc own nL S N R ret) (d : decode cc pc = .ok (.invokevirtual index, 3)) {x : Int64} (hM : MC y cc' maxL' ret' rm' S' N' (.ref 0 :: av') I' J' (some (.long x), I'', J'')) (hcb : CB y cc' maxL' ret' av'.length) (hlk : Cond.methodLink own index y ∈ gw_tbl) (hC : isC ci y.cls T n') (hO : OBJ S' N' 0 ci) (hZ : ZM S N S' N' φ I J I' J' (some (.long x), I'', J'') I2 J2) (hrm : rm'.cells = 0 ∧ rm'.slots = 0 ∧ rm'.frames + 1 ≤ R.frames ∧ 8 + (maxL' + 11) + rm'.locals ≤ R.locals) (hsm : (st.map fun v => v.category).sum ≤ 8) (hst : st0 = (av'.map (cv φ)).reverse ++ .ref (φ 0) :: st) (K : G z (pc + 3) L (.long x :: st) I2 J2 out) : G z pc L st0 I J out := by
  obtain ⟨h0, fks, h1⟩ := hO
  exact g_callV O d hM hcb hlk hC h1 h0 φ hZ hrm hsm (fun _ => rfl) hst K
theorem g_Vv (O : OK z cc own nL S N R ret) (d : decode cc pc = .ok (.invokevirtual index, 3)) (hM : MC y cc' maxL' ret' rm' S' N' (.ref 0 :: av') I' J' (none, I'', J'')) (hcb : CB y cc' maxL' ret' av'.length) (hlk : Cond.methodLink own index y ∈ gw_tbl) (hC : isC ci y.cls T n') (hO : OBJ S' N' 0 ci) (hZ : ZM S N S' N' φ I J I' J' (none, I'', J'') I2 J2) (hrm : rm'.cells = 0 ∧ rm'.slots = 0 ∧ rm'.frames + 1 ≤ R.frames ∧ 8 + (maxL' + 11) + rm'.locals ≤ R.locals) (hsm : (st.map fun v => v.category).sum ≤ 8) (hst : st0 = (av'.map (cv φ)).reverse ++ .ref (φ 0) :: st) (K : G z (pc + 3) L st I2 J2 out) : G z pc L st0 I J out := by
  obtain ⟨h0, fks, h1⟩ := hO
  exact g_callV O d hM hcb hlk hC h1 h0 φ hZ hrm hsm (fun _ => rfl) hst K
theorem g_Si (O : OK z cc own nL S N R ret) (d : decode cc pc = .ok (.invokestatic index, 3)) {x : Int32} (hM : MC y cc' maxL' ret' rm' S' 0 av' I J (some (.int x), I, J)) (hcb : CS y cc' maxL' ret' av'.length) (hlk : Cond.methodLink own index y ∈ gw_tbl) (hyo : y.cls = own) (hrm : rm'.cells = 0 ∧ rm'.slots = 0 ∧ rm'.frames + 1 ≤ R.frames ∧ 8 + (maxL' + 11) + rm'.locals ≤ R.locals) (hsm : (st.map fun v => v.category).sum ≤ 8) (hav : ∀ ad, av'.map (cv ad) = av') (hst : st0 = av'.reverse ++ st) (K : G z (pc + 3) L (.int x :: st) I J out) : G z pc L st0 I J out :=
  g_callS O d hM hcb hlk hyo hrm hsm (fun _ => rfl) hav hst K
theorem g_Sl (O : OK z cc own nL S N R ret) (d : decode cc pc = .ok (.invokestatic index, 3)) {x : Int64} (hM : MC y cc' maxL' ret' rm' S' 0 av' I J (some (.long x), I, J)) (hcb : CS y cc' maxL' ret' av'.length) (hlk : Cond.methodLink own index y ∈ gw_tbl) (hyo : y.cls = own) (hrm : rm'.cells = 0 ∧ rm'.slots = 0 ∧ rm'.frames + 1 ≤ R.frames ∧ 8 + (maxL' + 11) + rm'.locals ≤ R.locals) (hsm : (st.map fun v => v.category).sum ≤ 8) (hav : ∀ ad, av'.map (cv ad) = av') (hst : st0 = av'.reverse ++ st) (K : G z (pc + 3) L (.long x :: st) I J out) : G z pc L st0 I J out :=
  g_callS O d hM hcb hlk hyo hrm hsm (fun _ => rfl) hav hst K
end CALL
theorem cats (ad : Nat → Nat) (st : List Value) : ((st.map (cv ad)).map fun v => v.category) = st.map fun v => v.category := by
  rw [List.map_map]
  congr 1
  funext v
  exact cv_cat ad v
theorem g_max (O : OK z cc own nL S N R ret) (d : decode cc pc = .ok (.invokestatic index, 3)) (h1 : Cond.methodLink own index Lib.Math.max.name ∈ gw_tbl) (h2 : Cond.static Lib.Math.max.name ∈ gw_tbl) (h3 : Cond.initialized "java/lang/Math" ∈ gw_tbl) (h4 : Cond.code Lib.Math.max.name Lib.Math.max.code 2 (some .int) ∈ gw_tbl) (hR : 1 ≤ R.frames) (hR2 : (st.map fun v => v.category).sum + 13 ≤ R.locals) {x y : Int32} (K : G z (pc + 3) L (.int (if x < y then y else x) :: st) I J out) : G z pc L (.int y :: .int x :: st) I J out := by
  obtain ⟨p, l, e, R, s, m, args, below, meth, c, A, nL, D, cA, S, N, ad⟩ := z
  obtain ⟨hx, hb, hown, hml, hts, -, -, -, -, -, -, -, rfl, -⟩ := O
  intro H locs ls hP hS hl
  exact va_mmax hx hb (hml.trans hl.1.symm) hown (hts _ h1) (hts _ h2) (hts _ h3) (hts _ h4) hR (by rw [cats]; exact hR2) (Nat.zero_le _) (Nat.zero_le _) d (K H locs ls hP hS hl)
theorem g_min (O : OK z cc own nL S N R ret) (d : decode cc pc = .ok (.invokestatic index, 3)) (h1 : Cond.methodLink own index Lib.Math.min.name ∈ gw_tbl) (h2 : Cond.static Lib.Math.min.name ∈ gw_tbl) (h3 : Cond.initialized "java/lang/Math" ∈ gw_tbl) (h4 : Cond.code Lib.Math.min.name Lib.Math.min.code 2 (some .int) ∈ gw_tbl) (hR : 1 ≤ R.frames) (hR2 : (st.map fun v => v.category).sum + 13 ≤ R.locals) {x y : Int32} (K : G z (pc + 3) L (.int (if y < x then y else x) :: st) I J out) : G z pc L (.int y :: .int x :: st) I J out := by
  obtain ⟨p, l, e, R, s, m, args, below, meth, c, A, nL, D, cA, S, N, ad⟩ := z
  obtain ⟨hx, hb, hown, hml, hts, -, -, -, -, -, -, -, rfl, -⟩ := O
  intro H locs ls hP hS hl
  exact va_mmin hx hb (hml.trans hl.1.symm) hown (hts _ h1) (hts _ h2) (hts _ h3) (hts _ h4) hR (by rw [cats]; exact hR2) (Nat.zero_le _) (Nat.zero_le _) d (K H locs ls hP hS hl)
theorem g_copyI (O : OK z cc own nL S N R ret) (d : decode cc pc = .ok (.invokestatic index, 3)) (h1 : Cond.methodLink own index arraycopyName ∈ gw_tbl) (h2 : Cond.native arraycopyName ∈ gw_tbl) (h3 : Cond.static arraycopyName ∈ gw_tbl) (h4 : Cond.initialized "java/lang/System" ∈ gw_tbl) {i0 i1 n0 n1 : Nat} (hA0 : ARR S N i0 0 n0) (hA1 : ARR S N i1 0 n1) {sp dp q : Int32} (hq : okC sp dp q n0 n1 = true) (hR : 1 ≤ R.frames) (hR2 : (st.map fun v => v.category).sum + 18 ≤ R.locals) (K : G z (pc + 3) L st (u1 I i1 (va_cpy (I i0) (I i1) sp.toNatClampNeg dp.toNatClampNeg q.toNatClampNeg)) J out) : G z pc L (.int q :: .int dp :: .ref i1 :: .int sp :: .ref i0 :: st) I J out := by
  obtain ⟨p, l, e, R, s, m, args, below, meth, c, A, nL, D, cA, S, N, ad⟩ := z
  obtain ⟨hx, hb, hown, hml, hts, hK, hij, hA, -, -, rfl, rfl, rfl, -⟩ := O
  intro H locs ls hP hS hl
  obtain ⟨q1, q2, q3, q4, q5⟩ := okC_n hq
  refine va_copyi (q0 := i0) (q1 := i1) (t0 := 0) (t1 := 0) (c0 := cA 0) (c1 := cA 0) (n0 := n0) (n1 := n1) (f := I i0) (g := I i1) (ty := .int) hx hb (hml.trans hl.1.symm) hown (hts _ h1) (hts _ h2) (hts _ h3) (hts _ h4) hK hP (dOf hij hA) hS (by rw [wls_get hA0.1]; simp only [cel, hA0.2]; rfl) (by rw [wls_get hA1.1]; simp only [cel, hA1.2]; rfl) rfl rfl rfl q1 q2 q3 q4 q5 (fun _ _ => rfl) hR (by rw [cats]; exact hR2) d (fun H1 locs1 hP1 _ hS1 => ?_)
  rw [wls_set (I' := u1 I i1 (va_cpy (I i0) (I i1) sp.toNatClampNeg dp.toNatClampNeg q.toNatClampNeg)) (J' := J) hA1.1 (by simp only [cel, hA1.2, u1_s]; rfl) (fun j _ hj => cel_I (u1_o I _ hj) rfl)] at hP1
  exact K H1 locs1 ls hP1 hS1 hl
theorem g_copyJ (O : OK z cc own nL S N R ret) (d : decode cc pc = .ok (.invokestatic index, 3)) (h1 : Cond.methodLink own index arraycopyName ∈ gw_tbl) (h2 : Cond.native arraycopyName ∈ gw_tbl) (h3 : Cond.static arraycopyName ∈ gw_tbl) (h4 : Cond.initialized "java/lang/System" ∈ gw_tbl) {i0 i1 n0 n1 : Nat} (hA0 : ARR S N i0 1 n0) (hA1 : ARR S N i1 1 n1) {sp dp q : Int32} (hq : okC sp dp q n0 n1 = true) (hR : 1 ≤ R.frames) (hR2 : (st.map fun v => v.category).sum + 18 ≤ R.locals) (K : G z (pc + 3) L st I (u1 J i1 (va_cpy (J i0) (J i1) sp.toNatClampNeg dp.toNatClampNeg q.toNatClampNeg)) out) : G z pc L (.int q :: .int dp :: .ref i1 :: .int sp :: .ref i0 :: st) I J out := by
  obtain ⟨p, l, e, R, s, m, args, below, meth, c, A, nL, D, cA, S, N, ad⟩ := z
  obtain ⟨hx, hb, hown, hml, hts, hK, hij, hA, -, -, rfl, rfl, rfl, -⟩ := O
  intro H locs ls hP hS hl
  obtain ⟨q1, q2, q3, q4, q5⟩ := okC_n hq
  refine va_copyl (q0 := i0) (q1 := i1) (t0 := 1) (t1 := 1) (c0 := cA 1) (c1 := cA 1) (n0 := n0) (n1 := n1) (f := J i0) (g := J i1) (ty := .long) hx hb (hml.trans hl.1.symm) hown (hts _ h1) (hts _ h2) (hts _ h3) (hts _ h4) hK hP (dOf hij hA) hS (by rw [wls_get hA0.1]; simp only [cel, hA0.2]; rfl) (by rw [wls_get hA1.1]; simp only [cel, hA1.2]; rfl) rfl rfl rfl q1 q2 q3 q4 q5 (fun _ _ => rfl) hR (by rw [cats]; exact hR2) d (fun H1 locs1 hP1 _ hS1 => ?_)
  rw [wls_set (I' := I) (J' := u1 J i1 (va_cpy (J i0) (J i1) sp.toNatClampNeg dp.toNatClampNeg q.toNatClampNeg)) hA1.1 (by simp only [cel, hA1.2, u1_s]; rfl) (fun j _ hj => cel_I rfl (u1_o J _ hj))] at hP1
  exact K H1 locs1 ls hP1 hS1 hl
end GX
theorem g_nmI {z : CTX} {pc : Nat} {L : List (Nat × Value)} {st : List Value} {e I2 : IS} {J : JS} {out : OUT} (h : e = I2) (K : G z pc L st I2 J out) : G z pc L st e J out := by
  rw [h]
  exact K
theorem g_nmJ {z : CTX} {pc : Nat} {L : List (Nat × Value)} {st : List Value} {I : IS} {e J2 : JS} {out : OUT} (h : e = J2) (K : G z pc L st I J2 out) : G z pc L st I e out := by
  rw [h]
  exact K
