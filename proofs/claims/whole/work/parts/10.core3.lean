theorem u2_row {α : Type} (I : Nat → Nat → α) (i k : Nat) (v : α) : u2 I i k v i = fun b => if b = k then v else I i b := by
  funext b
  simp [u2]
theorem u2_oth {α : Type} (I : Nat → Nat → α) {i j : Nat} (k : Nat) (v : α) (h : j ≠ i) : u2 I i k v j = I j := by
  funext b
  simp [u2, h]
/-- within -/
def okI (x : Int32) (n : Nat) : Bool := decide (¬ (x < 0 ∨ n ≤ x.toNatClampNeg))
theorem okI_in {x : Int32} {n : Nat} (h : okI x n = true) : vp_in x n := by
  have h2 : ¬ (x < 0 ∨ n ≤ x.toNatClampNeg) := of_decide_eq_true h
  exact h2
def okZ (x : Int32) : Bool := decide (x = 0 ∨ x = 1)
theorem okZ_n {x : Int32} (h : okZ x = true) : narrow .boolean (.int x) = .int x := by
  rcases of_decide_eq_true h with rfl | rfl <;> rfl
theorem okZ_f {x : Int32} (h : okZ x = true) : fits .boolean (.int x) = true := by
  rcases of_decide_eq_true h with rfl | rfl <;> rfl
theorem okZ_v {x : Int32} (h : okZ x = true) : vp_nar .boolean x = x := by
  rcases of_decide_eq_true h with rfl | rfl <;> rfl
theorem fks_set {ad : Nat → Nat} {f f' : Nat → Int32} {fks : List FK} {k : Nat} {v : Value} (hk : k < fks.length) (hv : fv ad f' k (fks[k]) = v) (ho : ∀ j, j ≠ k → f' j = f j) : (fks.mapIdx (fun k fk => fv ad f k fk)).set k v = fks.mapIdx (fun k fk => fv ad f' k fk) := by
  apply List.ext_getElem?
  intro j
  by_cases hj : j = k
  · subst hj
    rw [List.getElem?_set_self (by simpa using hk), List.getElem?_mapIdx]
    simp [hk, hv]
  · rw [List.getElem?_set_ne (Ne.symm hj), List.getElem?_mapIdx, List.getElem?_mapIdx]
    cases h : fks[j]? with
    | none => rfl
    | some fk =>
      show some _ = some _
      congr 1
      unfold fv
      rw [ho j hj]
theorem cel_set1 {cA : Nat → ClassId} {S : SF} {N : Nat} {ad : Nat → Nat} {I I' : IS} {J : JS} {i k ci : Nat} {fks : List FK} {v : Value} (hi : i < N) (hS : S i = .inl (ci, fks)) (hk : k < fks.length) (hv : fv ad (I' i) k (fks[k]) = v) (ho : ∀ j, j ≠ k → I' i j = I i j) (hq : ∀ j, j ≠ i → I' j = I j) :
    (wls cA S N ad I J).set i (ad i, .inr (ci, (fks.mapIdx (fun k fk => fv ad (I i) k fk)).set k v)) = wls cA S N ad I' J := by
  refine wls_set hi ?_ (fun j _ hj => cel_I (hq j hj) rfl)
  rw [fks_set hk hv ho]
  simp only [cel, hS]
section GR
variable {z : CTX} {cc : ByteArray} {own : String} {nL N : Nat} {S : SF} {R : Room} {ret : Option FieldType} {pc : Nat} {L : List (Nat × Value)} {st : List Value} {I : IS} {J : JS} {out : OUT}
/-- the class number ci is class C with table T of n fields -/
def isC (ci : Nat) (C : String) (T : u_T) (n : Nat) : Prop := vwCl[ci]? = some (C, T, n) ∧ (∀ w ∈ u_ws C T n, w ∈ gw_tbl)
def isT (T : u_T) (ty : Nat → FieldType) (n : Nat) : Prop := (∀ k, k < n → parseFieldDescriptor (T k).2.2.1 = some (ty k)) ∧ (∀ a, a < n → ∀ b, b < n → a ≠ b → (T a).2.1 ≠ (T b).2.1)
/-- a field is read -/
theorem g_get (O : OK z cc own nL S N R ret) {ci n : Nat} {C ref : String} {T : u_T} (hC : isC ci C T n) {index : Nat} (k : Nat) (d : decode cc pc = .ok (.getfield index, 3)) (hw : Cond.fieldLink own index ref (T k).2.1 (T k).2.2.1 ∈ gw_tbl) (hr : (T k).1 = ref) (hk : k < n) {i : Nat} (hi : i < N) {fks : List FK} (hS : S i = .inl (ci, fks)) {fk : FK} (hf : fks[k]? = some fk) {v : Value} (hv : ∀ ad : Nat → Nat, fv ad (I i) k fk = cv ad v)
    (K : G z (pc + 3) L (v :: st) I J out) : G z pc L (.ref i :: st) I J out := by
  obtain ⟨p, l, e, R, s, m, args, below, meth, c, A, nL, D, cA, S, N, ad⟩ := z
  obtain ⟨hx, hb, hown, -, hts, hK, -, -, -, -, rfl, rfl, -⟩ := O
  intro H locs ls hP hSS hl
  subst hr
  refine va_get (q0 := i) (fs := fks.mapIdx (fun k fk => fv ad (I i) k fk)) (ci := ci) (C := C) (T := T) (N := n) hx hb hts hC.2 hown hK hP ?_ hC.1 k hk (hts _ hw) (fun _ h => h) (v := cv ad v) ?_ d (K H locs ls hP hSS hl)
  · rw [wls_get hi]
    simp only [cel, hS]
  · rw [List.getElem?_mapIdx, hf, ← hv ad]
    rfl
/-- an int field is written -/
theorem g_put (O : OK z cc own nL S N R ret) {ci n : Nat} {C ref : String} {T : u_T} {tys : Nat → FieldType} (hC : isC ci C T n) (hT : isT T tys n) {index : Nat} (k : Nat) (d : decode cc pc = .ok (.putfield index, 3)) (hw : Cond.fieldLink own index ref (T k).2.1 (T k).2.2.1 ∈ gw_tbl) (hr : (T k).1 = ref) (hk : k < n) (hfin : (T k).2.2.2 = false) {ty : FieldType} (hty : tys k = ty) {x : Int32} (hn : narrow ty (.int x) = .int x) (hfit : fits ty (.int x) = true) {i : Nat} (hi : i < N) {fks : List FK} (hS : S i = .inl (ci, fks)) (hf : fks[k]? = some none)
    (K : G z (pc + 3) L st (u2 I i k x) J out) : G z pc L (.int x :: .ref i :: st) I J out := by
  obtain ⟨p, l, e, R, s, m, args, below, meth, c, A, nL, D, cA, S, N, ad⟩ := z
  obtain ⟨hx, hb, hown, -, hts, hK, hij, hA, -, -, rfl, rfl, -⟩ := O
  intro H locs ls hP hSS hl
  subst hr; subst hty
  have hkl : k < fks.length := (List.getElem?_eq_some_iff.mp hf).1
  have hg : fks[k] = none := (List.getElem?_eq_some_iff.mp hf).2
  refine va_put (q0 := i) (fs := fks.mapIdx (fun k fk => fv ad (I i) k fk)) (ci := ci) (C := C) (T := T) (N := n) (v := .int x) hx hb hts hC.2 tys hT.1 hT.2 hown hK hP (dOf hij hA) hSS ?_ hC.1 k hk (hts _ hw) (fun _ h => h) hfin (hT.1 k hk) hn hfit (by simpa using hkl) d (fun H1 locs1 hP1 _ hS1 => ?_)
  · rw [wls_get hi]
    simp only [cel, hS]
  · rw [cel_set1 (I' := u2 I i k x) hi hS hkl (by rw [hg, u2_row]; simp [fv]) (fun j hj => by rw [u2_row]; simp [hj]) (fun j hj => u2_oth I k x hj)] at hP1
    exact K H1 locs1 ls hP1 hS1 hl
/-- a field that holds one of two cells is written -/
theorem g_putR (O : OK z cc own nL S N R ret) {ci n : Nat} {C ref : String} {T : u_T} {tys : Nat → FieldType} (hC : isC ci C T n) (hT : isT T tys n) {index : Nat} (k : Nat) (d : decode cc pc = .ok (.putfield index, 3)) (hw : Cond.fieldLink own index ref (T k).2.1 (T k).2.2.1 ∈ gw_tbl) (hr : (T k).1 = ref) (hk : k < n) (hfin : (T k).2.2.2 = false) {r : Nat} {x : Int32} (hn : ∀ a, narrow (tys k) (.ref a) = .ref a) (hfit : ∀ a, fits (tys k) (.ref a) = true) {i j1 j2 : Nat} (hi : i < N) {fks : List FK} (hS : S i = .inl (ci, fks)) (hf : fks[k]? = some (some (.inr (j1, j2)))) (hx : (x = 1 ∧ r = j1) ∨ (x = 2 ∧ r = j2))
    (K : G z (pc + 3) L st (u2 I i k x) J out) : G z pc L (.ref r :: .ref i :: st) I J out := by
  obtain ⟨p, l, e, R, s, m, args, below, meth, c, A, nL, D, cA, S, N, ad⟩ := z
  obtain ⟨hx0, hb, hown, -, hts, hK, hij, hA, -, -, rfl, rfl, -⟩ := O
  intro H locs ls hP hSS hl
  subst hr
  have hkl : k < fks.length := (List.getElem?_eq_some_iff.mp hf).1
  have hg : fks[k] = some (.inr (j1, j2)) := (List.getElem?_eq_some_iff.mp hf).2
  refine va_put (q0 := i) (fs := fks.mapIdx (fun k fk => fv ad (I i) k fk)) (ci := ci) (C := C) (T := T) (N := n) (v := .ref (ad r)) hx0 hb hts hC.2 tys hT.1 hT.2 hown hK hP (dOf hij hA) hSS ?_ hC.1 k hk (hts _ hw) (fun _ h => h) hfin (hT.1 k hk) (hn _) (hfit _) (by simpa using hkl) d (fun H1 locs1 hP1 _ hS1 => ?_)
  · rw [wls_get hi]
    simp only [cel, hS]
  · rw [cel_set1 (I' := u2 I i k x) hi hS hkl (by
      rw [hg, u2_row]
      rcases hx with ⟨rfl, rfl⟩ | ⟨rfl, rfl⟩ <;> simp [fv]) (fun j hj => by rw [u2_row]; simp [hj]) (fun j hj => u2_oth I k x hj)] at hP1
    exact K H1 locs1 ls hP1 hS1 hl
theorem g_iald (O : OK z cc own nL S N R ret) (d : decode cc pc = .ok (.iaload, 1)) {i n : Nat} (hi : i < N) (hS : S i = .inr (0, n, none)) {x : Int32} (hin : okI x n = true) (K : G z (pc + 1) L (.int (I i x.toNatClampNeg) :: st) I J out) : G z pc L (.int x :: .ref i :: st) I J out := by
  obtain ⟨p, l, e, R, s, m, args, below, meth, c, A, nL, D, cA, S, N, ad⟩ := z
  obtain ⟨hx, hb, hown, -, hts, hK, -, -, -, -, rfl, rfl, -⟩ := O
  intro H locs ls hP hSS hl
  exact va_iald (q0 := i) (t0 := 0) (cA := cA 0) (n := n) (f := I i) hx hb hK hP (by rw [wls_get hi]; simp only [cel, hS]; rfl) rfl (okI_in hin) d (K H locs ls hP hSS hl)
theorem g_zald (O : OK z cc own nL S N R ret) (d : decode cc pc = .ok (.baload, 1)) {i n : Nat} (hi : i < N) (hS : S i = .inr (2, n, none)) {x : Int32} (hin : okI x n = true) (K : G z (pc + 1) L (.int (I i x.toNatClampNeg) :: st) I J out) : G z pc L (.int x :: .ref i :: st) I J out := by
  obtain ⟨p, l, e, R, s, m, args, below, meth, c, A, nL, D, cA, S, N, ad⟩ := z
  obtain ⟨hx, hb, hown, -, hts, hK, -, -, -, -, rfl, rfl, -⟩ := O
  intro H locs ls hP hSS hl
  exact va_zald (q0 := i) (t0 := 2) (cA := cA 2) (n := n) (f := I i) hx hb hK hP (by rw [wls_get hi]; simp only [cel, hS]; rfl) rfl (okI_in hin) d (K H locs ls hP hSS hl)
theorem g_lald (O : OK z cc own nL S N R ret) (d : decode cc pc = .ok (.laload, 1)) {i n : Nat} (hi : i < N) (hS : S i = .inr (1, n, none)) {x : Int32} (hin : okI x n = true) (K : G z (pc + 1) L (.long (J i x.toNatClampNeg) :: st) I J out) : G z pc L (.int x :: .ref i :: st) I J out := by
  obtain ⟨p, l, e, R, s, m, args, below, meth, c, A, nL, D, cA, S, N, ad⟩ := z
  obtain ⟨hx, hb, hown, -, hts, hK, -, -, -, -, rfl, rfl, -⟩ := O
  intro H locs ls hP hSS hl
  exact va_lald (q0 := i) (t0 := 1) (cA := cA 1) (n := n) (f := J i) hx hb hK hP (by rw [wls_get hi]; simp only [cel, hS]; rfl) rfl (okI_in hin) d (K H locs ls hP hSS hl)
theorem g_aald (O : OK z cc own nL S N R ret) (d : decode cc pc = .ok (.aaload, 1)) {i n t : Nat} (hi : i < N) {g : Nat → Nat} (hS : S i = .inr (t, n, some g)) (ht : t = 3 ∨ t = 4) {x : Int32} (hin : okI x n = true) (K : G z (pc + 1) L (.ref (g x.toNatClampNeg) :: st) I J out) : G z pc L (.int x :: .ref i :: st) I J out := by
  obtain ⟨p, l, e, R, s, m, args, below, meth, c, A, nL, D, cA, S, N, ad⟩ := z
  obtain ⟨hx, hb, hown, -, hts, hK, -, -, -, -, rfl, rfl, -⟩ := O
  intro H locs ls hP hSS hl
  have hlt : x.toNatClampNeg < n := Nat.not_le.mp fun q => okI_in hin (Or.inr q)
  have key : ∀ C, (tysOf cA)[t]? = some (cA t, .object C) → W p l e R s m args below meth c H locs 0 0 (MQ below (QC D cA S N ad A out) args s 0 0 A) (F0 m pc ls ((Value.int x :: Value.ref i :: st).map (cv ad))) := by
    intro C hC
    refine va_aldq (q0 := i) (t0 := t) (cA := cA t) (n := n) (C := C) (f := fun j => if j < n then some (ad (g j)) else none) hx hb hK hP (by rw [wls_get hi]; simp only [cel, hS]) hC (okI_in hin) d ?_
    have := K H locs ls hP hSS hl
    rw [if_pos hlt]
    exact this
  rcases ht with rfl | rfl
  · exact key _ rfl
  · exact key _ rfl
theorem g_alen (O : OK z cc own nL S N R ret) (d : decode cc pc = .ok (.arraylength, 1)) {i n t : Nat} (hi : i < N) {gg : Option (Nat → Nat)} (hS : S i = .inr (t, n, gg)) (ht : t < 5) {v : Int32} (hv : Int32.ofNat n = v) (K : G z (pc + 1) L (.int v :: st) I J out) : G z pc L (.ref i :: st) I J out := by
  obtain ⟨p, l, e, R, s, m, args, below, meth, c, A, nL, D, cA, S, N, ad⟩ := z
  obtain ⟨hx, hb, hown, -, hts, hK, -, -, -, -, rfl, rfl, -⟩ := O
  intro H locs ls hP hSS hl
  have key : ∀ x : vp_A, x.1 = n → cel cA S ad I J i = .inl (cA t, x) → W p l e R s m args below meth c H locs 0 0 (MQ below (QC D cA S N ad A out) args s 0 0 A) (F0 m pc ls ((Value.ref i :: st).map (cv ad))) := by
    intro x hx1 hc
    have hty : ∃ ty, (tysOf cA)[t]? = some (cA t, ty) := by
      match t, ht with
      | 0, _ => exact ⟨_, rfl⟩
      | 1, _ => exact ⟨_, rfl⟩
      | 2, _ => exact ⟨_, rfl⟩
      | 3, _ => exact ⟨_, rfl⟩
      | 4, _ => exact ⟨_, rfl⟩
      | n + 5, h => omega
    obtain ⟨ty, hty⟩ := hty
    exact va_alen (q0 := i) (t0 := t) (x := x) hx hb hK hP (by rw [wls_get hi, hc]) hty (by rw [hx1]; exact hv) d (K H locs ls hP hSS hl)
  cases gg with
  | some g => exact key (n, .inr (.inr (.inr (.inr (fun j => if j < n then some (ad (g j)) else none))))) rfl (by simp only [cel, hS])
  | none =>
    by_cases h1 : t = 1
    · exact key (n, .inr (.inl (J i))) rfl (by simp only [cel, hS, h1, if_true])
    · exact key (n, .inl (I i)) rfl (by simp only [cel, hS, h1, if_false])
theorem g_iast (O : OK z cc own nL S N R ret) (d : decode cc pc = .ok (.iastore, 1)) {i n : Nat} (hi : i < N) (hS : S i = .inr (0, n, none)) {x y : Int32} (hin : okI x n = true) (K : G z (pc + 1) L st (u2 I i x.toNatClampNeg y) J out) : G z pc L (.int y :: .int x :: .ref i :: st) I J out := by
  obtain ⟨p, l, e, R, s, m, args, below, meth, c, A, nL, D, cA, S, N, ad⟩ := z
  obtain ⟨hx, hb, hown, -, hts, hK, hij, hA, -, -, rfl, rfl, -⟩ := O
  intro H locs ls hP hSS hl
  refine va_iast (q0 := i) (t0 := 0) (cA := cA 0) (n := n) (f := I i) hx hb hK hP (dOf hij hA) hSS (by rw [wls_get hi]; simp only [cel, hS]; rfl) rfl (okI_in hin) d (fun H1 locs1 hP1 _ hS1 => ?_)
  rw [wls_set (I' := u2 I i x.toNatClampNeg y) (J' := J) hi (by simp only [cel, hS, u2_row]; rfl) (fun j _ hj => cel_I (u2_oth I _ _ hj) rfl)] at hP1
  exact K H1 locs1 ls hP1 hS1 hl
theorem g_zast (O : OK z cc own nL S N R ret) (d : decode cc pc = .ok (.bastore, 1)) {i n : Nat} (hi : i < N) (hS : S i = .inr (2, n, none)) {x y : Int32} (hin : okI x n = true) (hz : okZ y = true) (K : G z (pc + 1) L st (u2 I i x.toNatClampNeg y) J out) : G z pc L (.int y :: .int x :: .ref i :: st) I J out := by
  obtain ⟨p, l, e, R, s, m, args, below, meth, c, A, nL, D, cA, S, N, ad⟩ := z
  obtain ⟨hx, hb, hown, -, hts, hK, hij, hA, -, -, rfl, rfl, -⟩ := O
  intro H locs ls hP hSS hl
  refine va_zast (q0 := i) (t0 := 2) (cA := cA 2) (n := n) (f := I i) hx hb hK hP (dOf hij hA) hSS (by rw [wls_get hi]; simp only [cel, hS]; rfl) rfl (okI_in hin) d (fun H1 locs1 hP1 _ hS1 => ?_)
  rw [okZ_v hz, wls_set (I' := u2 I i x.toNatClampNeg y) (J' := J) hi (by simp only [cel, hS, u2_row]; rfl) (fun j _ hj => cel_I (u2_oth I _ _ hj) rfl)] at hP1
  exact K H1 locs1 ls hP1 hS1 hl
theorem g_last (O : OK z cc own nL S N R ret) (d : decode cc pc = .ok (.lastore, 1)) {i n : Nat} (hi : i < N) (hS : S i = .inr (1, n, none)) {x : Int32} {y : Int64} (hin : okI x n = true) (K : G z (pc + 1) L st I (u2 J i x.toNatClampNeg y) out) : G z pc L (.long y :: .int x :: .ref i :: st) I J out := by
  obtain ⟨p, l, e, R, s, m, args, below, meth, c, A, nL, D, cA, S, N, ad⟩ := z
  obtain ⟨hx, hb, hown, -, hts, hK, hij, hA, -, -, rfl, rfl, -⟩ := O
  intro H locs ls hP hSS hl
  refine va_last (q0 := i) (t0 := 1) (cA := cA 1) (n := n) (f := J i) hx hb hK hP (dOf hij hA) hSS (by rw [wls_get hi]; simp only [cel, hS]; rfl) rfl (okI_in hin) d (fun H1 locs1 hP1 _ hS1 => ?_)
  rw [wls_set (I' := I) (J' := u2 J i x.toNatClampNeg y) hi (by simp only [cel, hS, u2_row]; rfl) (fun j _ hj => cel_I rfl (u2_oth J _ _ hj))] at hP1
  exact K H1 locs1 ls hP1 hS1 hl
end GR
