section GR
variable {z : CTX} {cc : ByteArray} {own : String} {nL N : Nat} {S : SF} {R : Room} {ret : Option FieldType} {pc : Nat} {L : List (Nat × Value)} {st : List Value} {I : IS} {J : JS} {out : OUT}
theorem g_iadd (O : OK z cc own nL S N R ret) {x y : Int32} (d : decode cc pc = .ok (.iadd, 1)) (K : G z (pc + 1) L (.int (x + y) :: st) I J out) : G z pc L (.int y :: .int x :: st) I J out := by
  obtain ⟨p, l, e, R, s, m, args, below, meth, c, A, nL, D, cA, S, N, ad⟩ := z
  obtain ⟨hx, hb, -⟩ := O
  intro H locs ls hP hS hl
  exact lv_iadd hx hb d (K H locs ls hP hS hl)
theorem g_isub (O : OK z cc own nL S N R ret) {x y : Int32} (d : decode cc pc = .ok (.isub, 1)) (K : G z (pc + 1) L (.int (x - y) :: st) I J out) : G z pc L (.int y :: .int x :: st) I J out := by
  obtain ⟨p, l, e, R, s, m, args, below, meth, c, A, nL, D, cA, S, N, ad⟩ := z
  obtain ⟨hx, hb, -⟩ := O
  intro H locs ls hP hS hl
  exact lv_isub hx hb d (K H locs ls hP hS hl)
theorem g_imul (O : OK z cc own nL S N R ret) {x y : Int32} (d : decode cc pc = .ok (.imul, 1)) (K : G z (pc + 1) L (.int (x * y) :: st) I J out) : G z pc L (.int y :: .int x :: st) I J out := by
  obtain ⟨p, l, e, R, s, m, args, below, meth, c, A, nL, D, cA, S, N, ad⟩ := z
  obtain ⟨hx, hb, -⟩ := O
  intro H locs ls hP hS hl
  exact lv_imul hx hb d (K H locs ls hP hS hl)
theorem g_iand (O : OK z cc own nL S N R ret) {x y : Int32} (d : decode cc pc = .ok (.iand, 1)) (K : G z (pc + 1) L (.int (x &&& y) :: st) I J out) : G z pc L (.int y :: .int x :: st) I J out := by
  obtain ⟨p, l, e, R, s, m, args, below, meth, c, A, nL, D, cA, S, N, ad⟩ := z
  obtain ⟨hx, hb, -⟩ := O
  intro H locs ls hP hS hl
  exact lv_iand hx hb d (K H locs ls hP hS hl)
theorem g_ior (O : OK z cc own nL S N R ret) {x y : Int32} (d : decode cc pc = .ok (.ior, 1)) (K : G z (pc + 1) L (.int (x ||| y) :: st) I J out) : G z pc L (.int y :: .int x :: st) I J out := by
  obtain ⟨p, l, e, R, s, m, args, below, meth, c, A, nL, D, cA, S, N, ad⟩ := z
  obtain ⟨hx, hb, -⟩ := O
  intro H locs ls hP hS hl
  exact lv_ior hx hb d (K H locs ls hP hS hl)
theorem g_ishl (O : OK z cc own nL S N R ret) {x y : Int32} (d : decode cc pc = .ok (.ishl, 1)) (K : G z (pc + 1) L (.int (x <<< (y &&& 31)) :: st) I J out) : G z pc L (.int y :: .int x :: st) I J out := by
  obtain ⟨p, l, e, R, s, m, args, below, meth, c, A, nL, D, cA, S, N, ad⟩ := z
  obtain ⟨hx, hb, -⟩ := O
  intro H locs ls hP hS hl
  exact lv_ishl hx hb d (K H locs ls hP hS hl)
theorem g_ladd (O : OK z cc own nL S N R ret) {x y : Int64} (d : decode cc pc = .ok (.ladd, 1)) (K : G z (pc + 1) L (.long (x + y) :: st) I J out) : G z pc L (.long y :: .long x :: st) I J out := by
  obtain ⟨p, l, e, R, s, m, args, below, meth, c, A, nL, D, cA, S, N, ad⟩ := z
  obtain ⟨hx, hb, -⟩ := O
  intro H locs ls hP hS hl
  exact lv_ladd hx hb d (K H locs ls hP hS hl)
theorem g_land (O : OK z cc own nL S N R ret) {x y : Int64} (d : decode cc pc = .ok (.land, 1)) (K : G z (pc + 1) L (.long (x &&& y) :: st) I J out) : G z pc L (.long y :: .long x :: st) I J out := by
  obtain ⟨p, l, e, R, s, m, args, below, meth, c, A, nL, D, cA, S, N, ad⟩ := z
  obtain ⟨hx, hb, -⟩ := O
  intro H locs ls hP hS hl
  exact lv_land hx hb d (K H locs ls hP hS hl)
theorem g_lor (O : OK z cc own nL S N R ret) {x y : Int64} (d : decode cc pc = .ok (.lor, 1)) (K : G z (pc + 1) L (.long (x ||| y) :: st) I J out) : G z pc L (.long y :: .long x :: st) I J out := by
  obtain ⟨p, l, e, R, s, m, args, below, meth, c, A, nL, D, cA, S, N, ad⟩ := z
  obtain ⟨hx, hb, -⟩ := O
  intro H locs ls hP hS hl
  exact lv_lor hx hb d (K H locs ls hP hS hl)
theorem g_idiv (O : OK z cc own nL S N R ret) {x y : Int32} (d : decode cc pc = .ok (.idiv, 1)) (h : ¬ y = 0) (K : G z (pc + 1) L (.int (x / y) :: st) I J out) : G z pc L (.int y :: .int x :: st) I J out := by
  obtain ⟨p, l, e, R, s, m, args, below, meth, c, A, nL, D, cA, S, N, ad⟩ := z
  obtain ⟨hx, hb, -⟩ := O
  intro H locs ls hP hS hl
  exact lv_idiv hx hb d h (K H locs ls hP hS hl)
theorem g_irem (O : OK z cc own nL S N R ret) {x y : Int32} (d : decode cc pc = .ok (.irem, 1)) (h : ¬ y = 0) (K : G z (pc + 1) L (.int (x - x / y * y) :: st) I J out) : G z pc L (.int y :: .int x :: st) I J out := by
  obtain ⟨p, l, e, R, s, m, args, below, meth, c, A, nL, D, cA, S, N, ad⟩ := z
  obtain ⟨hx, hb, -⟩ := O
  intro H locs ls hP hS hl
  exact lv_irem hx hb d h (K H locs ls hP hS hl)
theorem g_ldiv (O : OK z cc own nL S N R ret) {x y : Int64} (d : decode cc pc = .ok (.ldiv, 1)) (h : ¬ y = 0) (K : G z (pc + 1) L (.long (x / y) :: st) I J out) : G z pc L (.long y :: .long x :: st) I J out := by
  obtain ⟨p, l, e, R, s, m, args, below, meth, c, A, nL, D, cA, S, N, ad⟩ := z
  obtain ⟨hx, hb, -⟩ := O
  intro H locs ls hP hS hl
  exact lv_ldiv hx hb d h (K H locs ls hP hS hl)
theorem g_lrem (O : OK z cc own nL S N R ret) {x y : Int64} (d : decode cc pc = .ok (.lrem, 1)) (h : ¬ y = 0) (K : G z (pc + 1) L (.long (x - x / y * y) :: st) I J out) : G z pc L (.long y :: .long x :: st) I J out := by
  obtain ⟨p, l, e, R, s, m, args, below, meth, c, A, nL, D, cA, S, N, ad⟩ := z
  obtain ⟨hx, hb, -⟩ := O
  intro H locs ls hP hS hl
  exact lv_lrem hx hb d h (K H locs ls hP hS hl)
theorem g_iushr (O : OK z cc own nL S N R ret) {x y : Int32} (d : decode cc pc = .ok (.iushr, 1)) (K : G z (pc + 1) L (.int ((x.toUInt32 >>> (y.toUInt32 &&& Int32.toUInt32 31)).toInt32) :: st) I J out) : G z pc L (.int y :: .int x :: st) I J out := by
  obtain ⟨p, l, e, R, s, m, args, below, meth, c, A, nL, D, cA, S, N, ad⟩ := z
  obtain ⟨hx, hb, -⟩ := O
  intro H locs ls hP hS hl
  exact lv_iushr hx hb d rfl (K H locs ls hP hS hl)
theorem g_lshl (O : OK z cc own nL S N R ret) {x : Int64} {y : Int32} (d : decode cc pc = .ok (.lshl, 1)) (K : G z (pc + 1) L (.long (x <<< (y.toInt64 &&& 63)) :: st) I J out) : G z pc L (.int y :: .long x :: st) I J out := by
  obtain ⟨p, l, e, R, s, m, args, below, meth, c, A, nL, D, cA, S, N, ad⟩ := z
  obtain ⟨hx, hb, -⟩ := O
  intro H locs ls hP hS hl
  exact lv_lshl hx hb d rfl (K H locs ls hP hS hl)
theorem g_i2l (O : OK z cc own nL S N R ret) {x : Int32} (d : decode cc pc = .ok (.i2l, 1)) (K : G z (pc + 1) L (.long x.toInt64 :: st) I J out) : G z pc L (.int x :: st) I J out := by
  obtain ⟨p, l, e, R, s, m, args, below, meth, c, A, nL, D, cA, S, N, ad⟩ := z
  obtain ⟨hx, hb, -⟩ := O
  intro H locs ls hP hS hl
  exact lv_i2l hx hb d rfl (K H locs ls hP hS hl)
theorem g_l2i (O : OK z cc own nL S N R ret) {x : Int64} (d : decode cc pc = .ok (.l2i, 1)) (K : G z (pc + 1) L (.int x.toInt32 :: st) I J out) : G z pc L (.long x :: st) I J out := by
  obtain ⟨p, l, e, R, s, m, args, below, meth, c, A, nL, D, cA, S, N, ad⟩ := z
  obtain ⟨hx, hb, -⟩ := O
  intro H locs ls hP hS hl
  exact lv_l2i hx hb d rfl (K H locs ls hP hS hl)
theorem g_i2b (O : OK z cc own nL S N R ret) {x : Int32} (d : decode cc pc = .ok (.i2b, 1)) (K : G z (pc + 1) L (.int x.toInt8.toInt32 :: st) I J out) : G z pc L (.int x :: st) I J out := by
  obtain ⟨p, l, e, R, s, m, args, below, meth, c, A, nL, D, cA, S, N, ad⟩ := z
  obtain ⟨hx, hb, -⟩ := O
  intro H locs ls hP hS hl
  exact lv_i2b hx hb d rfl (K H locs ls hP hS hl)
theorem g_i2s (O : OK z cc own nL S N R ret) {x : Int32} (d : decode cc pc = .ok (.i2s, 1)) (K : G z (pc + 1) L (.int x.toInt16.toInt32 :: st) I J out) : G z pc L (.int x :: st) I J out := by
  obtain ⟨p, l, e, R, s, m, args, below, meth, c, A, nL, D, cA, S, N, ad⟩ := z
  obtain ⟨hx, hb, -⟩ := O
  intro H locs ls hP hS hl
  exact lv_i2s hx hb d rfl (K H locs ls hP hS hl)
theorem g_dup (O : OK z cc own nL S N R ret) {v : Value} (d : decode cc pc = .ok (.dup, 1)) (h : v.category = 1) (K : G z (pc + 1) L (v :: v :: st) I J out) : G z pc L (v :: st) I J out := by
  obtain ⟨p, l, e, R, s, m, args, below, meth, c, A, nL, D, cA, S, N, ad⟩ := z
  obtain ⟨hx, hb, -⟩ := O
  intro H locs ls hP hS hl
  exact lv_dup hx hb d (by rw [cv_cat]; exact h) (K H locs ls hP hS hl)
theorem g_dup2 (O : OK z cc own nL S N R ret) {v u : Value} (d : decode cc pc = .ok (.dup2, 1)) (h : v.category = 1) (h2 : u.category = 1) (K : G z (pc + 1) L (v :: u :: v :: u :: st) I J out) : G z pc L (v :: u :: st) I J out := by
  obtain ⟨p, l, e, R, s, m, args, below, meth, c, A, nL, D, cA, S, N, ad⟩ := z
  obtain ⟨hx, hb, -⟩ := O
  intro H locs ls hP hS hl
  exact lv_dup2_11 hx hb d (by rw [cv_cat]; exact h) (by rw [cv_cat]; exact h2) (K H locs ls hP hS hl)
theorem g_lcmp (O : OK z cc own nL S N R ret) {x y : Int64} (d : decode cc pc = .ok (.lcmp, 1)) (K : G z (pc + 1) L (.int (lg_cmp x y) :: st) I J out) : G z pc L (.long y :: .long x :: st) I J out := by
  obtain ⟨p, l, e, R, s, m, args, below, meth, c, A, nL, D, cA, S, N, ad⟩ := z
  obtain ⟨hx, hb, -⟩ := O
  intro H locs ls hP hS hl
  exact W.lcmp hx hb d (K H locs ls hP hS hl)
theorem g_pop (O : OK z cc own nL S N R ret) {v : Value} (d : decode cc pc = .ok (.pop, 1)) (h : v.category = 1) (K : G z (pc + 1) L st I J out) : G z pc L (v :: st) I J out := by
  obtain ⟨p, l, e, R, s, m, args, below, meth, c, A, nL, D, cA, S, N, ad⟩ := z
  obtain ⟨hx, hb, -⟩ := O
  intro H locs ls hP hS hl
  exact lv_pop hx hb d (by rw [cv_cat]; exact h) (K H locs ls hP hS hl)
theorem g_goto (O : OK z cc own nL S N R ret) {off : Int} (tgt : Nat) (d : decode cc pc = .ok (.goto off, 3)) (ht : (pc : Int) + off = (tgt : Int)) (K : G z tgt L st I J out) : G z pc L st I J out := by
  obtain ⟨p, l, e, R, s, m, args, below, meth, c, A, nL, D, cA, S, N, ad⟩ := z
  obtain ⟨hx, hb, -⟩ := O
  intro H locs ls hP hS hl
  exact lv_goto hx hb d ht (K H locs ls hP hS hl)
theorem g_if_eq (O : OK z cc own nL S N R ret) {x : Int32} {off : Int} (tgt : Nat) (d : decode cc pc = .ok (.ifCond .eq off, 3)) (ht : (pc : Int) + off = (tgt : Int)) (K : x = 0 → G z tgt L st I J out) (K2 : ¬ x = 0 → G z (pc + 3) L st I J out) : G z pc L (.int x :: st) I J out := by
  obtain ⟨p, l, e, R, s, m, args, below, meth, c, A, nL, D, cA, S, N, ad⟩ := z
  obtain ⟨hx, hb, -⟩ := O
  intro H locs ls hP hS hl
  exact lv_if_eq hx hb d ht (fun q => K q H locs ls hP hS hl) (fun q => K2 q H locs ls hP hS hl)
theorem g_icmp_eq (O : OK z cc own nL S N R ret) {x y : Int32} {off : Int} (tgt : Nat) (d : decode cc pc = .ok (.if_icmp .eq off, 3)) (ht : (pc : Int) + off = (tgt : Int)) (K : x = y → G z tgt L st I J out) (K2 : ¬ x = y → G z (pc + 3) L st I J out) : G z pc L (.int y :: .int x :: st) I J out := by
  obtain ⟨p, l, e, R, s, m, args, below, meth, c, A, nL, D, cA, S, N, ad⟩ := z
  obtain ⟨hx, hb, -⟩ := O
  intro H locs ls hP hS hl
  exact lv_icmp_eq hx hb d ht (fun q => K q H locs ls hP hS hl) (fun q => K2 q H locs ls hP hS hl)
theorem g_if_ne (O : OK z cc own nL S N R ret) {x : Int32} {off : Int} (tgt : Nat) (d : decode cc pc = .ok (.ifCond .ne off, 3)) (ht : (pc : Int) + off = (tgt : Int)) (K : ¬ x = 0 → G z tgt L st I J out) (K2 : x = 0 → G z (pc + 3) L st I J out) : G z pc L (.int x :: st) I J out := by
  obtain ⟨p, l, e, R, s, m, args, below, meth, c, A, nL, D, cA, S, N, ad⟩ := z
  obtain ⟨hx, hb, -⟩ := O
  intro H locs ls hP hS hl
  exact lv_if_ne hx hb d ht (fun q => K q H locs ls hP hS hl) (fun q => K2 q H locs ls hP hS hl)
theorem g_icmp_ne (O : OK z cc own nL S N R ret) {x y : Int32} {off : Int} (tgt : Nat) (d : decode cc pc = .ok (.if_icmp .ne off, 3)) (ht : (pc : Int) + off = (tgt : Int)) (K : ¬ x = y → G z tgt L st I J out) (K2 : x = y → G z (pc + 3) L st I J out) : G z pc L (.int y :: .int x :: st) I J out := by
  obtain ⟨p, l, e, R, s, m, args, below, meth, c, A, nL, D, cA, S, N, ad⟩ := z
  obtain ⟨hx, hb, -⟩ := O
  intro H locs ls hP hS hl
  exact lv_icmp_ne hx hb d ht (fun q => K q H locs ls hP hS hl) (fun q => K2 q H locs ls hP hS hl)
theorem g_if_lt (O : OK z cc own nL S N R ret) {x : Int32} {off : Int} (tgt : Nat) (d : decode cc pc = .ok (.ifCond .lt off, 3)) (ht : (pc : Int) + off = (tgt : Int)) (K : x < 0 → G z tgt L st I J out) (K2 : ¬ x < 0 → G z (pc + 3) L st I J out) : G z pc L (.int x :: st) I J out := by
  obtain ⟨p, l, e, R, s, m, args, below, meth, c, A, nL, D, cA, S, N, ad⟩ := z
  obtain ⟨hx, hb, -⟩ := O
  intro H locs ls hP hS hl
  exact lv_if_lt hx hb d ht (fun q => K q H locs ls hP hS hl) (fun q => K2 q H locs ls hP hS hl)
theorem g_icmp_lt (O : OK z cc own nL S N R ret) {x y : Int32} {off : Int} (tgt : Nat) (d : decode cc pc = .ok (.if_icmp .lt off, 3)) (ht : (pc : Int) + off = (tgt : Int)) (K : x < y → G z tgt L st I J out) (K2 : ¬ x < y → G z (pc + 3) L st I J out) : G z pc L (.int y :: .int x :: st) I J out := by
  obtain ⟨p, l, e, R, s, m, args, below, meth, c, A, nL, D, cA, S, N, ad⟩ := z
  obtain ⟨hx, hb, -⟩ := O
  intro H locs ls hP hS hl
  exact lv_icmp_lt hx hb d ht (fun q => K q H locs ls hP hS hl) (fun q => K2 q H locs ls hP hS hl)
theorem g_if_ge (O : OK z cc own nL S N R ret) {x : Int32} {off : Int} (tgt : Nat) (d : decode cc pc = .ok (.ifCond .ge off, 3)) (ht : (pc : Int) + off = (tgt : Int)) (K : 0 ≤ x → G z tgt L st I J out) (K2 : ¬ 0 ≤ x → G z (pc + 3) L st I J out) : G z pc L (.int x :: st) I J out := by
  obtain ⟨p, l, e, R, s, m, args, below, meth, c, A, nL, D, cA, S, N, ad⟩ := z
  obtain ⟨hx, hb, -⟩ := O
  intro H locs ls hP hS hl
  exact lv_if_ge hx hb d ht (fun q => K q H locs ls hP hS hl) (fun q => K2 q H locs ls hP hS hl)
theorem g_icmp_ge (O : OK z cc own nL S N R ret) {x y : Int32} {off : Int} (tgt : Nat) (d : decode cc pc = .ok (.if_icmp .ge off, 3)) (ht : (pc : Int) + off = (tgt : Int)) (K : y ≤ x → G z tgt L st I J out) (K2 : ¬ y ≤ x → G z (pc + 3) L st I J out) : G z pc L (.int y :: .int x :: st) I J out := by
  obtain ⟨p, l, e, R, s, m, args, below, meth, c, A, nL, D, cA, S, N, ad⟩ := z
  obtain ⟨hx, hb, -⟩ := O
  intro H locs ls hP hS hl
  exact lv_icmp_ge hx hb d ht (fun q => K q H locs ls hP hS hl) (fun q => K2 q H locs ls hP hS hl)
theorem g_if_gt (O : OK z cc own nL S N R ret) {x : Int32} {off : Int} (tgt : Nat) (d : decode cc pc = .ok (.ifCond .gt off, 3)) (ht : (pc : Int) + off = (tgt : Int)) (K : 0 < x → G z tgt L st I J out) (K2 : ¬ 0 < x → G z (pc + 3) L st I J out) : G z pc L (.int x :: st) I J out := by
  obtain ⟨p, l, e, R, s, m, args, below, meth, c, A, nL, D, cA, S, N, ad⟩ := z
  obtain ⟨hx, hb, -⟩ := O
  intro H locs ls hP hS hl
  exact lv_if_gt hx hb d ht (fun q => K q H locs ls hP hS hl) (fun q => K2 q H locs ls hP hS hl)
theorem g_icmp_gt (O : OK z cc own nL S N R ret) {x y : Int32} {off : Int} (tgt : Nat) (d : decode cc pc = .ok (.if_icmp .gt off, 3)) (ht : (pc : Int) + off = (tgt : Int)) (K : y < x → G z tgt L st I J out) (K2 : ¬ y < x → G z (pc + 3) L st I J out) : G z pc L (.int y :: .int x :: st) I J out := by
  obtain ⟨p, l, e, R, s, m, args, below, meth, c, A, nL, D, cA, S, N, ad⟩ := z
  obtain ⟨hx, hb, -⟩ := O
  intro H locs ls hP hS hl
  exact lv_icmp_gt hx hb d ht (fun q => K q H locs ls hP hS hl) (fun q => K2 q H locs ls hP hS hl)
theorem g_if_le (O : OK z cc own nL S N R ret) {x : Int32} {off : Int} (tgt : Nat) (d : decode cc pc = .ok (.ifCond .le off, 3)) (ht : (pc : Int) + off = (tgt : Int)) (K : x ≤ 0 → G z tgt L st I J out) (K2 : ¬ x ≤ 0 → G z (pc + 3) L st I J out) : G z pc L (.int x :: st) I J out := by
  obtain ⟨p, l, e, R, s, m, args, below, meth, c, A, nL, D, cA, S, N, ad⟩ := z
  obtain ⟨hx, hb, -⟩ := O
  intro H locs ls hP hS hl
  exact lv_if_le hx hb d ht (fun q => K q H locs ls hP hS hl) (fun q => K2 q H locs ls hP hS hl)
theorem g_icmp_le (O : OK z cc own nL S N R ret) {x y : Int32} {off : Int} (tgt : Nat) (d : decode cc pc = .ok (.if_icmp .le off, 3)) (ht : (pc : Int) + off = (tgt : Int)) (K : x ≤ y → G z tgt L st I J out) (K2 : ¬ x ≤ y → G z (pc + 3) L st I J out) : G z pc L (.int y :: .int x :: st) I J out := by
  obtain ⟨p, l, e, R, s, m, args, below, meth, c, A, nL, D, cA, S, N, ad⟩ := z
  obtain ⟨hx, hb, -⟩ := O
  intro H locs ls hP hS hl
  exact lv_icmp_le hx hb d ht (fun q => K q H locs ls hP hS hl) (fun q => K2 q H locs ls hP hS hl)
theorem g_tabIn (O : OK z cc own nL S N R ret) {dflt lo hi : Int} {offs : Array Int} {len : Nat} {x v : Int32} (off : Int) (tgt : Nat) (d : decode cc pc = .ok (.tableswitch dflt lo hi offs, len)) (hv : x = v) (h1 : ¬ v.toInt < lo) (h2 : ¬ hi < v.toInt) (ho : offs[(v.toInt - lo).toNat]? = some off) (ht : (pc : Int) + off = (tgt : Int)) (K : G z tgt L st I J out) : G z pc L (.int x :: st) I J out := by
  subst hv
  obtain ⟨p, l, e, R, s, m, args, below, meth, c, A, nL, D, cA, S, N, ad⟩ := z
  obtain ⟨hx, hb, -⟩ := O
  intro H locs ls hP hS hl
  exact lv_tableIn hx hb d h1 h2 ho ht (K H locs ls hP hS hl)
theorem g_tabOut (O : OK z cc own nL S N R ret) {dflt lo hi : Int} {offs : Array Int} {len : Nat} {x : Int32} (tgt : Nat) (d : decode cc pc = .ok (.tableswitch dflt lo hi offs, len)) (h : x.toInt < lo ∨ hi < x.toInt) (ht : (pc : Int) + dflt = (tgt : Int)) (K : G z tgt L st I J out) : G z pc L (.int x :: st) I J out := by
  obtain ⟨p, l, e, R, s, m, args, below, meth, c, A, nL, D, cA, S, N, ad⟩ := z
  obtain ⟨hx, hb, -⟩ := O
  intro H locs ls hP hS hl
  exact lv_tableOut hx hb d h ht (K H locs ls hP hS hl)
theorem g_look (O : OK z cc own nL S N R ret) {dflt : Int} {ps : Array (Int × Int)} {len : Nat} {x : Int32} (off : Int) (tgt : Nat) (d : decode cc pc = .ok (.lookupswitch dflt ps, len)) (hp : (ps.toList.zip (ps.toList.drop 1)).all (fun (a, next) => a.1 < next.1) = true) (ho : Op.lookupswitch.offset ps.toList dflt x.toInt = off) (ht : (pc : Int) + off = (tgt : Int)) (K : G z tgt L st I J out) : G z pc L (.int x :: st) I J out := by
  obtain ⟨p, l, e, R, s, m, args, below, meth, c, A, nL, D, cA, S, N, ad⟩ := z
  obtain ⟨hx, hb, -⟩ := O
  intro H locs ls hP hS hl
  exact lv_lookup hx hb d hp ho ht (K H locs ls hP hS hl)
end GR
