section XR
variable {α : Type} {G : xG} {d : Nat} {F : xF} {cv : α → Option Value} {pc : Nat} {ls : List (Nat × Value)} {st : List Value} {h : Mem} {o : Option (α × Mem)}
theorem r_sub {ls' : List (Nat × Value)} (ks : List Nat) (hl : lv_pick ls ks = ls') (K : Rn G d F cv pc ls' st h o) : Rn G d F cv pc ls st h o :=
  fun r hr p l e s m args below meth c H locs lsA C hP hS hv => K r hr p l e s m args below meth c H locs lsA C hP hS (lv_sub hv ks hl)
theorem r_iload_n {k : Fin 4} {i place : Nat} {x : Int32} (hd : decode F.2.1 pc = .ok (.iload_n k, 1)) (hi : (k : Nat) = i) (hp : ls[place]? = some (i, .int x)) (K : Rn G d F cv (pc + 1) ls (.int x :: st) h o) : Rn G d F cv pc ls st h o :=
  fun r hr p l e s m args below meth c H locs lsA C hP hS hv => lv_iload_n C.1 C.2.1 hd hi (lv_at hv place hp) (K r hr p l e s m args below meth c H locs lsA C hP hS hv)
theorem r_iload {i place : Nat} {x : Int32} (hd : decode F.2.1 pc = .ok (.iload i, 2)) (hp : ls[place]? = some (i, .int x)) (K : Rn G d F cv (pc + 2) ls (.int x :: st) h o) : Rn G d F cv pc ls st h o :=
  fun r hr p l e s m args below meth c H locs lsA C hP hS hv => lv_iload C.1 C.2.1 hd (lv_at hv place hp) (K r hr p l e s m args below meth c H locs lsA C hP hS hv)
theorem r_lload_n {k : Fin 4} {i place : Nat} {x : Int64} (hd : decode F.2.1 pc = .ok (.lload_n k, 1)) (hi : (k : Nat) = i) (hp : ls[place]? = some (i, .long x)) (K : Rn G d F cv (pc + 1) ls (.long x :: st) h o) : Rn G d F cv pc ls st h o :=
  fun r hr p l e s m args below meth c H locs lsA C hP hS hv => lv_lload_n C.1 C.2.1 hd hi (lv_at hv place hp) (K r hr p l e s m args below meth c H locs lsA C hP hS hv)
theorem r_lload {i place : Nat} {x : Int64} (hd : decode F.2.1 pc = .ok (.lload i, 2)) (hp : ls[place]? = some (i, .long x)) (K : Rn G d F cv (pc + 2) ls (.long x :: st) h o) : Rn G d F cv pc ls st h o :=
  fun r hr p l e s m args below meth c H locs lsA C hP hS hv => lv_lload C.1 C.2.1 hd (lv_at hv place hp) (K r hr p l e s m args below meth c H locs lsA C hP hS hv)
theorem r_aload_n {k : Fin 4} {i place : Nat} {x : Nat} (hd : decode F.2.1 pc = .ok (.aload_n k, 1)) (hi : (k : Nat) = i) (hp : ls[place]? = some (i, .ref x)) (K : Rn G d F cv (pc + 1) ls (.ref x :: st) h o) : Rn G d F cv pc ls st h o :=
  fun r hr p l e s m args below meth c H locs lsA C hP hS hv => lv_aload_n C.1 C.2.1 hd hi (lv_at hv place hp) (K r hr p l e s m args below meth c H locs lsA C hP hS hv)
theorem r_aload {i place : Nat} {x : Nat} (hd : decode F.2.1 pc = .ok (.aload i, 2)) (hp : ls[place]? = some (i, .ref x)) (K : Rn G d F cv (pc + 2) ls (.ref x :: st) h o) : Rn G d F cv pc ls st h o :=
  fun r hr p l e s m args below meth c H locs lsA C hP hS hv => lv_aload C.1 C.2.1 hd (lv_at hv place hp) (K r hr p l e s m args below meth c H locs lsA C hP hS hv)
theorem r_istore_n {k : Fin 4} {i : Nat} {x : Int32} {ls' : List (Nat × Value)} (hd : decode F.2.1 pc = .ok (.istore_n k, 1)) (hi : (k : Nat) = i) (hn : i < F.2.2.1) (hl : (i, Value.int x) :: ls.filter (fun q => !(q.1 == i) && !(q.1 + 1 == i && q.2.category == 2)) = ls') (K : Rn G d F cv (pc + 1) ls' st h o) : Rn G d F cv pc ls (.int x :: st) h o :=
  fun r hr p l e s m args below meth c H locs lsA C hP hS hv => lv_istore_n C.1 C.2.1 hd hi hv hn hl (fun lsB hv => K r hr p l e s m args below meth c H locs lsB C hP hS hv)
theorem r_istore {i : Nat} {x : Int32} {ls' : List (Nat × Value)} (hd : decode F.2.1 pc = .ok (.istore i, 2)) (hn : i < F.2.2.1) (hl : (i, Value.int x) :: ls.filter (fun q => !(q.1 == i) && !(q.1 + 1 == i && q.2.category == 2)) = ls') (K : Rn G d F cv (pc + 2) ls' st h o) : Rn G d F cv pc ls (.int x :: st) h o :=
  fun r hr p l e s m args below meth c H locs lsA C hP hS hv => lv_istore C.1 C.2.1 hd hv hn hl (fun lsB hv => K r hr p l e s m args below meth c H locs lsB C hP hS hv)
theorem r_astore_n {k : Fin 4} {i : Nat} {x : Nat} {ls' : List (Nat × Value)} (hd : decode F.2.1 pc = .ok (.astore_n k, 1)) (hi : (k : Nat) = i) (hn : i < F.2.2.1) (hl : (i, Value.ref x) :: ls.filter (fun q => !(q.1 == i) && !(q.1 + 1 == i && q.2.category == 2)) = ls') (K : Rn G d F cv (pc + 1) ls' st h o) : Rn G d F cv pc ls (.ref x :: st) h o :=
  fun r hr p l e s m args below meth c H locs lsA C hP hS hv => lv_astore_n C.1 C.2.1 hd hi hv hn hl (fun lsB hv => K r hr p l e s m args below meth c H locs lsB C hP hS hv)
theorem r_astore {i : Nat} {x : Nat} {ls' : List (Nat × Value)} (hd : decode F.2.1 pc = .ok (.astore i, 2)) (hn : i < F.2.2.1) (hl : (i, Value.ref x) :: ls.filter (fun q => !(q.1 == i) && !(q.1 + 1 == i && q.2.category == 2)) = ls') (K : Rn G d F cv (pc + 2) ls' st h o) : Rn G d F cv pc ls (.ref x :: st) h o :=
  fun r hr p l e s m args below meth c H locs lsA C hP hS hv => lv_astore C.1 C.2.1 hd hv hn hl (fun lsB hv => K r hr p l e s m args below meth c H locs lsB C hP hS hv)
theorem r_iinc {i place : Nat} {n : Int} {x v : Int32} {ls' : List (Nat × Value)} (hd : decode F.2.1 pc = .ok (.iinc i n, 3)) (hp : ls[place]? = some (i, .int x)) (hv1 : x + Int32.ofInt n = v) (hn : i < F.2.2.1) (hl : (i, Value.int v) :: ls.filter (fun q => !(q.1 == i) && !(q.1 + 1 == i && q.2.category == 2)) = ls') (K : Rn G d F cv (pc + 3) ls' st h o) : Rn G d F cv pc ls st h o :=
  fun r hr p l e s m args below meth c H locs lsA C hP hS hv => lv_iinc C.1 C.2.1 hd hv hp hv1 hn hl (fun lsB hv => K r hr p l e s m args below meth c H locs lsB C hP hS hv)
theorem r_iconst {n : Int} {v : Int32} (hd : decode F.2.1 pc = .ok (.iconst n, 1)) (hn : Int32.ofInt n = v) (K : Rn G d F cv (pc + 1) ls (.int v :: st) h o) : Rn G d F cv pc ls st h o :=
  fun r hr p l e s m args below meth c H locs lsA C hP hS hv => lv_iconst C.1 C.2.1 hd hn (K r hr p l e s m args below meth c H locs lsA C hP hS hv)
theorem r_bipush {n : Int} {v : Int32} (hd : decode F.2.1 pc = .ok (.bipush n, 2)) (hn : (Int8.ofInt n).toInt32 = v) (K : Rn G d F cv (pc + 2) ls (.int v :: st) h o) : Rn G d F cv pc ls st h o :=
  fun r hr p l e s m args below meth c H locs lsA C hP hS hv => lv_bipush C.1 C.2.1 hd hn (K r hr p l e s m args below meth c H locs lsA C hP hS hv)
theorem r_sipush {n : Int} {v : Int32} (hd : decode F.2.1 pc = .ok (.sipush n, 3)) (hn : (Int16.ofInt n).toInt32 = v) (K : Rn G d F cv (pc + 3) ls (.int v :: st) h o) : Rn G d F cv pc ls st h o :=
  fun r hr p l e s m args below meth c H locs lsA C hP hS hv => lv_sipush C.1 C.2.1 hd hn (K r hr p l e s m args below meth c H locs lsA C hP hS hv)
theorem r_lconst {n : Fin 2} {v : Int64} (hd : decode F.2.1 pc = .ok (.lconst n, 1)) (hn : Int64.ofNat (n : Nat) = v) (K : Rn G d F cv (pc + 1) ls (.long v :: st) h o) : Rn G d F cv pc ls st h o :=
  fun r hr p l e s m args below meth c H locs lsA C hP hS hv => lv_lconst C.1 C.2.1 hd hn (K r hr p l e s m args below meth c H locs lsA C hP hS hv)
theorem r_ldc {i : Nat} {v : Int32} (hd : decode F.2.1 pc = .ok (.ldc i, 2)) (hw : Cond.constant F.1 i v ∈ xgt) (K : Rn G d F cv (pc + 2) ls (.int v :: st) h o) : Rn G d F cv pc ls st h o :=
  fun r hr p l e s m args below meth c H locs lsA C hP hS hv => lv_ldc C.1 C.2.1 C.2.2.2.2.1 (C.2.2.2.2.2.1 _ hw) hd (K r hr p l e s m args below meth c H locs lsA C hP hS hv)
theorem r_ldc2 {i : Nat} {v : Int64} (hd : decode F.2.1 pc = .ok (.ldc2_w i, 3)) (hw : Cond.constantLong F.1 i v ∈ xgt) (K : Rn G d F cv (pc + 3) ls (.long v :: st) h o) : Rn G d F cv pc ls st h o :=
  fun r hr p l e s m args below meth c H locs lsA C hP hS hv => lv_ldc2 C.1 C.2.1 C.2.2.2.2.1 (C.2.2.2.2.2.1 _ hw) hd (K r hr p l e s m args below meth c H locs lsA C hP hS hv)
theorem r_i2l {x : Int32} (hd : decode F.2.1 pc = .ok (.i2l, 1)) (K : Rn G d F cv (pc + 1) ls (.long x.toInt64 :: st) h o) : Rn G d F cv pc ls (.int x :: st) h o :=
  fun r hr p l e s m args below meth c H locs lsA C hP hS hv => lv_i2l C.1 C.2.1 hd rfl (K r hr p l e s m args below meth c H locs lsA C hP hS hv)
theorem r_lcmp {x y : Int64} (hd : decode F.2.1 pc = .ok (.lcmp, 1)) (K : Rn G d F cv (pc + 1) ls (.int (lg_cmp x y) :: st) h o) : Rn G d F cv pc ls (.long y :: .long x :: st) h o :=
  fun r hr p l e s m args below meth c H locs lsA C hP hS hv => W.lcmp C.1 C.2.1 hd (K r hr p l e s m args below meth c H locs lsA C hP hS hv)
theorem r_dup {v : Value} (hd : decode F.2.1 pc = .ok (.dup, 1)) (hc : v.category = 1) (K : Rn G d F cv (pc + 1) ls (v :: v :: st) h o) : Rn G d F cv pc ls (v :: st) h o :=
  fun r hr p l e s m args below meth c H locs lsA C hP hS hv => lv_dup C.1 C.2.1 hd hc (K r hr p l e s m args below meth c H locs lsA C hP hS hv)
theorem r_pop {v : Value} (hd : decode F.2.1 pc = .ok (.pop, 1)) (hc : v.category = 1) (K : Rn G d F cv (pc + 1) ls st h o) : Rn G d F cv pc ls (v :: st) h o :=
  fun r hr p l e s m args below meth c H locs lsA C hP hS hv => lv_pop C.1 C.2.1 hd hc (K r hr p l e s m args below meth c H locs lsA C hP hS hv)
theorem r_dup2 {v w : Value} (hd : decode F.2.1 pc = .ok (.dup2, 1)) (hc : v.category = 1) (hc2 : w.category = 1) (K : Rn G d F cv (pc + 1) ls (v :: w :: v :: w :: st) h o) : Rn G d F cv pc ls (v :: w :: st) h o :=
  fun r hr p l e s m args below meth c H locs lsA C hP hS hv => lv_dup2_11 C.1 C.2.1 hd hc hc2 (K r hr p l e s m args below meth c H locs lsA C hP hS hv)
theorem r_iadd {x y : Int32} (hd : decode F.2.1 pc = .ok (.iadd, 1)) (K : Rn G d F cv (pc + 1) ls (.int (x + y) :: st) h o) : Rn G d F cv pc ls (.int y :: .int x :: st) h o :=
  fun r hr p l e s m args below meth c H locs lsA C hP hS hv => lv_iadd C.1 C.2.1 hd (K r hr p l e s m args below meth c H locs lsA C hP hS hv)
theorem r_isub {x y : Int32} (hd : decode F.2.1 pc = .ok (.isub, 1)) (K : Rn G d F cv (pc + 1) ls (.int (x - y) :: st) h o) : Rn G d F cv pc ls (.int y :: .int x :: st) h o :=
  fun r hr p l e s m args below meth c H locs lsA C hP hS hv => lv_isub C.1 C.2.1 hd (K r hr p l e s m args below meth c H locs lsA C hP hS hv)
theorem r_imul {x y : Int32} (hd : decode F.2.1 pc = .ok (.imul, 1)) (K : Rn G d F cv (pc + 1) ls (.int (x * y) :: st) h o) : Rn G d F cv pc ls (.int y :: .int x :: st) h o :=
  fun r hr p l e s m args below meth c H locs lsA C hP hS hv => lv_imul C.1 C.2.1 hd (K r hr p l e s m args below meth c H locs lsA C hP hS hv)
theorem r_irem {x y : Int32} (hd : decode F.2.1 pc = .ok (.irem, 1)) (hne : ¬ y = 0) (K : Rn G d F cv (pc + 1) ls (.int (x - x / y * y) :: st) h o) : Rn G d F cv pc ls (.int y :: .int x :: st) h o :=
  fun r hr p l e s m args below meth c H locs lsA C hP hS hv => lv_irem C.1 C.2.1 hd hne (K r hr p l e s m args below meth c H locs lsA C hP hS hv)
theorem r_iand {x y : Int32} (hd : decode F.2.1 pc = .ok (.iand, 1)) (K : Rn G d F cv (pc + 1) ls (.int (x &&& y) :: st) h o) : Rn G d F cv pc ls (.int y :: .int x :: st) h o :=
  fun r hr p l e s m args below meth c H locs lsA C hP hS hv => lv_iand C.1 C.2.1 hd (K r hr p l e s m args below meth c H locs lsA C hP hS hv)
theorem r_ior {x y : Int32} (hd : decode F.2.1 pc = .ok (.ior, 1)) (K : Rn G d F cv (pc + 1) ls (.int (x ||| y) :: st) h o) : Rn G d F cv pc ls (.int y :: .int x :: st) h o :=
  fun r hr p l e s m args below meth c H locs lsA C hP hS hv => lv_ior C.1 C.2.1 hd (K r hr p l e s m args below meth c H locs lsA C hP hS hv)
theorem r_ishl {x y : Int32} (hd : decode F.2.1 pc = .ok (.ishl, 1)) (K : Rn G d F cv (pc + 1) ls (.int (x <<< (y &&& 31)) :: st) h o) : Rn G d F cv pc ls (.int y :: .int x :: st) h o :=
  fun r hr p l e s m args below meth c H locs lsA C hP hS hv => lv_ishl C.1 C.2.1 hd (K r hr p l e s m args below meth c H locs lsA C hP hS hv)
theorem r_ishr {x y : Int32} (hd : decode F.2.1 pc = .ok (.ishr, 1)) (K : Rn G d F cv (pc + 1) ls (.int (x >>> (y &&& 31)) :: st) h o) : Rn G d F cv pc ls (.int y :: .int x :: st) h o :=
  fun r hr p l e s m args below meth c H locs lsA C hP hS hv => lv_ishr C.1 C.2.1 hd (K r hr p l e s m args below meth c H locs lsA C hP hS hv)
theorem r_goto {off : Int} {tgt : Nat} (hd : decode F.2.1 pc = .ok (.goto off, 3)) (ht : (pc : Int) + off = (tgt : Int)) (K : Rn G d F cv tgt ls st h o) : Rn G d F cv pc ls st h o :=
  fun r hr p l e s m args below meth c H locs lsA C hP hS hv => lv_goto C.1 C.2.1 hd ht (K r hr p l e s m args below meth c H locs lsA C hP hS hv)
end XR
section XB
variable {α : Type} {G : xG} {d : Nat} {F : xF} {cv : α → Option Value} {pc : Nat} {ls : List (Nat × Value)} {st : List Value} {h : Mem} {o1 o2 : Option (α × Mem)} {off : Int} {tgt : Nat} {x y : Int32}
theorem r_if_eq (hd : decode F.2.1 pc = .ok (.ifCond .eq off, 3)) (ht : (pc : Int) + off = (tgt : Int)) (K1 : Rn G d F cv tgt ls st h o1) (K2 : Rn G d F cv (pc + 3) ls st h o2) : Rn G d F cv pc ls (.int x :: st) h (if x = 0 then o1 else o2) :=
  fun r hr p l e s m args below meth c H locs lsA C hP hS hv => lv_if_eq C.1 C.2.1 hd ht (fun q => K1 r (by rw [if_pos q] at hr; exact hr) p l e s m args below meth c H locs lsA C hP hS hv) (fun q => K2 r (by rw [if_neg q] at hr; exact hr) p l e s m args below meth c H locs lsA C hP hS hv)
theorem r_if_ne (hd : decode F.2.1 pc = .ok (.ifCond .ne off, 3)) (ht : (pc : Int) + off = (tgt : Int)) (K1 : Rn G d F cv tgt ls st h o1) (K2 : Rn G d F cv (pc + 3) ls st h o2) : Rn G d F cv pc ls (.int x :: st) h (if x = 0 then o2 else o1) :=
  fun r hr p l e s m args below meth c H locs lsA C hP hS hv => lv_if_ne C.1 C.2.1 hd ht (fun q => K1 r (by rw [if_neg q] at hr; exact hr) p l e s m args below meth c H locs lsA C hP hS hv) (fun q => K2 r (by rw [if_pos q] at hr; exact hr) p l e s m args below meth c H locs lsA C hP hS hv)
theorem r_if_lt (hd : decode F.2.1 pc = .ok (.ifCond .lt off, 3)) (ht : (pc : Int) + off = (tgt : Int)) (K1 : Rn G d F cv tgt ls st h o1) (K2 : Rn G d F cv (pc + 3) ls st h o2) : Rn G d F cv pc ls (.int x :: st) h (if x < 0 then o1 else o2) :=
  fun r hr p l e s m args below meth c H locs lsA C hP hS hv => lv_if_lt C.1 C.2.1 hd ht (fun q => K1 r (by rw [if_pos q] at hr; exact hr) p l e s m args below meth c H locs lsA C hP hS hv) (fun q => K2 r (by rw [if_neg q] at hr; exact hr) p l e s m args below meth c H locs lsA C hP hS hv)
theorem r_if_ge (hd : decode F.2.1 pc = .ok (.ifCond .ge off, 3)) (ht : (pc : Int) + off = (tgt : Int)) (K1 : Rn G d F cv tgt ls st h o1) (K2 : Rn G d F cv (pc + 3) ls st h o2) : Rn G d F cv pc ls (.int x :: st) h (if 0 ≤ x then o1 else o2) :=
  fun r hr p l e s m args below meth c H locs lsA C hP hS hv => lv_if_ge C.1 C.2.1 hd ht (fun q => K1 r (by rw [if_pos q] at hr; exact hr) p l e s m args below meth c H locs lsA C hP hS hv) (fun q => K2 r (by rw [if_neg q] at hr; exact hr) p l e s m args below meth c H locs lsA C hP hS hv)
theorem r_if_gt (hd : decode F.2.1 pc = .ok (.ifCond .gt off, 3)) (ht : (pc : Int) + off = (tgt : Int)) (K1 : Rn G d F cv tgt ls st h o1) (K2 : Rn G d F cv (pc + 3) ls st h o2) : Rn G d F cv pc ls (.int x :: st) h (if 0 < x then o1 else o2) :=
  fun r hr p l e s m args below meth c H locs lsA C hP hS hv => lv_if_gt C.1 C.2.1 hd ht (fun q => K1 r (by rw [if_pos q] at hr; exact hr) p l e s m args below meth c H locs lsA C hP hS hv) (fun q => K2 r (by rw [if_neg q] at hr; exact hr) p l e s m args below meth c H locs lsA C hP hS hv)
theorem r_if_le (hd : decode F.2.1 pc = .ok (.ifCond .le off, 3)) (ht : (pc : Int) + off = (tgt : Int)) (K1 : Rn G d F cv tgt ls st h o1) (K2 : Rn G d F cv (pc + 3) ls st h o2) : Rn G d F cv pc ls (.int x :: st) h (if x ≤ 0 then o1 else o2) :=
  fun r hr p l e s m args below meth c H locs lsA C hP hS hv => lv_if_le C.1 C.2.1 hd ht (fun q => K1 r (by rw [if_pos q] at hr; exact hr) p l e s m args below meth c H locs lsA C hP hS hv) (fun q => K2 r (by rw [if_neg q] at hr; exact hr) p l e s m args below meth c H locs lsA C hP hS hv)
theorem r_ic_eq (hd : decode F.2.1 pc = .ok (.if_icmp .eq off, 3)) (ht : (pc : Int) + off = (tgt : Int)) (K1 : Rn G d F cv tgt ls st h o1) (K2 : Rn G d F cv (pc + 3) ls st h o2) : Rn G d F cv pc ls (.int y :: .int x :: st) h (if x = y then o1 else o2) :=
  fun r hr p l e s m args below meth c H locs lsA C hP hS hv => lv_icmp_eq C.1 C.2.1 hd ht (fun q => K1 r (by rw [if_pos q] at hr; exact hr) p l e s m args below meth c H locs lsA C hP hS hv) (fun q => K2 r (by rw [if_neg q] at hr; exact hr) p l e s m args below meth c H locs lsA C hP hS hv)
theorem r_ic_ne (hd : decode F.2.1 pc = .ok (.if_icmp .ne off, 3)) (ht : (pc : Int) + off = (tgt : Int)) (K1 : Rn G d F cv tgt ls st h o1) (K2 : Rn G d F cv (pc + 3) ls st h o2) : Rn G d F cv pc ls (.int y :: .int x :: st) h (if x = y then o2 else o1) :=
  fun r hr p l e s m args below meth c H locs lsA C hP hS hv => lv_icmp_ne C.1 C.2.1 hd ht (fun q => K1 r (by rw [if_neg q] at hr; exact hr) p l e s m args below meth c H locs lsA C hP hS hv) (fun q => K2 r (by rw [if_pos q] at hr; exact hr) p l e s m args below meth c H locs lsA C hP hS hv)
theorem r_ic_lt (hd : decode F.2.1 pc = .ok (.if_icmp .lt off, 3)) (ht : (pc : Int) + off = (tgt : Int)) (K1 : Rn G d F cv tgt ls st h o1) (K2 : Rn G d F cv (pc + 3) ls st h o2) : Rn G d F cv pc ls (.int y :: .int x :: st) h (if x < y then o1 else o2) :=
  fun r hr p l e s m args below meth c H locs lsA C hP hS hv => lv_icmp_lt C.1 C.2.1 hd ht (fun q => K1 r (by rw [if_pos q] at hr; exact hr) p l e s m args below meth c H locs lsA C hP hS hv) (fun q => K2 r (by rw [if_neg q] at hr; exact hr) p l e s m args below meth c H locs lsA C hP hS hv)
theorem r_ic_ge (hd : decode F.2.1 pc = .ok (.if_icmp .ge off, 3)) (ht : (pc : Int) + off = (tgt : Int)) (K1 : Rn G d F cv tgt ls st h o1) (K2 : Rn G d F cv (pc + 3) ls st h o2) : Rn G d F cv pc ls (.int y :: .int x :: st) h (if y ≤ x then o1 else o2) :=
  fun r hr p l e s m args below meth c H locs lsA C hP hS hv => lv_icmp_ge C.1 C.2.1 hd ht (fun q => K1 r (by rw [if_pos q] at hr; exact hr) p l e s m args below meth c H locs lsA C hP hS hv) (fun q => K2 r (by rw [if_neg q] at hr; exact hr) p l e s m args below meth c H locs lsA C hP hS hv)
theorem r_ic_gt (hd : decode F.2.1 pc = .ok (.if_icmp .gt off, 3)) (ht : (pc : Int) + off = (tgt : Int)) (K1 : Rn G d F cv tgt ls st h o1) (K2 : Rn G d F cv (pc + 3) ls st h o2) : Rn G d F cv pc ls (.int y :: .int x :: st) h (if y < x then o1 else o2) :=
  fun r hr p l e s m args below meth c H locs lsA C hP hS hv => lv_icmp_gt C.1 C.2.1 hd ht (fun q => K1 r (by rw [if_pos q] at hr; exact hr) p l e s m args below meth c H locs lsA C hP hS hv) (fun q => K2 r (by rw [if_neg q] at hr; exact hr) p l e s m args below meth c H locs lsA C hP hS hv)
theorem r_ic_le (hd : decode F.2.1 pc = .ok (.if_icmp .le off, 3)) (ht : (pc : Int) + off = (tgt : Int)) (K1 : Rn G d F cv tgt ls st h o1) (K2 : Rn G d F cv (pc + 3) ls st h o2) : Rn G d F cv pc ls (.int y :: .int x :: st) h (if x ≤ y then o1 else o2) :=
  fun r hr p l e s m args below meth c H locs lsA C hP hS hv => lv_icmp_le C.1 C.2.1 hd ht (fun q => K1 r (by rw [if_pos q] at hr; exact hr) p l e s m args below meth c H locs lsA C hP hS hv) (fun q => K2 r (by rw [if_neg q] at hr; exact hr) p l e s m args below meth c H locs lsA C hP hS hv)
end XB
