def mlet {β : Type} (h : Mem) (k : Mem → Option β) : Option β := k h
/-- enough turns for any loop -/
def xFU : Nat := 20000
section XM
variable {α : Type} {G : xG} {d : Nat} {F : xF} {cv : α → Option Value} {pc : Nat} {ls : List (Nat × Value)} {st : List Value} {h : Mem} {o : Option (α × Mem)}
theorem r_mem {kk : Mem → Option (α × Mem)} (K : ∀ h1, Rn G d F cv pc ls st h1 (kk h1)) : Rn G d F cv pc ls st h (mlet h kk) := K h
theorem r_iincC {i place : Nat} {n : Int} {x w : Int32} {ls' : List (Nat × Value)} (hd : decode F.2.1 pc = .ok (.iinc i n, 3)) (hp : ls[place]? = some (i, .int x)) (hw : Int32.ofInt n = w) (hn : i < F.2.2.1) (hl : (i, Value.int (x + w)) :: ls.filter (fun q => !(q.1 == i) && !(q.1 + 1 == i && q.2.category == 2)) = ls') (K : Rn G d F cv (pc + 3) ls' st h o) : Rn G d F cv pc ls st h o :=
  r_iinc hd hp (by rw [hw]) hn hl K
end XM
section XC
variable {α : Type} {G : xG} {d d' : Nat} {F Fy : xF} {cv : α → Option Value} {pc idx n k ci N : Nat} {T : u_T} {y : MethodName} {ls : List (Nat × Value)} {st rest As : List Value} {h : Mem}
theorem r_callVI {oy : Option (Int32 × Mem)} {kk : Int32 → Mem → Option (α × Mem)} (hd : decode F.2.1 pc = .ok (.invokevirtual idx, 3)) (hm : xMI y Fy n) (hl : xLk F.1 idx y) (hc : vwCl[ci]? = some (y.cls, T, N)) (hci : ci < 8) (ht : xTy k ci) (S : Sm G d' y Fy xcI (.ref (G.1 k) :: As) h oy) (hdd : d' + 1 ≤ d) (hn : As.length = n) (hst : st = As.reverse ++ .ref (G.1 k) :: rest) (hW : (rest.map fun v => v.category).sum ≤ 8)
    (K : ∀ v h1, Rn G d F cv (pc + 3) ls (.int v :: rest) h1 (kk v h1)) : Rn G d F cv pc ls st h (b2 oy kk) := r_callV hd hm hl hc hci ht S hdd hn hst hW K
theorem r_callVV {oy : Option (Unit × Mem)} {kk : Unit → Mem → Option (α × Mem)} (hd : decode F.2.1 pc = .ok (.invokevirtual idx, 3)) (hm : xMI y Fy n) (hl : xLk F.1 idx y) (hc : vwCl[ci]? = some (y.cls, T, N)) (hci : ci < 8) (ht : xTy k ci) (S : Sm G d' y Fy xcV (.ref (G.1 k) :: As) h oy) (hdd : d' + 1 ≤ d) (hn : As.length = n) (hst : st = As.reverse ++ .ref (G.1 k) :: rest) (hW : (rest.map fun v => v.category).sum ≤ 8)
    (K : ∀ h1, Rn G d F cv (pc + 3) ls rest h1 (kk () h1)) : Rn G d F cv pc ls st h (b2 oy kk) := r_callV hd hm hl hc hci ht S hdd hn hst hW (fun _ h1 => K h1)
theorem r_callVR {oy : Option (Nat × Mem)} {kk : Nat → Mem → Option (α × Mem)} (hd : decode F.2.1 pc = .ok (.invokevirtual idx, 3)) (hm : xMI y Fy n) (hl : xLk F.1 idx y) (hc : vwCl[ci]? = some (y.cls, T, N)) (hci : ci < 8) (ht : xTy k ci) (S : Sm G d' y Fy (xcR G) (.ref (G.1 k) :: As) h oy) (hdd : d' + 1 ≤ d) (hn : As.length = n) (hst : st = As.reverse ++ .ref (G.1 k) :: rest) (hW : (rest.map fun v => v.category).sum ≤ 8)
    (K : ∀ v h1, Rn G d F cv (pc + 3) ls (.ref (G.1 v) :: rest) h1 (kk v h1)) : Rn G d F cv pc ls st h (b2 oy kk) := r_callV hd hm hl hc hci ht S hdd hn hst hW K
theorem r_callSI {oy : Option (Int32 × Mem)} {kk : Int32 → Mem → Option (α × Mem)} (hd : decode F.2.1 pc = .ok (.invokestatic idx, 3)) (hm : xMS y Fy n) (hl : xLk F.1 idx y) (S : Sm G d' y Fy xcI As h oy) (hdd : d' + 1 ≤ d) (hn : As.length = n) (hst : st = As.reverse ++ rest) (hW : (rest.map fun v => v.category).sum ≤ 8)
    (K : ∀ v h1, Rn G d F cv (pc + 3) ls (.int v :: rest) h1 (kk v h1)) : Rn G d F cv pc ls st h (b2 oy kk) := r_callS hd hm hl S hdd hn hst hW K
theorem r_callSV {oy : Option (Unit × Mem)} {kk : Unit → Mem → Option (α × Mem)} (hd : decode F.2.1 pc = .ok (.invokestatic idx, 3)) (hm : xMS y Fy n) (hl : xLk F.1 idx y) (S : Sm G d' y Fy xcV As h oy) (hdd : d' + 1 ≤ d) (hn : As.length = n) (hst : st = As.reverse ++ rest) (hW : (rest.map fun v => v.category).sum ≤ 8)
    (K : ∀ h1, Rn G d F cv (pc + 3) ls rest h1 (kk () h1)) : Rn G d F cv pc ls st h (b2 oy kk) := r_callS hd hm hl S hdd hn hst hW (fun _ h1 => K h1)
end XC
