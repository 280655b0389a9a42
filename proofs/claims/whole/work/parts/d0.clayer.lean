/-! constructors: cells are made in the order of their numbers, from the address G.1 0 on -/
def Gz (G : xG) : Prop := ∀ k, G.1 k = G.1 0 + k
def PW (G : xG) (n : Nat) (E : Nat → va_E) (H : Heap) : Prop := H.size = G.1 0 + n ∧ ∀ k, k < n → va_at G.2.1 vwCl (G.1 0 + k, E k) H
def fe (E : Nat → va_E) (k : Nat) (e : va_E) : Nat → va_E := fun a => if a = k then e else E a
theorem fe_eq {E : Nat → va_E} {k : Nat} {e : va_E} : fe E k e k = e := if_pos rfl
theorem fe_ne {E : Nat → va_E} {k a : Nat} {e : va_E} (h : a ≠ k) : fe E k e a = E a := if_neg h
theorem PW.cgr {G : xG} {n : Nat} {E E' : Nat → va_E} {H : Heap} (h : PW G n E H) (e : ∀ k, k < n → E' k = E k) : PW G n E' H := ⟨h.1, fun k hk => by rw [e k hk]; exact h.2 k hk⟩
theorem PW.put {G : xG} {n k : Nat} {E : Nat → va_E} {H H' : Heap} {x : va_E} (P : PW G n E H) (z : H'.size = H.size) (o : ∀ q, q ≠ G.1 0 + k → H'[q]? = H[q]?) (a : va_at G.2.1 vwCl (G.1 0 + k, x) H') : PW G n (fe E k x) H' := by
  refine ⟨by rw [z]; exact P.1, fun j hj => ?_⟩
  by_cases e : j = k
  · rw [e, fe_eq]
    exact a
  · rw [fe_ne e]
    exact (P.2 j hj).kept (o _ (by show G.1 0 + j ≠ _; omega))
theorem PW.push {G : xG} {n : Nat} {E : Nat → va_E} {H H' : Heap} {x : va_E} (P : PW G n E H) (z : H'.size = H.size + 1) (o : ∀ q, q < H.size → H'[q]? = H[q]?) (a : va_at G.2.1 vwCl (G.1 0 + n, x) H') : PW G (n + 1) (fe E n x) H' := by
  have z0 := P.1
  refine ⟨by omega, fun j hj => ?_⟩
  by_cases e : j = n
  · rw [e, fe_eq]
    exact a
  · rw [fe_ne e]
    exact (P.2 j (by omega)).kept (o _ (by show G.1 0 + j < _; omega))
def pwl (G : xG) (n : Nat) (E : Nat → va_E) : va_W := (List.range n).map (fun k => (G.1 0 + k, E k))
theorem pwl_get {G : xG} {n k : Nat} {E : Nat → va_E} (hk : k < n) : (pwl G n E)[k]? = some (G.1 0 + k, E k) := by simp [pwl, hk]
theorem PW.P {G : xG} {n : Nat} {E : Nat → va_E} {H : Heap} (P : PW G n E H) : va_P G.2.1 vwCl (pwl G n E) H := by
  intro k q hq
  by_cases hk : k < n
  · rw [pwl_get hk] at hq
    cases hq
    exact P.2 k hk
  · simp [pwl, hk] at hq
def zA (G : xG) : Nat → Prop := fun q => G.1 0 ≤ q
def AO2 (U : State) : Prop := va_AO "WildLevels$Client" U ∧ va_AO "WildLevels$World" U
def xrk (d mc ms : Nat) : Room := { frames := d, cells := mc, slots := ms, locals := 40 * d }
def Pk (G : xG) (as : List Value) (n : Nat) (E : Nat → va_E) : Array Value → State → Prop := fun a U => a = as.toArray ∧ PW G n E U.heap ∧ va_K G.2.1 vwCl (xtys G) U ∧ xNest U ∧ xStr G U ∧ AO2 U ∧ Gz G ∧ n ≤ 405
def PWq (G : xG) (n : Nat) (E : Nat → va_E) (H : Heap) : Prop := (n < 405 → H.size = G.1 0 + n) ∧ ∀ k, k < n → va_at G.2.1 vwCl (G.1 0 + k, E k) H
theorem PW.q {G : xG} {n : Nat} {E : Nat → va_E} {H : Heap} (h : PW G n E H) : PWq G n E H := ⟨fun _ => h.1, h.2⟩
theorem PWq.p {G : xG} {n : Nat} {E : Nat → va_E} {H : Heap} (h : PWq G n E H) (hn : n < 405) : PW G n E H := ⟨h.1 hn, h.2⟩
def Qk (G : xG) (n : Nat) (E : Nat → va_E) : Array Value → State → Outcome → State → Prop := fun _ st o t => o = .returned none ∧ PWq G n E t.heap ∧ va_F (zA G) st t
def Kc (G : xG) (F : xF) (p : Program) (s : State) (m : MethodId) (args : Array Value) (meth : Method) (c : Code) : Prop :=
  p.tables.exec = Jvm.exec ∧ c.code = F.2.1 ∧ meth.sig.returnType = none ∧ c.maxLocals = F.2.2.1 ∧ s.vm.findClass F.1 = some m.cls ∧ (∀ w ∈ xgt, w.before args s = true) ∧ xNest s ∧ meth.locks = false ∧ va_K G.2.1 vwCl (xtys G) s ∧ xStr G s ∧ AO2 s ∧ Gz G ∧ meth.name = "<init>" ∧ G.1 0 ≤ s.heap.size ∧ s.heap.size ≤ G.1 0 + 405
/-- the constructor's code at pc, with n cells made that are E, comes to n1 cells that are E1 -/
def Rk (G : xG) (d mc ms : Nat) (F : xF) (n1 : Nat) (E1 : Nat → va_E) (ce sl pc : Nat) (ls : List (Nat × Value)) (st : List Value) (n : Nat) (E : Nat → va_E) : Prop :=
  ∀ (p : Program) (l : Launch) (e : Env) (s : State) (m : MethodId) (args : Array Value) (below : List Frame) (meth : Method) (c : Code) (H : Heap) (locs : List Loc) (lsA : Array Slot),
    Kc G F p s m args meth c → PW G n E H → va_S (zA G) s.heap H locs → lv_has lsA F.2.2.1 ls →
    W p l e (xrk d mc ms) s m args below meth c H locs ce sl (MQ below (Qk G n1 E1) args s mc ms (zA G)) (F0 m pc lsA st)
def Sk (G : xG) (d mc ms : Nat) (y : MethodName) (F : xF) (as : List Value) (n : Nat) (E : Nat → va_E) (n1 : Nat) (E1 : Nat → va_E) : Prop :=
  ∀ l : Launch, Met l y (.code y F.2.1 F.2.2.1 F.2.2.2 :: xgt) (xrk d mc ms) (Pk G as n E) (Qk G n1 E1) mc ms (zA G)
theorem Sk.of {G : xG} {d mc ms : Nat} {y : MethodName} {F : xF} {as : List Value} {n n1 : Nat} {E E1 : Nat → va_E} {ls : List (Nat × Value)}
    (hy : plainName y.cls = true) (hF : y.cls = F.1) (hi : y.name = "<init>") (hr : F.2.2.2 = none) (hn : (lg_sl as).length ≤ F.2.2.1) (hl : lv_args 0 as = ls) (K : Gz G → Rk G d mc ms F n1 E1 0 0 0 ls [] n E) : Sk G d mc ms y F as n E n1 E1 := by
  intro l
  refine Met.ofW (cc := F.2.1) (maxL := F.2.2.1) (ret := F.2.2.2) hy rfl ?_
  intro p e s m args below meth c s₁ B hml hv
  obtain ⟨rfl, hP, hK, hN, hSt, hO, hz, h405⟩ := hv
  have hts := atoms_spec (ws := .code y F.2.1 F.2.2.1 F.2.2.2 :: xgt) B.pre
  have hown : s.vm.findClass F.1 = some m.cls := by rw [← hF]; exact findClass_of_methodNamed B.named
  have hin : meth.name = "<init>" := (name_of_methodNamed B.named B.method).1.trans hi
  rw [lg_entry_eq]
  have hle := lv_entry as hn
  rw [hl] at hle
  have z0 := hP.1
  exact K hz p l e s m as.toArray below meth c s.heap [] _ ⟨B.exec, B.bytes, B.returns.trans hr, hml, hown, fun w hw => hts w (List.mem_cons_of_mem _ hw), hN, B.notSynchronized, hK, hSt, hO, hz, hin, by omega, by omega⟩ hP va_S.rf hle
theorem Pk_blind {G : xG} {as : List Value} {n : Nat} {E : Nat → va_E} : FrameBlind (Pk G as n E) := by
  intro a U g mk q
  obtain ⟨q0, q1, q2, q3, q4, q5, q6⟩ := q
  exact ⟨q0, q1, va_K.moved (u := U) (U := U.calling g mk a) (Vm.Alike.refl U.vm) q2, xNest.same (u := U) rfl q3, xStr.same (u := U) rfl rfl q4, ⟨va_AO.moved (u := U) (U := U.calling g mk a) (Vm.Alike.refl U.vm) q5.1, va_AO.moved (u := U) (U := U.calling g mk a) (Vm.Alike.refl U.vm) q5.2⟩, q6⟩
theorem xA_of {G : xG} (hz : Gz G) {q : Nat} (h1 : G.1 0 ≤ q) (h2 : q < G.1 0 + 405) : xA G q := ⟨q - G.1 0, by show _ < 405; omega, by rw [hz]; omega⟩
section XK
variable {G : xG} {d mc ms n1 ce sl pc n : Nat} {F : xF} {E E1 : Nat → va_E} {ls : List (Nat × Value)} {st : List Value}
theorem k_cgr {E' : Nat → va_E} (e : ∀ k, k < n → E' k = E k) (K : Rk G d mc ms F n1 E1 ce sl pc ls st n E') : Rk G d mc ms F n1 E1 ce sl pc ls st n E :=
  fun p l e' s m args below meth c H locs lsA C hP hS hv => K p l e' s m args below meth c H locs lsA C (hP.cgr e) hS hv
theorem k_gz (K : Gz G → Rk G d mc ms F n1 E1 ce sl pc ls st n E) : Rk G d mc ms F n1 E1 ce sl pc ls st n E :=
  fun p l e' s m args below meth c H locs lsA C hP hS hv => K C.2.2.2.2.2.2.2.2.2.2.2.1 p l e' s m args below meth c H locs lsA C hP hS hv
theorem k_al {k : Fin 4} {i place x : Nat} (hd : decode F.2.1 pc = .ok (.aload_n k, 1)) (hi : (k : Nat) = i) (hp : ls[place]? = some (i, .ref x)) (K : Rk G d mc ms F n1 E1 ce sl (pc + 1) ls (.ref x :: st) n E) : Rk G d mc ms F n1 E1 ce sl pc ls st n E :=
  fun p l e s m args below meth c H locs lsA C hP hS hv => lv_aload_n C.1 C.2.1 hd hi (lv_at hv place hp) (K p l e s m args below meth c H locs lsA C hP hS hv)
theorem k_il {k : Fin 4} {i place : Nat} {x : Int32} (hd : decode F.2.1 pc = .ok (.iload_n k, 1)) (hi : (k : Nat) = i) (hp : ls[place]? = some (i, .int x)) (K : Rk G d mc ms F n1 E1 ce sl (pc + 1) ls (.int x :: st) n E) : Rk G d mc ms F n1 E1 ce sl pc ls st n E :=
  fun p l e s m args below meth c H locs lsA C hP hS hv => lv_iload_n C.1 C.2.1 hd hi (lv_at hv place hp) (K p l e s m args below meth c H locs lsA C hP hS hv)
theorem k_ic {k : Int} {v : Int32} (hd : decode F.2.1 pc = .ok (.iconst k, 1)) (hn : Int32.ofInt k = v) (K : Rk G d mc ms F n1 E1 ce sl (pc + 1) ls (.int v :: st) n E) : Rk G d mc ms F n1 E1 ce sl pc ls st n E :=
  fun p l e s m args below meth c H locs lsA C hP hS hv => lv_iconst C.1 C.2.1 hd hn (K p l e s m args below meth c H locs lsA C hP hS hv)
theorem k_bi {k : Int} {v : Int32} (hd : decode F.2.1 pc = .ok (.bipush k, 2)) (hn : (Int8.ofInt k).toInt32 = v) (K : Rk G d mc ms F n1 E1 ce sl (pc + 2) ls (.int v :: st) n E) : Rk G d mc ms F n1 E1 ce sl pc ls st n E :=
  fun p l e s m args below meth c H locs lsA C hP hS hv => lv_bipush C.1 C.2.1 hd hn (K p l e s m args below meth c H locs lsA C hP hS hv)
theorem k_si {k : Int} {v : Int32} (hd : decode F.2.1 pc = .ok (.sipush k, 3)) (hn : (Int16.ofInt k).toInt32 = v) (K : Rk G d mc ms F n1 E1 ce sl (pc + 3) ls (.int v :: st) n E) : Rk G d mc ms F n1 E1 ce sl pc ls st n E :=
  fun p l e s m args below meth c H locs lsA C hP hS hv => lv_sipush C.1 C.2.1 hd hn (K p l e s m args below meth c H locs lsA C hP hS hv)
theorem k_dup {v : Value} (hd : decode F.2.1 pc = .ok (.dup, 1)) (hc : v.category = 1) (K : Rk G d mc ms F n1 E1 ce sl (pc + 1) ls (v :: v :: st) n E) : Rk G d mc ms F n1 E1 ce sl pc ls (v :: st) n E :=
  fun p l e s m args below meth c H locs lsA C hP hS hv => lv_dup C.1 C.2.1 hd hc (K p l e s m args below meth c H locs lsA C hP hS hv)
theorem k_mul {x y : Int32} (hd : decode F.2.1 pc = .ok (.imul, 1)) (K : Rk G d mc ms F n1 E1 ce sl (pc + 1) ls (.int (x * y) :: st) n E) : Rk G d mc ms F n1 E1 ce sl pc ls (.int y :: .int x :: st) n E :=
  fun p l e s m args below meth c H locs lsA C hP hS hv => lv_imul C.1 C.2.1 hd (K p l e s m args below meth c H locs lsA C hP hS hv)
theorem k_ist {k : Fin 4} {i : Nat} {x : Int32} {ls' : List (Nat × Value)} (hd : decode F.2.1 pc = .ok (.istore_n k, 1)) (hi : (k : Nat) = i) (hn : i < F.2.2.1) (hl : (i, Value.int x) :: ls.filter (fun q => !(q.1 == i) && !(q.1 + 1 == i && q.2.category == 2)) = ls') (K : Rk G d mc ms F n1 E1 ce sl (pc + 1) ls' st n E) : Rk G d mc ms F n1 E1 ce sl pc ls (.int x :: st) n E :=
  fun p l e s m args below meth c H locs lsA C hP hS hv => lv_istore_n C.1 C.2.1 hd hi hv hn hl (fun lsB hv => K p l e s m args below meth c H locs lsB C hP hS hv)
theorem k_inc {i place : Nat} {k : Int} {x v : Int32} {ls' : List (Nat × Value)} (hd : decode F.2.1 pc = .ok (.iinc i k, 3)) (hp : ls[place]? = some (i, .int x)) (hv1 : x + Int32.ofInt k = v) (hn : i < F.2.2.1) (hl : (i, Value.int v) :: ls.filter (fun q => !(q.1 == i) && !(q.1 + 1 == i && q.2.category == 2)) = ls') (K : Rk G d mc ms F n1 E1 ce sl (pc + 3) ls' st n E) : Rk G d mc ms F n1 E1 ce sl pc ls st n E :=
  fun p l e s m args below meth c H locs lsA C hP hS hv => lv_iinc C.1 C.2.1 hd hv hp hv1 hn hl (fun lsB hv => K p l e s m args below meth c H locs lsB C hP hS hv)
theorem k_go {off : Int} {tgt : Nat} (hd : decode F.2.1 pc = .ok (.goto off, 3)) (ht : (pc : Int) + off = (tgt : Int)) (K : Rk G d mc ms F n1 E1 ce sl tgt ls st n E) : Rk G d mc ms F n1 E1 ce sl pc ls st n E :=
  fun p l e s m args below meth c H locs lsA C hP hS hv => lv_goto C.1 C.2.1 hd ht (K p l e s m args below meth c H locs lsA C hP hS hv)
theorem k_ge {x y : Int32} {off : Int} {tgt : Nat} (hd : decode F.2.1 pc = .ok (.if_icmp .ge off, 3)) (ht : (pc : Int) + off = (tgt : Int)) (K1 : y ≤ x → Rk G d mc ms F n1 E1 ce sl tgt ls st n E) (K2 : ¬ y ≤ x → Rk G d mc ms F n1 E1 ce sl (pc + 3) ls st n E) : Rk G d mc ms F n1 E1 ce sl pc ls (.int y :: .int x :: st) n E :=
  fun p l e s m args below meth c H locs lsA C hP hS hv => lv_icmp_ge C.1 C.2.1 hd ht (fun q => K1 q p l e s m args below meth c H locs lsA C hP hS hv) (fun q => K2 q p l e s m args below meth c H locs lsA C hP hS hv)
theorem k_sub {ls' : List (Nat × Value)} (ks : List Nat) (hl : lv_pick ls ks = ls') (K : Rk G d mc ms F n1 E1 ce sl pc ls' st n E) : Rk G d mc ms F n1 E1 ce sl pc ls st n E :=
  fun p l e s m args below meth c H locs lsA C hP hS hv => K p l e s m args below meth c H locs lsA C hP hS (lv_sub hv ks hl)
theorem k_max {idx : Nat} {x y : Int32} (hd : decode F.2.1 pc = .ok (.invokestatic idx, 3)) (hw : xMax F.1 idx) (hdd : 1 ≤ d) (hr0 : (st.map fun v => v.category).sum ≤ 8) (hce : ce ≤ mc) (hsl : sl ≤ ms) (K : Rk G d mc ms F n1 E1 ce sl (pc + 3) ls (.int (xmax x y) :: st) n E) : Rk G d mc ms F n1 E1 ce sl pc ls (.int y :: .int x :: st) n E := by
  intro p l e s m args below meth c H locs lsA C hP hS hv
  obtain ⟨hx, hcb, -, hml, hown, hts, -⟩ := id C
  exact va_mmax hx hcb (hml.trans hv.1.symm) hown (hts _ hw.1) (hts _ hw.2.1) (hts _ hw.2.2.1) (hts _ hw.2.2.2) hdd (by show _ ≤ 40 * d; omega) hce hsl hd (K p l e s m args below meth c H locs lsA C hP hS hv)
def xOb (own : String) (idx : Nat) : Prop := Cond.methodLink own idx Lib.objectInit ∈ xgt ∧ Cond.instanceMethod Lib.objectInit ∈ xgt ∧ Cond.code Lib.objectInit ⟨#[0xb1]⟩ 1 none ∈ xgt
theorem k_obj {idx x : Nat} (hd : decode F.2.1 pc = .ok (.invokespecial idx, 3)) (hw : xOb F.1 idx) (hdd : 1 ≤ d) (hr0 : (st.map fun v => v.category).sum ≤ 8) (K : Rk G d mc ms F n1 E1 ce sl (pc + 3) ls st n E) : Rk G d mc ms F n1 E1 ce sl pc ls (.ref x :: st) n E := by
  intro p l e s m args below meth c H locs lsA C hP hS hv
  obtain ⟨hx, hcb, -, hml, hown, hts, -⟩ := id C
  refine W.objInit hx hcb hown (hts _ hw.1) (hts _ hw.2.1) (hts _ hw.2.2) rfl (by rw [hml]; exact hv.1) rfl hd hdd ?_ ?_
  · have q := @lv_room m pc lsA (.ref x :: st) st hr0
    show _ ≤ 40 * d
    omega
  · exact W.eq (g2 := F0 m (pc + 3) lsA st) rfl (K p l e s m args below meth c H locs lsA C hP hS hv)
theorem k_ret (hd : decode F.2.1 pc = .ok (.return_, 1)) (hce : ce = mc) (hsl : sl = ms) (e : ∀ k, k < n1 → E1 k = E k) (hn : n = n1) : Rk G d mc ms F n1 E1 ce sl pc ls [] n E := by
  intro p l e' s m args below meth c H locs lsA C hP hS hv
  subst hce
  subst hsl
  subst hn
  have hlocks := C.2.2.2.2.2.2.2.1
  exact W.vret C.1 C.2.1 C.2.2.1 (fun t ht _ => ⟨rfl, by rw [ht]; exact (hP.cgr e).q, hS.F ht⟩) hS.2.2 hd hlocks
end XK
