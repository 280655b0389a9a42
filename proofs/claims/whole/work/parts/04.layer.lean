/-! one judgement over cells by number: a method's code against a function of the state -/
abbrev xG : Type := (Nat → Nat) × va_G × (Nat → ClassId) × (Nat → Nat) × (Nat → Nat)
abbrev xF : Type := String × ByteArray × Nat × Option FieldType
def xfl (ad : Nat → Nat) (h : Mem) (k : Nat) : List Bool → Nat → List Value
  | [], _ => []
  | b :: bs, j => (if b = true then Value.ref (ad (xrf k j)) else Value.int (h k j)) :: xfl ad h k bs (j + 1)
theorem xfl_len (ad : Nat → Nat) (h : Mem) (k : Nat) : ∀ (bs : List Bool) (j : Nat), (xfl ad h k bs j).length = bs.length
  | [], _ => rfl
  | b :: bs, j => by simp [xfl, xfl_len ad h k bs (j + 1)]
theorem xfl_get (ad : Nat → Nat) (h : Mem) (k : Nat) : ∀ (bs : List Bool) (j i : Nat), (xfl ad h k bs j)[i]? = (bs[i]?).map (fun b => if b = true then Value.ref (ad (xrf k (j + i))) else Value.int (h k (j + i)))
  | [], _, _ => by simp [xfl]
  | b :: bs, j, 0 => by simp [xfl]
  | b :: bs, j, i + 1 => by
    have q := xfl_get ad h k bs (j + 1) i
    simp only [xfl, List.getElem?_cons_succ]
    rw [q, show j + 1 + i = j + (i + 1) from by omega]
def mu (h : Mem) (k j : Nat) (v : Int32) : Mem := fun a => if a = k then upd (h k) j v else h a
def mA (h : Mem) (k : Nat) (f : Nat → Int32) : Mem := fun a => if a = k then f else h a
theorem mu_mA (h : Mem) (k j : Nat) (v : Int32) : mu h k j v = mA h k (upd (h k) j v) := rfl
theorem mA_ne {h : Mem} {k : Nat} {f : Nat → Int32} {a : Nat} (q : a ≠ k) : mA h k f a = h a := if_neg q
theorem mA_eq {h : Mem} {k : Nat} {f : Nat → Int32} : mA h k f k = f := if_pos rfl
theorem mu_ne {h : Mem} {k j : Nat} {v : Int32} {a : Nat} (q : a ≠ k) : mu h k j v a = h a := if_neg q
theorem mu_eq {h : Mem} {k j : Nat} {v : Int32} : mu h k j v k = upd (h k) j v := if_pos rfl
def xE (G : xG) (h : Mem) (k : Nat) : va_E :=
  if xkd k < 8 then .inr (xkd k, xfl G.1 h k (xfs (xkd k)) 0)
  else if xkd k = 8 then .inl (G.2.2.1 0, xln k, .inl (h k))
  else if xkd k = 9 then .inl (G.2.2.1 1, xln k, .inl (h k))
  else if xkd k = 10 then .inl (G.2.2.1 2, xln k, .inr (.inr (.inr (.inr (fun j => some (G.1 (xrf k j)))))))
  else .inl (G.2.2.1 3, xln k, .inr (.inr (.inr (.inr (fun j => some (G.1 (xrf k j)))))))
def xwl (G : xG) (h : Mem) : va_W := (List.range xNC).map (fun k => (G.1 k, xE G h k))
theorem xwl_get (G : xG) (h : Mem) {k : Nat} (hk : k < xNC) : (xwl G h)[k]? = some (G.1 k, xE G h k) := by
  simp [xwl, hk]
theorem xwl_set (G : xG) (h h' : Mem) {k : Nat} (hk : k < xNC) (hh : ∀ a, a ≠ k → h' a = h a) {e : va_E} (he : e = xE G h' k) : (xwl G h).set k (G.1 k, e) = xwl G h' := by
  subst he
  apply List.ext_getElem?
  intro i
  by_cases hi : i = k
  · subst hi
    rw [List.getElem?_set_self (by simpa [xwl] using hk), xwl_get G h' hk]
  · rw [List.getElem?_set_ne (Ne.symm hi)]
    by_cases hn : i < xNC
    · rw [xwl_get G h hn, xwl_get G h' hn]
      have q : h' i = h i := hh i hi
      have e2 : ∀ bs j, xfl G.1 h' i bs j = xfl G.1 h i bs j := by
        intro bs
        induction bs with
        | nil => intro j; rfl
        | cons b bs ih => intro j; simp [xfl, q, ih]
      simp [xE, q, e2]
    · simp [xwl, hn]
def xtys (G : xG) : List (ClassId × FieldType) := [(G.2.2.1 0, .int), (G.2.2.1 1, .boolean), (G.2.2.1 2, .object "WildLevels$Client"), (G.2.2.1 3, .object "WildLevels$World")]
def xA (G : xG) : Nat → Prop := fun q => ∃ k, k < xNC ∧ q = G.1 k
def xInj (G : xG) : Prop := ∀ i j, i < xNC → j < xNC → G.1 i = G.1 j → i = j
theorem xwl_D {G : xG} (hi : xInj G) (h : Mem) : va_D (xA G) (xwl G h) := by
  have key : ∀ (k : Nat) (q : Nat × va_E), (xwl G h)[k]? = some q → k < xNC ∧ q.1 = G.1 k := by
    intro k q hq
    by_cases hn : k < xNC
    · rw [xwl_get G h hn] at hq
      cases hq
      exact ⟨hn, rfl⟩
    · simp [xwl, hn] at hq
  refine ⟨fun i j p q h1 h2 h3 => ?_, fun k q hq => ⟨k, key k q hq⟩⟩
  obtain ⟨a1, a2⟩ := key i p h1
  obtain ⟨b1, b2⟩ := key j q h2
  exact hi i j a1 b1 (by rw [← a2, ← b2, h3])
def xsl : List Nat := [3, 4]
def xsb : List (List Int32) := [[115, 117, 98], [107, 101, 112, 116]]
/-- the two String constants of the reader -/
def xStr (G : xG) (U : State) : Prop := vk_S 2 xsl xsb G.2.2.2.1 G.2.2.2.2 (xA G) U U.heap ∧ vk_R "WildLevels$Reader" 47 "sub" (G.2.2.2.1 0) U ∧ vk_R "WildLevels$Reader" 56 "kept" (G.2.2.2.1 1) U ∧ va_Z "java/lang/String" "COMPACT_STRINGS" "Z" (.int 1) (xA G) U U.heap ∧ va_Zq "jdk/internal/util/Preconditions" "SIOOBE_FORMATTER" "Ljava/util/function/BiFunction;" (xA G) U U.heap
def xNest (U : State) : Prop := ∀ w ∈ xnest, va_Nw w U
theorem xNest.warm {s U : State} (hW : s.WarmedH U.vm) (h : xNest s) : xNest U := by
  intro w hw
  have h1 := h w hw
  have h2 := (List.mem_filter.mp hw).2
  match w, h1, h2 with
  | .fieldLinkNest .., h1, _ => exact va_Nw.warmF hW h1
  | .methodLinkNest .., h1, _ => exact va_Nw.warmM hW h1
theorem xNest.same {u U : State} (hv : u.vm = U.vm) (h : xNest u) : xNest U := by
  intro w hw
  have h1 := h w hw
  have h2 := (List.mem_filter.mp hw).2
  match w, h1, h2 with
  | .fieldLinkNest .., h1, _ => exact va_Nw.same rfl hv h1
  | .methodLinkNest .., h1, _ => exact va_Nw.same rfl hv h1
theorem xStr.warm {G : xG} {s U : State} (hW : s.WarmedH U.vm) (hk : ∀ a : Nat, a < s.heap.size → ¬ xA G a → U.heap[a]? = s.heap[a]?) (h : xStr G s) : xStr G U := by
  obtain ⟨h1, h2, h3, h4, h5⟩ := h
  exact ⟨(h1.moved hW.alike).kept hk, h2.warm hW, h3.warm hW, (h4.moved hW.alike).kept hk, (h5.moved hW.alike).kept hk⟩
theorem xStr.same {G : xG} {u U : State} (hv : u.vm = U.vm) (hh : u.heap = U.heap) (h : xStr G u) : xStr G U := by
  obtain ⟨h1, h2, h3, h4, h5⟩ := h
  have al : u.vm.Alike U.vm := by rw [hv]; exact Vm.Alike.refl U.vm
  refine ⟨?_, h2.same hv.symm, h3.same hv.symm, ?_, ?_⟩
  · rw [← hh]
    exact h1.moved al
  · rw [← hh]
    exact h4.moved al
  · rw [← hh]
    exact h5.moved al
def xPx (G : xG) (as : List Value) (h : Mem) : Array Value → State → Prop := fun a U => a = as.toArray ∧ va_P G.2.1 vwCl (xwl G h) U.heap ∧ va_K G.2.1 vwCl (xtys G) U ∧ xNest U ∧ xStr G U ∧ xInj G
def xQx {α : Type} (G : xG) (cv : α → Option Value) (r : α × Mem) : Array Value → State → Outcome → State → Prop := fun _ st o t => o = .returned (cv r.1) ∧ va_P G.2.1 vwCl (xwl G r.2) t.heap ∧ va_F (xA G) st t
def xrm (d : Nat) : Room := { frames := d, cells := 0, slots := 0, locals := 40 * d }
def xCx (G : xG) (F : xF) (p : Program) (s : State) (m : MethodId) (args : Array Value) (meth : Method) (c : Code) : Prop :=
  p.tables.exec = Jvm.exec ∧ c.code = F.2.1 ∧ meth.sig.returnType = F.2.2.2 ∧ c.maxLocals = F.2.2.1 ∧ s.vm.findClass F.1 = some m.cls ∧ (∀ w ∈ xgt, w.before args s = true) ∧ xNest s ∧ meth.locks = false ∧ va_K G.2.1 vwCl (xtys G) s ∧ xInj G ∧ xStr G s
/-- the code at pc, with these locals and this stack, in state h, comes to what o says -/
def Rn {α : Type} (G : xG) (d : Nat) (F : xF) (cv : α → Option Value) (pc : Nat) (ls : List (Nat × Value)) (st : List Value) (h : Mem) (o : Option (α × Mem)) : Prop :=
  ∀ r : α × Mem, o = some r → ∀ (p : Program) (l : Launch) (e : Env) (s : State) (m : MethodId) (args : Array Value) (below : List Frame) (meth : Method) (c : Code) (H : Heap) (locs : List Loc) (lsA : Array Slot),
    xCx G F p s m args meth c → va_P G.2.1 vwCl (xwl G h) H → va_S (xA G) s.heap H locs → lv_has lsA F.2.2.1 ls →
    W p l e (xrm d) s m args below meth c H locs 0 0 (MQ below (xQx G cv r) args s 0 0 (xA G)) (F0 m pc lsA st)
/-- a method's contract -/
def Sm {α : Type} (G : xG) (d : Nat) (y : MethodName) (F : xF) (cv : α → Option Value) (as : List Value) (h : Mem) (o : Option (α × Mem)) : Prop :=
  ∀ r : α × Mem, o = some r → ∀ l : Launch, Met l y (.code y F.2.1 F.2.2.1 F.2.2.2 :: xgt) (xrm d) (xPx G as h) (xQx G cv r) 0 0 (xA G)
theorem Sm.of {α : Type} {G : xG} {d : Nat} {y : MethodName} {F : xF} {cv : α → Option Value} {as : List Value} {h : Mem} {o : Option (α × Mem)} {ls : List (Nat × Value)}
    (hy : plainName y.cls = true) (hF : y.cls = F.1) (hn : (lg_sl as).length ≤ F.2.2.1) (hl : lv_args 0 as = ls) (K : Rn G d F cv 0 ls [] h o) : Sm G d y F cv as h o := by
  intro r hr l
  refine Met.ofW (cc := F.2.1) (maxL := F.2.2.1) (ret := F.2.2.2) hy rfl ?_
  intro p e s m args below meth c s₁ B hml hv
  obtain ⟨rfl, hP, hK, hN, hSt, hI⟩ := hv
  have hts := atoms_spec (ws := .code y F.2.1 F.2.2.1 F.2.2.2 :: xgt) B.pre
  have hown : s.vm.findClass F.1 = some m.cls := by rw [← hF]; exact findClass_of_methodNamed B.named
  rw [lg_entry_eq]
  have hle := lv_entry as hn
  rw [hl] at hle
  exact K r hr p l e s m as.toArray below meth c s.heap [] _ ⟨B.exec, B.bytes, B.returns, hml, hown, fun w hw => hts w (List.mem_cons_of_mem _ hw), hN, B.notSynchronized, hK, hI, hSt⟩ hP va_S.rf hle
theorem Rn.none {α : Type} {G : xG} {d : Nat} {F : xF} {cv : α → Option Value} {pc : Nat} {ls : List (Nat × Value)} {st : List Value} {h : Mem} : Rn G d F cv pc ls st h (none : Option (α × Mem)) := fun r hr => by cases hr
