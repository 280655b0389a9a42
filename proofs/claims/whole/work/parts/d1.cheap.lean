/-! constructors: rows for fields, arrays, new objects, calls -/
def xFQ (own : String) (idx ci j : Nat) (ty : FieldType) : Prop := ∃ (C : String) (T : u_T) (N : Nat) (ty0 : Nat → FieldType), vwCl[ci]? = some (C, T, N) ∧ j < N ∧ (∀ w ∈ u_ws C T N, w ∈ xgt) ∧ (∀ k, k < N → parseFieldDescriptor (T k).2.2.1 = some (ty0 k)) ∧ (∀ a, a < N → ∀ b, b < N → a ≠ b → (T a).2.1 ≠ (T b).2.1) ∧ Cond.fieldLink own idx (T j).1 (T j).2.1 (T j).2.2.1 ∈ xgt ∧ (T j).2.2.2 = true ∧ (T j).1 = own ∧ parseFieldDescriptor (T j).2.2.1 = some ty
def xNW (own : String) (idx ci : Nat) (fs : List Value) : Prop := ∃ (C : String) (T : u_T) (N : Nat) (ty0 : Nat → FieldType), vwCl[ci]? = some (C, T, N) ∧ (∀ w ∈ u_ws C T N, w ∈ xgt) ∧ (∀ k, k < N → parseFieldDescriptor (T k).2.2.1 = some (ty0 k)) ∧ Cond.classLink own idx C ∈ xgt ∧ Cond.instantiable C N ∈ xgt ∧ Cond.initialized C ∈ xgt ∧ (∀ j, j < N → defaultValue (ty0 j) = vp_V fs j) ∧ fs.length = N
section XL
variable {G : xG} {d mc ms n1 ce sl pc n : Nat} {F : xF} {E E1 : Nat → va_E} {ls : List (Nat × Value)} {st : List Value}
theorem k_get {k ci j idx : Nat} {b : Bool} {fs : List Value} {v : Value} (hd : decode F.2.1 pc = .ok (.getfield idx, 3)) (hf : xFG F.1 idx ci j b) (hk : k < n) (he : E k = .inr (ci, fs)) (hv0 : fs[j]? = some v) (K : Rk G d mc ms F n1 E1 ce sl (pc + 3) ls (v :: st) n E) : Rk G d mc ms F n1 E1 ce sl pc ls (.ref (G.1 k) :: st) n E := by
  intro p l e s m args below meth c H locs lsA C hP hS hv
  obtain ⟨C0, T, N, hc, hj, hin, hlk, hb, h8⟩ := hf
  obtain ⟨hx, hcb, -, -, hown, hts, hN, -, hK, -, -, hz, -⟩ := id C
  have he' : (pwl G n E)[k]? = some (G.1 k, .inr (ci, fs)) := by rw [pwl_get hk, he, hz k]
  have K' := K p l e s m args below meth c H locs lsA C hP hS hv
  rcases hlk with hlk | ⟨host, hlk⟩
  · exact va_get hx hcb hts hin hown hK hP.P k he' hc j hj (hts _ hlk) (fun _ q => q) hv0 hd K'
  · exact va_getN hx hcb hts hin hown hK hP.P k he' hc j hj (va_Nw.use rfl (hN _ hlk)) (fun _ q => q) hv0 hd K'
theorem k_putF {k ci j idx : Nat} {ty : FieldType} {fs : List Value} {v : Value} (hd : decode F.2.1 pc = .ok (.putfield idx, 3)) (hf : xFQ F.1 idx ci j ty) (hk : k < n) (he : E k = .inr (ci, fs)) (hl : j < fs.length) (hn : narrow ty v = v) (hfi : fits ty v = true) (K : Rk G d mc ms F n1 E1 ce sl (pc + 3) ls st n (fe E k (.inr (ci, fs.set j v)))) : Rk G d mc ms F n1 E1 ce sl pc ls (v :: .ref (G.1 k) :: st) n E := by
  intro p l e s m args below meth c H locs lsA C hP hS hv
  obtain ⟨C0, T, N, ty0, hc, hj, hin, hty, hnm, hlk, hfin, hdecl, hpa⟩ := hf
  obtain ⟨hx, hcb, -, -, hown, hts, -, -, hK, -, -, hz, hin2, -⟩ := id C
  have hap := va_apart (own := F.1) hts hin ty0 hty hnm hK hc
  have hat := hP.2 k hk
  rw [he] at hat
  obtain ⟨r, h1, cell, q1, q2, q3, q4⟩ := hat
  have hr : r = (C0, T, N) := Option.some.inj (h1.symm.trans hc)
  subst hr
  obtain ⟨hSl, hfc, kC, hkC, hkind⟩ := hK.1 ci _ hc
  obtain ⟨cf, kf, fi, f, hi, hsl⟩ := hSl j hj
  have hlay := hts _ (hin _ (u_in_lay hj))
  unfold u_lay at hlay
  rw [if_pos hfin] at hlay
  have hst := (u_facts hfc hkC (u_lays hts hin hj) hi).1
  have hcf : m.cls = cf := by
    obtain ⟨_, _, c', _, _, _, -, -, hf', -, -, -, hown2, -⟩ := Cond.laysFinal_spec hlay
    have e1 : c' = cf := by have := hi.symm.trans hf'; simp at this; exact this.1.symm
    rw [hdecl] at hown2
    rw [← e1]; exact Option.some.inj (hown.symm.trans hown2)
  have h6 := u_fits hfc hkC hkind (Or.inr hlay) hi hpa hn hfi
  have q1' : H[G.1 k]? = some cell := by rw [hz k]; exact q1
  refine W.putFinK hx hcb hown (hts _ hlk) hi hst hcf hin2 (by rw [q2]; exact h6) q1' q3 (by rw [hsl]; exact k2_hasslot (q4 j hj)) rfl rfl hd fun H' e1 e2 e3 => ?_
  rw [hsl] at e1 ⊢
  have e3' := e3
  rw [hz k] at e1 e3
  exact K p l e s m args below meth c H' _ lsA C (hP.put e2 e3 ⟨_, hc, t_OB.to (V := updV (vp_V fs) j v) ⟨_, e1, q2, q3, t_set q4 hap hj v⟩ (fun i _ => vp_updV_set hl v i)⟩) (hS.put e2 e3' (by show G.1 0 ≤ G.1 k; rw [hz k]; omega)) hv
theorem k_putI {k ci j idx : Nat} {ty : FieldType} {fs : List Value} {v : Int32} (hd : decode F.2.1 pc = .ok (.putfield idx, 3)) (hf : xFP F.1 idx ci j ty) (hlk' : ∀ (C : String) (T : u_T) (N : Nat), vwCl[ci]? = some (C, T, N) → Cond.fieldLink F.1 idx (T j).1 (T j).2.1 (T j).2.2.1 ∈ xgt) (hk : k < n) (he : E k = .inr (ci, fs)) (hl : j < fs.length) (hn : narrow ty (.int v) = .int v) (hfi : fits ty (.int v) = true) (K : Rk G d mc ms F n1 E1 ce sl (pc + 3) ls st n (fe E k (.inr (ci, fs.set j (.int v))))) : Rk G d mc ms F n1 E1 ce sl pc ls (.int v :: .ref (G.1 k) :: st) n E := by
  intro p l e s m args below meth c H locs lsA C hP hS hv
  obtain ⟨C0, T, N, ty0, hc, hj, hin, hty, hnm, -, hfin, hpa, hb, h8⟩ := hf
  have hlk := hlk' _ _ _ hc
  obtain ⟨hx, hcb, -, -, hown, hts, -, -, hK, -, -, hz, hin2, -⟩ := id C
  have hap := va_apart (own := F.1) hts hin ty0 hty hnm hK hc
  have hat := hP.2 k hk
  rw [he] at hat
  obtain ⟨r, h1, cell, q1, q2, q3, q4⟩ := hat
  have hr : r = (C0, T, N) := Option.some.inj (h1.symm.trans hc)
  subst hr
  obtain ⟨hSl, hfc, kC, hkC, hkind⟩ := hK.1 ci _ hc
  obtain ⟨cf, kf, fi, f, hi, hsl⟩ := hSl j hj
  have hlay := hts _ (hin _ (u_in_lay hj))
  unfold u_lay at hlay
  rw [if_neg (by rw [hfin]; decide)] at hlay
  have hst := (u_facts hfc hkC (u_lays hts hin hj) hi).1
  have h6 := u_store hfc hkC hkind hlay hi hpa hn hfi
  have q1' : H[G.1 k]? = some cell := by rw [hz k]; exact q1
  refine W.putK hx hcb (f := f) ⟨hown, hts _ hlk, ⟨_, _, _, hi⟩, hst⟩ (by rw [q2]; exact h6) q1' q3 (by rw [hsl]; exact k2_hasslot (q4 j hj)) rfl rfl hd fun H' e1 e2 e3 => ?_
  rw [hsl] at e1 ⊢
  have e3' := e3
  rw [hz k] at e1 e3
  exact K p l e s m args below meth c H' _ lsA C (hP.put e2 e3 ⟨_, hc, t_OB.to (V := updV (vp_V fs) j (.int v)) ⟨_, e1, q2, q3, t_set q4 hap hj (.int v)⟩ (fun i _ => vp_updV_set hl (.int v) i)⟩) (hS.put e2 e3' (by show G.1 0 ≤ G.1 k; rw [hz k]; omega)) hv
theorem zS {s : State} {H H1 : Heap} {locs : List Loc} (hS : va_S (zA G) s.heap H locs) (z : H1.size = H.size + 1) (o : ∀ q, q < H.size → H1[q]? = H[q]?) : va_S (zA G) s.heap H1 locs :=
  ⟨Nat.le_trans hS.1 (by omega), fun x h1 h2 => (o x (Nat.lt_of_lt_of_le h1 hS.1)).trans (hS.2.1 x h1 h2), hS.2.2⟩
theorem k_new {ci idx : Nat} {fs : List Value} (hd : decode F.2.1 pc = .ok (.new idx, 3)) (hw : xNW F.1 idx ci fs) (hce : ce + 1 ≤ mc) (hsl : sl + fs.length ≤ ms) (K : Rk G d mc ms F n1 E1 (ce + 1) (sl + fs.length) (pc + 3) ls (.ref (G.1 n) :: st) (n + 1) (fe E n (.inr (ci, fs)))) : Rk G d mc ms F n1 E1 ce sl pc ls st n E := by
  intro p l e s m args below meth c H locs lsA C hP hS hv
  obtain ⟨C0, T, N, ty0, hc, hin, hty, w1, w2, w3, hfs, hlen⟩ := hw
  obtain ⟨hx, hcb, -, -, hown, hts, -, -, hK, -, -, hz, -⟩ := id C
  have hKn := hK.1 ci _ hc
  subst hlen
  refine W.newcK hx hcb hown (hts _ w1) (hts _ w2) (hts _ w3) rfl hd hce hsl hKn.2.1 rfl fun H1 kC hkC e1 z1 o1 => ?_
  have hs := hP.1
  have K' := K p l e s m args below meth c H1 locs lsA C (hP.push z1 o1 ⟨_, hc, (u_born ty0 hts hin hKn hkC (by rw [← hs]; exact e1) hty).to hfs⟩) (zS hS z1 o1) hv
  rw [hz n, ← hs] at K'
  exact K'
theorem k_newaI {x : Int32} {N : Nat} (hd : decode F.2.1 pc = .ok (.newarray .int, 2)) (hw : Cond.arrayClass .int ∈ xgt) (hx0 : ¬ x < 0) (hN : x.toNatClampNeg = N) (hb : N ≤ 100000) (hce : ce + 1 ≤ mc) (hsl : sl + N ≤ ms) (K : Rk G d mc ms F n1 E1 (ce + 1) (sl + N) (pc + 2) ls (.ref (G.1 n) :: st) (n + 1) (fe E n (.inl (G.2.2.1 0, N, .inl (fun _ => 0))))) : Rk G d mc ms F n1 E1 ce sl pc ls (.int x :: st) n E := by
  intro p l e s m args below meth c H locs lsA C hP hS hv
  obtain ⟨hx, hcb, -, -, hown, hts, -, -, hK, -, -, hz, -⟩ := id C
  refine va_newaK (atype := .int) hx hcb (hts _ hw) rfl hd rfl hx0 hN (by show N * 4 ≤ _; omega) hce hsl rfl fun H1 cA e1 z1 o1 hAr hNm => ?_
  have hs := hP.1
  have hcA : cA = G.2.2.1 0 := Option.some.inj (hNm.symm.trans (hK.2 0 _ rfl).2)
  subst hcA
  have K' := K p l e s m args below meth c H1 locs lsA C (hP.push z1 o1 (by show H1[G.1 0 + n]? = _; rw [← hs]; exact e1)) (zS hS z1 o1) hv
  rw [hz n, ← hs] at K'
  exact K'
theorem k_newaZ {x : Int32} {N : Nat} (hd : decode F.2.1 pc = .ok (.newarray .boolean, 2)) (hw : Cond.arrayClass .boolean ∈ xgt) (hx0 : ¬ x < 0) (hN : x.toNatClampNeg = N) (hb : N ≤ 100000) (hce : ce + 1 ≤ mc) (hsl : sl + N ≤ ms) (K : Rk G d mc ms F n1 E1 (ce + 1) (sl + N) (pc + 2) ls (.ref (G.1 n) :: st) (n + 1) (fe E n (.inl (G.2.2.1 1, N, .inl (fun _ => 0))))) : Rk G d mc ms F n1 E1 ce sl pc ls (.int x :: st) n E := by
  intro p l e s m args below meth c H locs lsA C hP hS hv
  obtain ⟨hx, hcb, -, -, hown, hts, -, -, hK, -, -, hz, -⟩ := id C
  refine va_newaK (atype := .boolean) hx hcb (hts _ hw) rfl hd rfl hx0 hN (by show N * 1 ≤ _; omega) hce hsl rfl fun H1 cA e1 z1 o1 hAr hNm => ?_
  have hs := hP.1
  have hcA : cA = G.2.2.1 1 := Option.some.inj (hNm.symm.trans (hK.2 1 _ rfl).2)
  subst hcA
  have K' := K p l e s m args below meth c H1 locs lsA C (hP.push z1 o1 (by show H1[G.1 0 + n]? = _; rw [← hs]; exact e1)) (zS hS z1 o1) hv
  rw [hz n, ← hs] at K'
  exact K'
theorem k_anew {x : Int32} {N t0 idx : Nat} {C0 : String} (hd : decode F.2.1 pc = .ok (.anewarray idx, 3)) (hw : Cond.classLink F.1 idx C0 ∈ xgt) (ho : ∀ U, AO2 U → va_AO C0 U) (ht : (xtys G)[t0]? = some (G.2.2.1 t0, .object C0)) (hx0 : ¬ x < 0) (hN : x.toNatClampNeg = N) (hb : N ≤ 100000) (hce : ce + 1 ≤ mc) (hsl : sl + N ≤ ms) (K : Rk G d mc ms F n1 E1 (ce + 1) (sl + N) (pc + 3) ls (.ref (G.1 n) :: st) (n + 1) (fe E n (.inl (G.2.2.1 t0, N, .inr (.inr (.inr (.inr (fun _ => none)))))))) : Rk G d mc ms F n1 E1 ce sl pc ls (.int x :: st) n E := by
  intro p l e s m args below meth c H locs lsA C hP hS hv
  obtain ⟨hx, hcb, -, -, hown, hts, -, -, hK, -, hO, hz, -⟩ := id C
  subst hN
  refine W.anew hx hcb hown (hts _ hw) (va_AO.use (ho _ hO)) rfl hd rfl hx0 (by omega) hce hsl fun cA kA comp f1 f2 f3 f4 => ?_
  have hs := hP.1
  have hcA : cA = G.2.2.1 t0 := by
    obtain ⟨kA', comp', -, -, -, q⟩ := (hK.2 t0 _ ht).2
    exact Option.some.inj (f1.symm.trans q)
  subst hcA
  generalize hH1 : H.push ({ cls := G.2.2.1 t0, slots := Array.replicate x.toNatClampNeg .null, vm := .none } : Cell) = H1
  have z1 : H1.size = H.size + 1 := by rw [← hH1, Array.size_push]
  have e1 : H1[H.size]? = some (arrV (G.2.2.1 t0) x.toNatClampNeg (fun _ => .null)) := by rw [← hH1, Array.getElem?_push_size, ← arrV_new]
  have o1 : ∀ q : Nat, q < H.size → H1[q]? = H[q]? := fun q hq => by rw [← hH1, Array.getElem?_push, if_neg (Nat.ne_of_lt hq)]
  have K' := K p l e s m args below meth c H1 locs lsA C (hP.push z1 o1 (by show H1[G.1 0 + n]? = some (vp_cell _ _); rw [← hs, vp_cell_q]; exact e1)) (zS hS z1 o1) hv
  rw [hz n, ← hs] at K'
  exact K'
end XL
