/-! the class: a number is forgotten -/
theorem er_pm : ∀ {l : List (List Int32)} {i : Nat} (h : i < l.length), (l[i] :: l.eraseIdx i).Perm l
  | a :: l, 0, _ => by simp
  | a :: l, i + 1, h => by
    have h' : i < l.length := by simpa using h
    have z := er_pm h'
    show (l[i] :: a :: l.eraseIdx i).Perm (a :: l)
    exact (List.Perm.swap _ _ _).trans (z.cons a)
theorem set_pm : ∀ {l : List (List Int32)} {i : Nat} (_ : i < l.length) (a : List Int32), (l.set i a).Perm (a :: l.eraseIdx i)
  | b :: l, 0, _, a => by simp
  | b :: l, i + 1, h, a => by
    have h' : i < l.length := by simpa using h
    have z := set_pm h' a
    show (b :: l.set i a).Perm (a :: b :: l.eraseIdx i)
    exact (z.cons b).trans (List.Perm.swap _ _ _)
theorem swp_perm {rows : List (List Int32)} {i : Nat} (hi : i < rows.length) (hw : ∀ r ∈ rows, r.length = 1) : (gr rows i :: A_swp rows i).Perm rows := by
  obtain ⟨l, a, e⟩ : ∃ l a, rows = l ++ [a] := by
    have h0 : rows ≠ [] := by
      intro z
      rw [z] at hi
      simp at hi
    exact ⟨rows.dropLast, rows.getLast h0, (List.dropLast_concat_getLast h0).symm⟩
  subst e
  have ha : a.length = 1 := hw a (by simp)
  have ea : [g5 a 0] = a := by
    match a, ha with
    | [x], _ => rfl
  have eg : gr (l ++ [a]) ((l ++ [a]).length - 1) = a := by
    simp [gr, List.getD]
  unfold A_swp
  rw [eg, ea]
  by_cases e : i < l.length
  · have e1 : ((l ++ [a]).set i a).take ((l ++ [a]).length - 1) = l.set i a := by
      rw [List.set_append_left _ _ e]
      simp
    have e2 : gr (l ++ [a]) i = l[i] := by
      simp [gr, List.getD, List.getElem?_append_left, e]
    rw [e1, e2]
    have p1 : (l.set i a).Perm (a :: l.eraseIdx i) := set_pm e a
    have p2 : (l[i] :: l.eraseIdx i).Perm l := er_pm e
    refine (List.Perm.cons _ p1).trans ?_
    refine (List.Perm.swap _ _ _).trans ?_
    refine (List.Perm.cons _ p2).trans ?_
    exact (List.perm_append_singleton a l).symm
  · have e0 : i = l.length := by simp at hi; omega
    subst e0
    have e1 : ((l ++ [a]).set l.length a).take ((l ++ [a]).length - 1) = l := by simp
    have e2 : gr (l ++ [a]) l.length = a := by simp [gr, List.getD]
    rw [e1, e2]
    exact (List.perm_append_singleton a l).symm
theorem C_unk {h : Mem} {K : Nat} {cl : Cl} (c : CK K) (R : RK h K cl) (w : Wd cl) (x : Int32) : Tr (b2 (f_X3_find (K + 10) 0 x h) fun v8 h7 => f_X3_remove (K + 10) v8 h7) (fun _ h' => RK h' K (A_unk cl x) ∧ FrK K h h') := by
  obtain ⟨kn, t6, hp⟩ := R.2.2.2.2.2.2.1
  have I := c.2.1.2.2.2.2.1
  have l4 := t6.2.2.2.1
  have z := C_find (j := 0) I t6 (by omega) x
  rw [show f_X3_find (K + 10) 0 x h = _ from z, b2_some]
  have iff := fnd_kix (x := x) hp l4
  unfold A_unk
  by_cases e : A_kix cl x = -4
  · rw [if_pos e, iff.mpr e, C_removeN]
    exact wR ⟨R, FrK.rf⟩
  · rw [if_neg e]
    have e' : ¬ fnd kn 0 x = -1 := fun q => e (iff.mp q)
    rcases sIx_spec (-1) (fun i => g5 (gr kn i) 0 == x) kn.length 0 with ⟨q, -⟩ | ⟨j, -, hj, q, qx, -⟩
    · exact absurd q e'
    rcases sIx_spec (-4) (kP (cl.2 8) x) (cl.2 8).length 0 with ⟨q2, -⟩ | ⟨i, -, hi, q2, qi, -⟩
    · exact absurd q2 e
    have ej : fnd kn 0 x = nI j := q
    have ei : A_kix cl x = nI i := q2
    have hj2 : j < kn.length := by omega
    have hi2 : i < (cl.2 8).length := by omega
    have hlen := hp.length_eq
    rw [ej, ei, nI_clamp (by omega)]
    have w8 : ∀ r ∈ cl.2 8, r.length = 1 := w 8 rfl
    have one : ∀ r : List Int32, r.length = 1 → g5 r 0 = x → r = [x] := by
      intro r hr hx
      match r, hr with
      | [y], _ => rw [show y = x from hx]
    have eg : gr kn j = kn[j] := by simp [gr, List.getD, hj2]
    have gj : gr kn j = [x] := one _ (by rw [eg]; exact w8 _ (hp.mem_iff.mp (List.getElem_mem hj2))) (by simpa using qx)
    have gi : gr (cl.2 8) i = [x] := one _ (by
      have eg2 : gr (cl.2 8) i = (cl.2 8)[i] := by simp [gr, List.getD, hi2]
      rw [eg2]
      exact w8 _ (List.getElem_mem hi2)) (by
      unfold kP at qi
      simpa using qi)
    refine wM (C_remove I t6 hj2) (fun _ g P => ⟨R.kn P.1 ?_ P.2, P.2.k (i := 10) (by omega)⟩)
    have p1 : (kn[j] :: kn.eraseIdx j).Perm kn := er_pm hj2
    rw [← eg, gj] at p1
    have p2 := swp_perm hi2 w8
    rw [gi] at p2
    exact ((p1.trans hp).trans p2.symm).cons_inv
