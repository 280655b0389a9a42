/-! the class: carryUp, whole -/
/-- what the flight keeps to -/
def FlOk (cl : Cl) : Prop := (∀ i j, i < (cl.2 4).length → j < (cl.2 4).length → g5 (gr (cl.2 4) i) 0 = g5 (gr (cl.2 4) j) 0 → i = j) ∧ ∀ i, i < (cl.2 4).length → (g5 (gr (cl.2 4) i) 2 = 1 ∨ g5 (gr (cl.2 4) i) 2 = 2) ∧ (g5 (gr (cl.2 4) i) 5 = 1 → g5 (gr (cl.2 4) i) 2 = 2)
theorem fix_none {cl : Cl} {x p : Int32} (hl : (cl.2 4).length < 2 ^ 31) (h : ∀ i, i < (cl.2 4).length → ¬ (g5 (gr (cl.2 4) i) 0 = x ∧ g5 (gr (cl.2 4) i) 2 = p)) : A_fix cl x p = -4 := by
  rcases sIx_spec (-4) (fP (cl.2 4) x p) (cl.2 4).length 0 with ⟨e, -⟩ | ⟨j, -, hj, e, q, -⟩
  · exact e
  · unfold fP at q
    simp at q
    exact absurd q (h j (by omega))
theorem fix_some {cl : Cl} {x p : Int32} {j : Nat} (ok : FlOk cl) (hl : (cl.2 4).length < 2 ^ 31) (hj : j < (cl.2 4).length) (hx : g5 (gr (cl.2 4) j) 0 = x) (hp : g5 (gr (cl.2 4) j) 2 = p) : A_fix cl x p = nI j := by
  rcases sIx_spec (-4) (fP (cl.2 4) x p) (cl.2 4).length 0 with ⟨-, q⟩ | ⟨i, -, hi, e, q, -⟩
  · have := q j (by omega) (by omega)
    unfold fP at this
    simp [hx, hp] at this
  · unfold fP at q
    simp at q
    have : i = j := ok.1 i j (by omega) hj (q.1.trans hx.symm)
    rw [← this]
    exact e
theorem C_carU {h : Mem} {K : Nat} {cl : Cl} (c : CK K) (R : RK h K cl) (w : Wd cl) (ok : FlOk cl) (kind num : Int32) (hk : kind = 1 ∨ kind = 2 ∨ kind = 4) : Tr (f_X0_carryUp K kind num h) (fun _ h' => RK h' K (A_carU cl kind num) ∧ FrK K h h') := by
  have l16 := R.len4
  have M := R.2.2.2.1
  have x2 := c.1.2.2.1
  have I4 := c.2.1.2.1
  have s3 := R.1.2.2.2.1
  have ml : ((cl.2 4).map fmR ++ (cl.2 5).map qmR).length = (cl.2 4).length + (cl.2 5).length := by simp
  have z := C_find (j := 0) I4 M (by omega) num
  have nof : (∀ i, i < (cl.2 4).length → ¬ g5 (gr (cl.2 4) i) 0 = num) → A_carU cl kind num = cl := by
    intro q
    unfold A_carU
    rw [if_pos (fix_none (by omega) (fun i hi y => q i hi y.1))]
  unfold f_X0_carryUp
  rw [x2, show f_X3_find (K + 4) 0 num h = _ from z, b2_some]
  rcases sIx_spec (-1) (fun i => g5 (gr ((cl.2 4).map fmR ++ (cl.2 5).map qmR) i) 0 == num) ((cl.2 4).map fmR ++ (cl.2 5).map qmR).length 0 with ⟨q, qn⟩ | ⟨j, -, hj, q, qx, qf⟩
  · rw [show fnd _ 0 num = -1 from q, if_pos (by decide), nof (fun i hi y => by
      have := qn i (by omega) (by rw [ml]; omega)
      rw [gr_mapl hi] at this
      simp [fmR, g5] at this
      exact this (by simpa [g5] using y))]
    exact wR ⟨R, FrK.rf⟩
  · rw [ml] at hj
    rw [show fnd _ 0 num = nI j from q, if_neg (by rw [li_0, nI_ltI (by omega) (by omega)]; omega), s3]
    by_cases hf : j < (cl.2 4).length
    · rw [if_pos (by rw [nI_ltI (by omega) (by omega)]; exact hf)]
      have e := gr_mapl (q := cl.2 5) hf fmR qmR
      have gx : g5 (gr (cl.2 4) j) 0 = num := by
        rw [e] at qx
        simpa [fmR, g5] using qx
      have hr : (gr (cl.2 4) j).length = 6 := w.row (t := 4) rfl hf
      have c2 : f_X3_cell (K + 4) (nI j) 2 h = some (g5 (gr (cl.2 4) j) 2, h) := by
        have y := C_cell (j := 2) I4 M (show j < _ by rw [ml]; omega) (by omega)
        rw [e] at y
        exact y
      have c4 : f_X3_cell (K + 4) (nI j) 4 h = some (g5 (gr (cl.2 4) j) 5, h) := by
        have y := C_cell (j := 4) I4 M (show j < _ by rw [ml]; omega) (by omega)
        rw [e] at y
        exact y
      have o := ok.2 j hf
      have off := C_off c R hf
      have free := C_free c R hf hr num
      have other : ∀ p, ¬ g5 (gr (cl.2 4) j) 2 = p → A_fix cl num p = -4 := fun p np => fix_none (by omega) (fun i hi y => by
        have : i = j := ok.1 i j hi hf (y.1.trans gx.symm)
        rw [this] at y
        exact np y.2)
      have aU : ∀ kd p, p = (if kd = 1 then 1 else 2) → A_carU cl kd num = if g5 (gr (cl.2 4) j) 2 = p then A_carU1 cl kd num j else cl := by
        intro kd p hp
        unfold A_carU
        rw [← hp]
        by_cases y : g5 (gr (cl.2 4) j) 2 = p
        · rw [fix_some ok (by omega) hf gx y, if_neg (nI_ne4 (by omega)), nI_clamp (by omega), if_pos y]
        · rw [other p y, if_pos rfl, if_neg y]
      have same : Tr (some ((), h)) (fun _ h' => RK h' K cl ∧ FrK K h h') := wR ⟨R, FrK.rf⟩
      rw [c2, b2_some]
      unfold f_X0_carryUp_41 f_X0_carryUp_61 f_X0_carryUp_96 f_X0_carryUp_106
      rw [x2, c4, b2_some, c.1.2.2.2.1]
      rcases hk with rfl | rfl | rfl
      · rw [aU 1 1 rfl]
        unfold A_carU1
        rcases o.1 with p1 | p2
        · have nf : ¬ g5 (gr (cl.2 4) j) 5 = 1 := fun y => by
            have := o.2 y
            rw [p1] at this
            exact absurd this (by decide)
          simp (decide := true) only [b2_some, p1, nf, if_true, if_false, true_or]
          exact off
        · by_cases e5 : g5 (gr (cl.2 4) j) 5 = 1
          · simp (decide := true) only [b2_some, p2, e5, if_true, if_false]
            exact same
          · simp (decide := true) only [b2_some, p2, e5, if_true, if_false]
            exact same
      · rw [aU 2 2 rfl]
        unfold A_carU1
        rcases o.1 with p1 | p2
        · have nf : ¬ g5 (gr (cl.2 4) j) 5 = 1 := fun y => by
            have := o.2 y
            rw [p1] at this
            exact absurd this (by decide)
          simp (decide := true) only [b2_some, p1, nf, if_true, if_false]
          exact same
        · by_cases e5 : g5 (gr (cl.2 4) j) 5 = 1
          · simp (decide := true) only [b2_some, p2, e5, if_true, if_false]
            exact free
          · simp (decide := true) only [b2_some, p2, e5, if_true, if_false]
            exact free
      · rw [aU 4 2 rfl]
        unfold A_carU1
        rcases o.1 with p1 | p2
        · have nf : ¬ g5 (gr (cl.2 4) j) 5 = 1 := fun y => by
            have := o.2 y
            rw [p1] at this
            exact absurd this (by decide)
          simp (decide := true) only [b2_some, p1, nf, if_true, if_false]
          exact same
        · by_cases e5 : g5 (gr (cl.2 4) j) 5 = 1
          · simp (decide := true) only [b2_some, p2, e5, if_true, if_false, or_true]
            exact off
          · simp (decide := true) only [b2_some, p2, e5, if_true, if_false, or_false]
            exact same
    · rw [if_neg (by rw [nI_ltI (by omega) (by omega)]; exact hf), nof (fun i hi y => by
        have := qf i (by omega) (by omega)
        rw [gr_mapl hi] at this
        simp [fmR, g5] at this
        exact this (by simpa [g5] using y))]
      exact wR ⟨R, FrK.rf⟩
