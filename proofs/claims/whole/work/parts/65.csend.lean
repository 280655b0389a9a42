/-! the class: sends -/
theorem RR.off {h h' : Mem} {k m w j : Nat} {rows : List (List Int32)} (R : RR h k m w rows) (f : FrR j h h') (h1 : k ≠ j) (h2 : k ≠ j + 1) (h3 : k + 1 ≠ j) : RR h' k m w rows := R.fr (f.1 k h1 h2) (f.1 (k + 1) h3 (by omega))
theorem C_sendMail {h : Mem} {K i : Nat} {ml dn : List (List Int32)} (c : CK K) (M : RR h (K + 4) 16 6 ml) (D : RR h (K + 6) 16 6 dn) (hi : i < ml.length) : Tr (f_X0_sendMail K (nI i) h) (fun _ h' => RR h' (K + 6) 16 6 (if dn.length < 16 then dn ++ [[0, g5 (gr ml i) 0, g5 (gr ml i) 1, g5 (gr ml i) 2, g5 (gr ml i) 3, g5 (gr ml i) 5]] else dn) ∧ FrR (K + 6) h h') := by
  obtain ⟨⟨-, -, x2, x3, -⟩, ⟨-, I4, I6, -⟩, -⟩ := c
  have cl : ∀ (j : Nat) (g : Mem), j < 6 → FrR (K + 6) h g → f_X3_cell (K + 4) (nI i) (nI j) g = some (g5 (gr ml i) j, g) := fun j g hj f => C_cell I4 (M.off f (by omega) (by omega) (by omega)) hi hj
  unfold f_X0_sendMail
  rw [x2, x3]
  by_cases hl : dn.length < 16
  · rw [if_pos hl]
    refine wB (C_open I6 D hl) (fun r g0 P0 => ?_)
    rw [P0.1]
    have f0 := P0.2.2
    refine wB (C_putL (j := 0) I6 P0.2.1 (by omega) rfl 0) (fun _ g1 P1 => ?_)
    have f1 := f0.tr P1.2
    rw [show f_X3_cell (K + 4) (nI i) 0 g1 = _ from cl 0 g1 (by omega) f1, b2_some]
    refine wB (C_putL (j := 1) I6 P1.1 (by omega) rfl _) (fun _ g2 P2 => ?_)
    have f2 := f1.tr P2.2
    rw [show f_X3_cell (K + 4) (nI i) 1 g2 = _ from cl 1 g2 (by omega) f2, b2_some]
    refine wB (C_putL (j := 2) I6 P2.1 (by omega) rfl _) (fun _ g3 P3 => ?_)
    have f3 := f2.tr P3.2
    rw [show f_X3_cell (K + 4) (nI i) 2 g3 = _ from cl 2 g3 (by omega) f3, b2_some]
    refine wB (C_putL (j := 3) I6 P3.1 (by omega) rfl _) (fun _ g4 P4 => ?_)
    have f4 := f3.tr P4.2
    rw [show f_X3_cell (K + 4) (nI i) 3 g4 = _ from cl 3 g4 (by omega) f4, b2_some]
    refine wB (C_putL (j := 4) I6 P4.1 (by omega) rfl _) (fun _ g5' P5 => ?_)
    have f5 := f4.tr P5.2
    rw [show f_X3_cell (K + 4) (nI i) 5 g5' = _ from cl 5 g5' (by omega) f5, b2_some]
    refine wB (C_putL (j := 5) I6 P5.1 (by omega) rfl _) (fun _ g6 P6 => ?_)
    exact wR ⟨P6.1, f5.tr P6.2⟩
  · rw [if_neg hl, C_openN I6 D hl, b2_some, C_putN, b2_some, show f_X3_cell (K + 4) (nI i) 0 h = _ from cl 0 h (by omega) FrR.rf, b2_some, C_putN, b2_some, show f_X3_cell (K + 4) (nI i) 1 h = _ from cl 1 h (by omega) FrR.rf, b2_some, C_putN, b2_some, show f_X3_cell (K + 4) (nI i) 2 h = _ from cl 2 h (by omega) FrR.rf, b2_some, C_putN, b2_some, show f_X3_cell (K + 4) (nI i) 3 h = _ from cl 3 h (by omega) FrR.rf, b2_some, C_putN, b2_some, show f_X3_cell (K + 4) (nI i) 5 h = _ from cl 5 h (by omega) FrR.rf, b2_some, C_putN, b2_some]
    exact wR ⟨D, FrR.rf⟩
/-- what a step leaves alone of a client, but one table -/
theorem RK.dn {h h' : Mem} {K : Nat} {cl : Cl} {rows : List (List Int32)} (c : CK K) (R : RK h K cl) (D : RR h' (K + 6) 16 6 rows) (f : FrR (K + 6) h h') : RK h' K (sT cl 6 rows) := by
  obtain ⟨⟨s0, s1, s2, s3, s4, s5, s6, s7, s8⟩, t1, t2, t3, t4, t5, ⟨kn, t6, t6'⟩, t7, t8⟩ := R
  have eK : h' K = h K := f.1 K (by omega) (by omega)
  have e4 : (sT cl 6 rows).2 4 = cl.2 4 := sT_ne (by omega)
  have e5 : (sT cl 6 rows).2 5 = cl.2 5 := sT_ne (by omega)
  have e3 : (sT cl 6 rows).2 3 = cl.2 3 := sT_ne (by omega)
  have e7 : (sT cl 6 rows).2 7 = cl.2 7 := sT_ne (by omega)
  have e8 : (sT cl 6 rows).2 8 = cl.2 8 := sT_ne (by omega)
  have e11 : (sT cl 6 rows).2 11 = cl.2 11 := sT_ne (by omega)
  have e6 : (sT cl 6 rows).2 6 = rows := sT_eq _ _ _
  refine ⟨⟨by rw [eK]; exact s0, by rw [eK]; exact s1, by rw [eK]; exact s2, by rw [eK, e4]; exact s3, by rw [eK]; exact s4, by rw [eK]; exact s5, by rw [eK]; exact s6, by rw [eK]; exact s7, by rw [eK]; exact s8⟩, ?_, ?_, ?_, ?_, ?_, ⟨kn, ?_, by rw [e8]; exact t6'⟩, ?_, ?_⟩
  · rw [e3]; exact t1.off f (by omega) (by omega) (by omega)
  · rw [f.1 (K + 3) (by omega) (by omega)]; exact t2
  · rw [e4, e5]; exact t3.off f (by omega) (by omega) (by omega)
  · rw [e6]; exact D
  · rw [e7]; exact t5.off f (by omega) (by omega) (by omega)
  · exact t6.off f (by omega) (by omega) (by omega)
  · rw [e11]; exact t7.off f (by omega) (by omega) (by omega)
  · show RW h' (K + 14) cl.1
    unfold RW
    rw [f.1 (K + 14) (by omega) (by omega)]
    exact t8
theorem sT_self (cl : Cl) (t : Nat) : sT cl t (cl.2 t) = cl := by
  obtain ⟨a, b⟩ := cl
  unfold sT
  have : ud b t (b t) = b := by
    funext j
    unfold ud
    split
    · rename_i e
      rw [e]
    · rfl
  show (a, ud b t (b t)) = (a, b)
  rw [this]
theorem A_pd_eq (cl : Cl) (r : List Int32) : A_pd cl r = sT cl 6 (if (cl.2 6).length < 16 then cl.2 6 ++ [r] else cl.2 6) := by
  unfold A_pd
  split
  · rfl
  · rw [sT_self]
theorem gr_mapl {l q : List (List Int32)} {i : Nat} (hi : i < l.length) (F G : List Int32 → List Int32) : gr (l.map F ++ q.map G) i = F (gr l i) := by
  simp [gr, List.getD, List.getElem?_append_left, hi]
theorem gr_mapr {l q : List (List Int32)} {i : Nat} (hi : i < q.length) (F G : List Int32 → List Int32) : gr (l.map F ++ q.map G) (l.length + i) = G (gr q i) := by
  simp [gr, List.getD, List.getElem?_append_right, hi]
/-- one in flight is sent -/
theorem C_sends {h : Mem} {K i : Nat} {cl : Cl} (c : CK K) (R : RK h K cl) (hi : i < (cl.2 4).length) (h5 : ¬ g5 (gr (cl.2 4) i) 5 = 1) : Tr (f_X0_sendMail K (nI i) h) (fun _ h' => RK h' K (A_sends cl i) ∧ FrK K h h') := by
  refine wM (C_sendMail c R.2.2.2.1 R.2.2.2.2.1 (by simp; omega)) (fun _ g P => ⟨?_, P.2.k (by omega)⟩)
  unfold A_sends
  rw [if_neg h5, A_pd_eq]
  have e := gr_mapl (q := cl.2 5) hi fmR qmR
  have D := P.1
  rw [e] at D
  exact R.dn c D P.2
theorem C_sendsF {h : Mem} {K i : Nat} {cl : Cl} (c : CK K) (R : RK h K cl) (h5 : g5 (gr (cl.2 4) i) 5 = 1) : Tr (f_X0_sendBare K (K + 6) 3 (g5 (gr (cl.2 4) i) 0) h) (fun _ h' => RK h' K (A_sends cl i) ∧ FrK K h h') := by
  refine wM (C_sendBare c.2.1.2.2.1 R.2.2.2.2.1 3 _) (fun _ g P => ⟨?_, P.2.k (by omega)⟩)
  unfold A_sends
  rw [if_pos h5, A_pd_eq]
  exact R.dn c P.1 P.2
