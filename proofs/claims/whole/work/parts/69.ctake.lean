/-! the class: takeFirst -/
theorem RK.tk {h h' : Mem} {K : Nat} {cl : Cl} {rows : List (List Int32)} (R : RK h K cl) (D : RR h' (K + 12) 30 4 rows) (f : FrR (K + 12) h h') : RK h' K (sT cl 11 rows) := by
  obtain ⟨⟨s0, s1, s2, s3, s4, s5, s6, s7, s8⟩, t1, t2, t3, t4, t5, ⟨kn, t6, t6'⟩, t7, t8⟩ := R
  have eK : h' K = h K := f.1 K (by omega) (by omega)
  have et : ∀ t, t ≠ 11 → (sT cl 11 rows).2 t = cl.2 t := fun t h1 => sT_ne h1
  have e11 : (sT cl 11 rows).2 11 = rows := sT_eq _ _ _
  refine ⟨⟨by rw [eK]; exact s0, by rw [eK]; exact s1, by rw [eK]; exact s2, by rw [eK, et 4 (by omega)]; exact s3, by rw [eK]; exact s4, by rw [eK]; exact s5, by rw [eK]; exact s6, by rw [eK]; exact s7, by rw [eK]; exact s8⟩, ?_, ?_, ?_, ?_, ?_, ⟨kn, ?_, by rw [et 8 (by omega)]; exact t6'⟩, ?_, ?_⟩
  · rw [et 3 (by omega)]; exact t1.off f (by omega) (by omega) (by omega)
  · rw [f.1 (K + 3) (by omega) (by omega)]; exact t2
  · rw [et 4 (by omega), et 5 (by omega)]; exact t3.off f (by omega) (by omega) (by omega)
  · rw [et 6 (by omega)]; exact t4.off f (by omega) (by omega) (by omega)
  · rw [et 7 (by omega)]; exact t5.off f (by omega) (by omega) (by omega)
  · exact t6.off f (by omega) (by omega) (by omega)
  · rw [e11]; exact D
  · show RW h' (K + 14) cl.1
    unfold RW
    rw [f.1 (K + 14) (by omega) (by omega)]
    exact t8
theorem C_take28 {h : Mem} {K : Nat} {dn tk : List (List Int32)} (c : CK K) (D : RR h (K + 6) 16 6 dn) (hd : 0 < dn.length) (T : RR h (K + 12) 30 4 tk) (hl : tk.length < 30) : Tr (f_X0_takeFirst_28 K h) (fun _ h' => RR h' (K + 12) 30 4 (tk ++ [[g5 (gr dn 0) 2, g5 (gr dn 0) 4, g5 (gr dn 0) 3, g5 (gr dn 0) 5]]) ∧ FrR (K + 12) h h') := by
  obtain ⟨⟨-, -, -, x3, -, -, x6, -⟩, ⟨-, -, I6, -, -, I12⟩, -⟩ := c
  have cl : ∀ (j : Nat) (g : Mem), j < 6 → FrR (K + 12) h g → f_X3_cell (K + 6) (nI 0) (nI j) g = some (g5 (gr dn 0) j, g) := fun j g hj f => C_cell I6 (D.off f (by omega) (by omega) (by omega)) hd hj
  unfold f_X0_takeFirst_28
  rw [x3, x6]
  refine wB (C_open I12 T hl) (fun r g0 P0 => ?_)
  rw [P0.1]
  have f0 := P0.2.2
  rw [show f_X3_cell (K + 6) 0 2 g0 = _ from cl 2 g0 (by omega) f0, b2_some]
  refine wB (C_putL (j := 0) I12 P0.2.1 (by omega) rfl _) (fun _ g1 P1 => ?_)
  have f1 := f0.tr P1.2
  rw [show f_X3_cell (K + 6) 0 4 g1 = _ from cl 4 g1 (by omega) f1, b2_some]
  refine wB (C_putL (j := 1) I12 P1.1 (by omega) rfl _) (fun _ g2 P2 => ?_)
  have f2 := f1.tr P2.2
  rw [show f_X3_cell (K + 6) 0 3 g2 = _ from cl 3 g2 (by omega) f2, b2_some]
  refine wB (C_putL (j := 2) I12 P2.1 (by omega) rfl _) (fun _ g3 P3 => ?_)
  have f3 := f2.tr P3.2
  rw [show f_X3_cell (K + 6) 0 5 g3 = _ from cl 5 g3 (by omega) f3, b2_some]
  refine wB (C_putL (j := 3) I12 P3.1 (by omega) rfl _) (fun _ g4 P4 => ?_)
  exact wR ⟨P4.1, f3.tr P4.2⟩
theorem C_takeFirst {h : Mem} {K : Nat} {cl : Cl} (c : CK K) (R : RK h K cl) (hd : 0 < (cl.2 6).length) : Tr (f_X0_takeFirst K h) (fun _ h' => RK h' K (A_takes cl (g5 (gr (cl.2 6) 0) 2) (g5 (gr (cl.2 6) 0) 3) (g5 (gr (cl.2 6) 0) 4) (g5 (gr (cl.2 6) 0) 5)) ∧ FrK K h h') := by
  unfold f_X0_takeFirst A_takes
  rw [mlet_eq, c.1.2.2.2.2.2.2.1]
  have R1 : RK (mu h K 15 (h K 15 + 1)) K (sS cl 10 (cl.1 10 + 1)) := by
    obtain ⟨s0, s1, s2, s3, s4, s5, s6, s7, s8⟩ := R.1
    refine R.scal (fun a ha => mu_ne ha) (fun _ => rfl) (fun k h1 h2 => sS_ne (by omega)) ⟨?_, ?_, ?_, ?_, ?_, ?_, ?_, ?_, ?_⟩
    · rw [mu_rdn (by omega)]; exact s0
    · rw [mu_rdn (by omega)]; exact s1
    · rw [mu_rdn (by omega)]; exact s2
    · rw [mu_rdn (by omega)]; exact s3
    · rw [mu_rdn (by omega)]; exact s4
    · rw [mu_rdn (by omega)]; exact s5
    · rw [mu_rdn (by omega)]; exact s6
    · rw [mu_rde rfl, s7]; exact (sS_eq _ _ _).symm
    · rw [mu_rdn (by omega)]; exact s8
  have f1 : FrK K h (mu h K 15 (h K 15 + 1)) := fun a ha => mu_ne (by omega)
  generalize mu h K 15 (h K 15 + 1) = g at R1 f1 ⊢
  have I12 := c.2.1.2.2.2.2.2
  have T : RR g (K + 12) 30 4 (cl.2 11) := R1.2.2.2.2.2.2.2.1
  have D : RR g (K + 6) 16 6 (cl.2 6) := R1.2.2.2.2.1
  have l30 := T.2.2.2.1
  rw [C_isFull I12 T, b2_some]
  by_cases hl : (cl.2 11).length < 30
  · rw [if_pos hl, if_pos rfl, if_neg (by omega)]
    exact wM (C_take28 c D hd T hl) (fun _ g2 P => ⟨R1.tk P.1 P.2, f1.tr (P.2.k (i := 12) (by omega))⟩)
  · rw [if_neg hl, if_neg (by decide), if_pos (by omega)]
    refine wB (C_remove (i := 0) I12 T (by omega)) (fun _ g2 P => ?_)
    have D2 := D.off P.2 (by omega) (by omega) (by omega)
    exact wM (C_take28 c D2 hd P.1 (by rw [List.length_eraseIdx, if_pos (by omega)]; omega)) (fun _ g3 Q => ⟨R1.tk Q.1 (P.2.tr Q.2), f1.tr ((P.2.tr Q.2).k (i := 12) (by omega))⟩)
