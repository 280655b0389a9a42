/-! the class: a letter is carried down -/
theorem A_takes_8 (cl : Cl) (l p v k : Int32) : (A_takes cl l p v k).2 8 = cl.2 8 := A_takes_ne (by omega)
theorem C_let54 {h : Mem} {K : Nat} {cl : Cl} (c : CK K) (R : RK h K cl) (num p : Int32) (hp : p = 0 ∨ p = 1 ∨ p = 2) : Tr (f_X0_carryLetter_54 K num p h) (fun _ h' => RK h' K (if p = 0 then cl else A_pu cl p num) ∧ FrK K h h') := by
  unfold f_X0_carryLetter_54 f_X0_carryLetter_73
  rw [c.1.2.2.2.2.1]
  rcases hp with rfl | rfl | rfl
  · rw [if_pos (by decide), if_pos rfl]
    exact wR ⟨R, FrK.rf⟩
  · rw [if_neg (by decide), if_pos rfl, if_neg (by decide)]
    exact wB (C_pu c R 1 num) (fun _ g P => wR P)
  · rw [if_neg (by decide), if_neg (by decide), if_neg (by decide)]
    exact wB (C_pu c R 2 num) (fun _ g P => wR P)
theorem C_letter {h : Mem} {K : Nat} {cl : Cl} (c : CK K) (R : RK h K cl) (hd : 0 < (cl.2 6).length) (num : Int32) (hp : g5 (gr (cl.2 6) 0) 3 = 0 ∨ g5 (gr (cl.2 6) 0) 3 = 1 ∨ g5 (gr (cl.2 6) 0) 3 = 2) (h4 : A_kix cl num = -4 → g5 (gr (cl.2 6) 0) 3 = 2 → (cl.2 8).length < 4) : Tr (f_X0_carryLetter K num h) (fun _ h' => RK h' K (A_carD cl 0 num (g5 (gr (cl.2 6) 0) 2) (g5 (gr (cl.2 6) 0) 3) (g5 (gr (cl.2 6) 0) 4) (g5 (gr (cl.2 6) 0) 5)) ∧ FrK K h h') := by
  unfold f_X0_carryLetter A_carD
  rw [if_neg (show ¬ (0 : Int32) = 3 by decide)]
  have I10 := c.2.1.2.2.2.2.1
  have c3 : f_X3_cell (K + 6) 0 3 h = some (g5 (gr (cl.2 6) 0) 3, h) := C_cell (i := 0) (j := 3) c.2.1.2.2.1 R.2.2.2.2.1 hd (by omega)
  rw [c.1.2.2.2.1, c.1.2.2.2.2.2.1, c3, b2_some]
  have tk := C_takeFirst c R hd
  generalize g5 (gr (cl.2 6) 0) 2 = l at tk ⊢
  generalize g5 (gr (cl.2 6) 0) 4 = v at tk ⊢
  generalize g5 (gr (cl.2 6) 0) 5 = k at tk ⊢
  generalize g5 (gr (cl.2 6) 0) 3 = p at tk hp h4 ⊢
  by_cases e2 : p = 2
  · subst e2
    rw [if_pos (by decide), if_pos (by decide)]
    obtain ⟨kn, t6, hpm⟩ := R.2.2.2.2.2.2.1
    have l4 := t6.2.2.2.1
    have z := C_find (j := 0) I10 t6 (by omega) num
    rw [show f_X3_find (K + 10) 0 num h = _ from z, b2_some]
    have iff := fnd_kix (x := num) hpm l4
    by_cases e : A_kix cl num = -4
    · rw [if_pos e, iff.mpr e, if_neg (by decide)]
      refine wB tk (fun _ g P => ?_)
      obtain ⟨kn2, u6, hpm2⟩ := P.1.2.2.2.2.2.2.1
      rw [A_takes_8] at hpm2
      have hl2 : kn2.length < 4 := by
        rw [hpm2.length_eq]
        exact h4 e rfl
      refine wB (C_open I10 u6 hl2) (fun r g0 P0 => ?_)
      rw [P0.1]
      refine wB (C_putL (j := 0) I10 P0.2.1 (by omega) rfl num) (fun _ g1 P1 => ?_)
      have f := P0.2.2.tr P1.2
      have R2 : RK g1 K (sT (A_takes cl l 2 v k) 8 (cl.2 8 ++ [[num]])) := P.1.kn P1.1 (hpm2.append_right [[num]]) f
      refine wM (C_let54 c R2 num 2 (Or.inr (Or.inr rfl))) (fun _ g2 Q => ⟨?_, (P.2.tr (f.k (i := 10) (by omega))).tr Q.2⟩)
      have q := Q.1
      rw [if_neg (by decide)] at q
      exact q
    · rw [if_neg e]
      have e' : ¬ fnd kn 0 num = -1 := fun q => e (iff.mp q)
      rcases sIx_spec (-1) (fun i => g5 (gr kn i) 0 == num) kn.length 0 with ⟨q, -⟩ | ⟨j, -, hj, q, -, -⟩
      · exact absurd q e'
      have ej : fnd kn 0 num = nI j := q
      rw [ej, if_pos (nI_pos' (by omega))]
      refine wM (C_let54 c R num 2 (Or.inr (Or.inr rfl))) (fun _ g2 Q => ⟨?_, Q.2⟩)
      have q := Q.1
      rw [if_neg (by decide)] at q
      exact q
  · have n2 : ¬ (2 : Int32) ≤ p := by
      rcases hp with rfl | rfl | rfl
      · decide
      · decide
      · exact absurd rfl e2
    rw [if_neg n2, if_neg n2]
    refine wB tk (fun _ g P => ?_)
    refine wM (C_let54 c P.1 num p hp) (fun _ g2 Q => ⟨?_, P.2.tr Q.2⟩)
    have q := Q.1
    rcases hp with rfl | rfl | rfl
    · rw [if_pos rfl] at q
      rw [if_neg (by decide)]
      exact q
    · rw [if_neg (by decide)] at q
      rw [if_pos rfl]
      exact q
    · exact absurd rfl e2
