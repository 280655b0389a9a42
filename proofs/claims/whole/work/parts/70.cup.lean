/-! the class: the packets up, the numbers known -/
theorem RK.up {h h' : Mem} {K : Nat} {cl : Cl} {rows : List (List Int32)} (R : RK h K cl) (D : RR h' (K + 8) 16 6 (rows.map umR)) (f : FrR (K + 8) h h') : RK h' K (sT cl 7 rows) := by
  obtain ⟨⟨s0, s1, s2, s3, s4, s5, s6, s7, s8⟩, t1, t2, t3, t4, t5, ⟨kn, t6, t6'⟩, t7, t8⟩ := R
  have eK : h' K = h K := f.1 K (by omega) (by omega)
  have et : ∀ t, t ≠ 7 → (sT cl 7 rows).2 t = cl.2 t := fun t h1 => sT_ne h1
  have e7 : (sT cl 7 rows).2 7 = rows := sT_eq _ _ _
  refine ⟨⟨by rw [eK]; exact s0, by rw [eK]; exact s1, by rw [eK]; exact s2, by rw [eK, et 4 (by omega)]; exact s3, by rw [eK]; exact s4, by rw [eK]; exact s5, by rw [eK]; exact s6, by rw [eK]; exact s7, by rw [eK]; exact s8⟩, ?_, ?_, ?_, ?_, ?_, ⟨kn, ?_, by rw [et 8 (by omega)]; exact t6'⟩, ?_, ?_⟩
  · rw [et 3 (by omega)]; exact t1.off f (by omega) (by omega) (by omega)
  · rw [f.1 (K + 3) (by omega) (by omega)]; exact t2
  · rw [et 4 (by omega), et 5 (by omega)]; exact t3.off f (by omega) (by omega) (by omega)
  · rw [et 6 (by omega)]; exact t4.off f (by omega) (by omega) (by omega)
  · rw [e7]; exact D
  · exact t6.off f (by omega) (by omega) (by omega)
  · rw [et 11 (by omega)]; exact t7.off f (by omega) (by omega) (by omega)
  · show RW h' (K + 14) cl.1
    unfold RW
    rw [f.1 (K + 14) (by omega) (by omega)]
    exact t8
theorem RK.kn {h h' : Mem} {K : Nat} {cl : Cl} {rows kn : List (List Int32)} (R : RK h K cl) (D : RR h' (K + 10) 4 1 kn) (hp : kn.Perm rows) (f : FrR (K + 10) h h') : RK h' K (sT cl 8 rows) := by
  obtain ⟨⟨s0, s1, s2, s3, s4, s5, s6, s7, s8⟩, t1, t2, t3, t4, t5, -, t7, t8⟩ := R
  have eK : h' K = h K := f.1 K (by omega) (by omega)
  have et : ∀ t, t ≠ 8 → (sT cl 8 rows).2 t = cl.2 t := fun t h1 => sT_ne h1
  have e8 : (sT cl 8 rows).2 8 = rows := sT_eq _ _ _
  refine ⟨⟨by rw [eK]; exact s0, by rw [eK]; exact s1, by rw [eK]; exact s2, by rw [eK, et 4 (by omega)]; exact s3, by rw [eK]; exact s4, by rw [eK]; exact s5, by rw [eK]; exact s6, by rw [eK]; exact s7, by rw [eK]; exact s8⟩, ?_, ?_, ?_, ?_, ?_, ⟨kn, D, by rw [e8]; exact hp⟩, ?_, ?_⟩
  · rw [et 3 (by omega)]; exact t1.off f (by omega) (by omega) (by omega)
  · rw [f.1 (K + 3) (by omega) (by omega)]; exact t2
  · rw [et 4 (by omega), et 5 (by omega)]; exact t3.off f (by omega) (by omega) (by omega)
  · rw [et 6 (by omega)]; exact t4.off f (by omega) (by omega) (by omega)
  · rw [et 7 (by omega)]; exact t5.off f (by omega) (by omega) (by omega)
  · rw [et 11 (by omega)]; exact t7.off f (by omega) (by omega) (by omega)
  · show RW h' (K + 14) cl.1
    unfold RW
    rw [f.1 (K + 14) (by omega) (by omega)]
    exact t8
theorem A_pu_eq (cl : Cl) (k n : Int32) : A_pu cl k n = sT cl 7 (if (cl.2 7).length < 16 then cl.2 7 ++ [[k, n]] else cl.2 7) := by
  unfold A_pu
  split
  · rfl
  · rw [sT_self]
theorem C_pu {h : Mem} {K : Nat} {cl : Cl} (c : CK K) (R : RK h K cl) (kd nm : Int32) : Tr (f_X0_sendBare K (K + 8) kd nm h) (fun _ h' => RK h' K (A_pu cl kd nm) ∧ FrK K h h') := by
  refine wM (C_sendBare c.2.1.2.2.2.1 R.2.2.2.2.2.1 kd nm) (fun _ g P => ⟨?_, P.2.k (by omega)⟩)
  rw [A_pu_eq]
  refine R.up ?_ P.2
  have e : (if (cl.2 7).length < 16 then cl.2 7 ++ [[kd, nm]] else cl.2 7).map umR = if ((cl.2 7).map umR).length < 16 then (cl.2 7).map umR ++ [[kd, nm, -4, -4, -4, 0]] else (cl.2 7).map umR := by
    rw [List.length_map]
    split
    · rw [List.map_append]
      rfl
    · rfl
  rw [e]
  exact P.1
/-- found or not: the order does not matter -/
theorem sIx_none {z : Int32} {rows : List (List Int32)} {x : Int32} (hz : ∀ j, j < 2 ^ 31 → ¬ nI j = z) (hl : rows.length < 2 ^ 31) : sIx z (fun i => g5 (gr rows i) 0 == x) rows.length 0 = z ↔ ∀ r ∈ rows, ¬ g5 r 0 = x := by
  rcases sIx_spec z (fun i => g5 (gr rows i) 0 == x) rows.length 0 with ⟨e, h⟩ | ⟨j, h0, hj, e, h, -⟩
  · refine ⟨fun _ r hr q => ?_, fun _ => e⟩
    obtain ⟨i, hi, ei⟩ := List.getElem_of_mem hr
    have w := h i (by omega) (by omega)
    have eg : gr rows i = r := by simp [gr, List.getD, hi, ei]
    rw [eg, q] at w
    simp at w
  · refine ⟨fun q => absurd (e.symm.trans q) (hz j (by omega)), fun q => ?_⟩
    have hj2 : j < rows.length := by omega
    have w := q rows[j] (List.getElem_mem hj2)
    have eg : gr rows j = rows[j] := by simp [gr, List.getD, hj2]
    rw [eg] at h
    exact absurd (by simpa using h) w
theorem nI_ne1 {j : Nat} (h : j < 2 ^ 31) : ¬ nI j = -1 := by
  intro e
  have z := nI_pos' h
  rw [e] at z
  exact absurd z (by decide)
/-- the class finds a number known where the reference does -/
theorem fnd_kix {cl : Cl} {kn : List (List Int32)} {x : Int32} (hp : kn.Perm (cl.2 8)) (hl : kn.length ≤ 4) : fnd kn 0 x = -1 ↔ A_kix cl x = -4 := by
  have e := hp.length_eq
  unfold fnd A_kix
  rw [sIx_none (fun j hj => nI_ne1 hj) (by omega)]
  have z := sIx_none (z := -4) (rows := cl.2 8) (x := x) (fun j hj => nI_ne4 hj) (by omega)
  unfold kP
  rw [z]
  exact ⟨fun q r hr => q r (hp.mem_iff.mpr hr), fun q r hr => q r (hp.mem_iff.mp hr)⟩
