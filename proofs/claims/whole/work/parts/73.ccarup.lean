/-! the class: carryUp -/
theorem RK.mail {h h' : Mem} {K : Nat} {cl cl' : Cl} (R : RK h K cl) (f : ∀ a, a ≠ K → a ≠ K + 4 → a ≠ K + 5 → h' a = h a) (et : ∀ t, t ≠ 4 → t ≠ 5 → cl'.2 t = cl.2 t) (es : ∀ k, 12 ≤ k → k < 45 → cl'.1 k = cl.1 k) (S : RKs h' K cl') (D : RR h' (K + 4) 16 6 ((cl'.2 4).map fmR ++ (cl'.2 5).map qmR)) : RK h' K cl' := by
  obtain ⟨-, t1, t2, t3, t4, t5, ⟨kn, t6, t6'⟩, t7, t8⟩ := R
  refine ⟨S, ?_, ?_, D, ?_, ?_, ⟨kn, ?_, ?_⟩, ?_, ?_⟩
  · rw [et 3 (by omega) (by omega)]; exact t1.fr (f _ (by omega) (by omega) (by omega)) (f _ (by omega) (by omega) (by omega))
  · intro j hj
    rw [f (K + 3) (by omega) (by omega) (by omega), t2 j hj]
    congr 1
    funext i
    unfold lvS
    split
    · rw [es _ (by omega) (by omega)]
    · rfl
  · rw [et 6 (by omega) (by omega)]; exact t4.fr (f _ (by omega) (by omega) (by omega)) (f _ (by omega) (by omega) (by omega))
  · rw [et 7 (by omega) (by omega)]; exact t5.fr (f _ (by omega) (by omega) (by omega)) (f _ (by omega) (by omega) (by omega))
  · exact t6.fr (f _ (by omega) (by omega) (by omega)) (f _ (by omega) (by omega) (by omega))
  · rw [et 8 (by omega) (by omega)]; exact t6'
  · rw [et 11 (by omega) (by omega)]; exact t7.fr (f _ (by omega) (by omega) (by omega)) (f _ (by omega) (by omega) (by omega))
  · refine RW.congr (s := cl.1) ?_ (fun k h1 h2 => es k h1 (by omega))
    unfold RW
    rw [f (K + 14) (by omega) (by omega) (by omega)]
    exact t8
theorem fm_set5 {r : List Int32} (hr : r.length = 6) : (fmR r).set 4 1 = fmR (r.set 5 1) := by
  match r, hr with
  | [a, b, c, d, e, f], _ => rfl
theorem er_map (F : List Int32 → List Int32) : ∀ (l : List (List Int32)) (i : Nat), (l.map F).eraseIdx i = (l.eraseIdx i).map F
  | [], _ => rfl
  | _ :: _, 0 => rfl
  | a :: l, i + 1 => by
    show F a :: (l.map F).eraseIdx i = F a :: (l.eraseIdx i).map F
    rw [er_map F l i]
/-- one off the flight -/
theorem C_off {h : Mem} {K i : Nat} {cl : Cl} (c : CK K) (R : RK h K cl) (hi : i < (cl.2 4).length) : Tr (f_X0_carryUp_116 K (nI i) h) (fun _ h' => RK h' K (A_off cl i) ∧ FrK K h h') := by
  have l16 := R.len4
  unfold f_X0_carryUp_116 A_off
  rw [c.1.2.2.1]
  have M := R.2.2.2.1
  refine wB (C_remove (i := i) c.2.1.2.1 M (by simp; omega)) (fun _ g P => ?_)
  obtain ⟨s0, s1, s2, s3, s4, s5, s6, s7, s8⟩ := R.1
  have gK : g K = h K := P.2.1 K (by omega) (by omega)
  rw [mlet_eq, mlet_eq, mu_rdn (by omega), gK, s3, s8, li_1, nI_subP (by omega), ← li_1]
  have er : ((cl.2 4).map fmR ++ (cl.2 5).map qmR).eraseIdx i = ((cl.2 4).eraseIdx i).map fmR ++ (cl.2 5).map qmR := by
    rw [List.eraseIdx_append_of_lt_length (by simp; omega), er_map]
  have D := P.1
  rw [er] at D
  have R2 : RK (mu (mu g K 11 (nI ((cl.2 4).length - 1))) K 16 (cl.1 52 + 1)) K (sT (sS cl 52 (cl.1 52 + 1)) 4 ((cl.2 4).eraseIdx i)) := by
    refine R.mail (fun a h1 h2 h3 => by rw [mu_ne h1, mu_ne h1, P.2.1 a h2 h3]) (fun t h1 h2 => by rw [sT_ne h1]; rfl) (fun k h1 h2 => by rw [sT_1, sS_ne (by omega)]) ⟨?_, ?_, ?_, ?_, ?_, ?_, ?_, ?_, ?_⟩ ?_
    · rw [mu_rdn (by omega), mu_rdn (by omega), gK]; exact s0
    · rw [mu_rdn (by omega), mu_rdn (by omega), gK]; exact s1
    · rw [mu_rdn (by omega), mu_rdn (by omega), gK]; exact s2
    · rw [mu_rdn (by omega), mu_rde rfl, sT_eq, List.length_eraseIdx, if_pos hi]
    · rw [mu_rdn (by omega), mu_rdn (by omega), gK]; exact s4
    · rw [mu_rdn (by omega), mu_rdn (by omega), gK]; exact s5
    · rw [mu_rdn (by omega), mu_rdn (by omega), gK]; exact s6
    · rw [mu_rdn (by omega), mu_rdn (by omega), gK]; exact s7
    · rw [mu_rde rfl, sT_1]; exact (sS_eq _ _ _).symm
    · have e5 : (sT (sS cl 52 (cl.1 52 + 1)) 4 ((cl.2 4).eraseIdx i)).2 5 = cl.2 5 := by rw [sT_ne (by omega)]; rfl
      rw [sT_eq, e5]
      exact D.fr (by rw [mu_ne (by omega), mu_ne (by omega)]) (by rw [mu_ne (by omega), mu_ne (by omega)])
  have f2 : FrK K h (mu (mu g K 11 (nI ((cl.2 4).length - 1))) K 16 (cl.1 52 + 1)) := fun a ha => by rw [mu_ne (by omega), mu_ne (by omega), P.2.1 a (by omega) (by omega)]
  exact wB (C_launch c R2) (fun _ g2 Q => wR ⟨Q.1, f2.tr Q.2⟩)
/-- one is freed -/
theorem C_free {h : Mem} {K i : Nat} {cl : Cl} (c : CK K) (R : RK h K cl) (hi : i < (cl.2 4).length) (hr : (gr (cl.2 4) i).length = 6) (num : Int32) : Tr (b2 (f_X3_put (K + 4) (nI i) 4 1 h) fun _ h1 => b2 (f_X0_sendBare K (K + 6) 3 num h1) fun _ h2 => some ((), h2)) (fun _ h' => RK h' K (A_pd (sT cl 4 ((cl.2 4).set i ((gr (cl.2 4) i).set 5 1))) [3, num, -4, -4, -4, 0]) ∧ FrK K h h') := by
  have l16 := R.len4
  have M := R.2.2.2.1
  have e := gr_mapl (q := cl.2 5) hi fmR qmR
  refine wB (C_put (i := i) (j := 4) c.2.1.2.1 M (by simp; omega) (by omega) (by rw [e]; rfl) 1) (fun _ g P => ?_)
  have er : ((cl.2 4).map fmR ++ (cl.2 5).map qmR).set i ((gr ((cl.2 4).map fmR ++ (cl.2 5).map qmR) i).set 4 1) = ((cl.2 4).set i ((gr (cl.2 4) i).set 5 1)).map fmR ++ (cl.2 5).map qmR := by
    rw [e, fm_set5 hr, List.set_append_left _ _ (by simp; omega), List.map_set]
  have D := P.1
  rw [er] at D
  obtain ⟨s0, s1, s2, s3, s4, s5, s6, s7, s8⟩ := R.1
  have gK : g K = h K := P.2.1 K (by omega) (by omega)
  have R2 : RK g K (sT cl 4 ((cl.2 4).set i ((gr (cl.2 4) i).set 5 1))) := by
    refine R.mail (fun a h1 h2 h3 => P.2.1 a h2 h3) (fun t h1 h2 => sT_ne h1) (fun k h1 h2 => rfl) ⟨?_, ?_, ?_, ?_, ?_, ?_, ?_, ?_, ?_⟩ ?_
    · rw [gK]; exact s0
    · rw [gK]; exact s1
    · rw [gK]; exact s2
    · rw [gK, sT_eq, List.length_set]; exact s3
    · rw [gK]; exact s4
    · rw [gK]; exact s5
    · rw [gK]; exact s6
    · rw [gK]; exact s7
    · rw [gK]; exact s8
    · rw [sT_eq, sT_ne (by omega)]; exact D
  refine wB (C_sendBare c.2.1.2.2.1 R2.2.2.2.2.1 3 num) (fun _ g2 Q => wR ⟨?_, (P.2.k (i := 4) (by omega)).tr (Q.2.k (i := 6) (by omega))⟩)
  rw [A_pd_eq]
  exact R2.dn c Q.1 Q.2
