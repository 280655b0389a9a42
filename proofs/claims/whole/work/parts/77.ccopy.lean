/-! the class: a client is cleared, copied -/
theorem RK.cgr {h : Mem} {K : Nat} {cl cl' : Cl} (R : RK h K cl) (et : ∀ t, ict t = true → cl'.2 t = cl.2 t) (e0 : cl'.1 0 = cl.1 0) (e1 : cl'.1 1 = cl.1 1) (e2 : cl'.1 2 = cl.1 2) (e9 : cl'.1 9 = cl.1 9) (e10 : cl'.1 10 = cl.1 10) (e50 : cl'.1 50 = cl.1 50) (e51 : cl'.1 51 = cl.1 51) (e52 : cl'.1 52 = cl.1 52) (es : ∀ k, 29 ≤ k → k < 45 → cl'.1 k = cl.1 k) (W : RW h (K + 14) cl'.1) : RK h K cl' := by
  obtain ⟨⟨s0, s1, s2, s3, s4, s5, s6, s7, s8⟩, t1, t2, t3, t4, t5, ⟨kn, t6, t6'⟩, t7, t8⟩ := R
  refine ⟨⟨?_, ?_, ?_, ?_, ?_, ?_, ?_, ?_, ?_⟩, ?_, ?_, ?_, ?_, ?_, ⟨kn, t6, ?_⟩, ?_, W⟩
  · rw [e0]; exact s0
  · rw [e1]; exact s1
  · rw [e2]; exact s2
  · rw [et 4 rfl]; exact s3
  · rw [e9]; exact s4
  · rw [e50]; exact s5
  · rw [e51]; exact s6
  · rw [e10]; exact s7
  · rw [e52]; exact s8
  · rw [et 3 rfl]; exact t1
  · intro j hj
    rw [t2 j hj]
    congr 1
    funext i
    unfold lvS
    split
    · rw [es _ (by omega) (by omega)]
    · rfl
  · rw [et 4 rfl, et 5 rfl]; exact t3
  · rw [et 6 rfl]; exact t4
  · rw [et 7 rfl]; exact t5
  · rw [et 8 rfl]; exact t6'
  · rw [et 11 rfl]; exact t7
theorem C_clientClear {h : Mem} {K : Nat} {cl : Cl} (c : CK K) (R : RK h K cl) (h12 : ¬ cl.1 12 = 1) : Tr (f_X0_clear K h) (fun _ h' => RK h' K cl0 ∧ FrK K h h') := by
  unfold f_X0_clear
  rw [c.1.2.2.2.2.2.2.1, c.1.2.2.2.2.2.2.2]
  refine wB (C_clearSession c R h12) (fun _ g1 P1 => ?_)
  refine wB (C_drop c P1.1) (fun _ g2 P2 => ?_)
  refine wB (C_clear P2.1.2.2.2.2.2.2.2.1) (fun _ g3 P3 => ?_)
  have R3 := P2.1.tk P3.1 P3.2
  rw [mlet_eq, mlet_eq, mlet_eq, mlet_eq]
  have f3 := (P1.2.tr P2.2).tr (P3.2.k (i := 12) (by omega))
  have R4 : RK (mu (mu (mu (mu g3 K 13 0) K 14 0) K 15 0) K 16 0) K (sS (sS (sS (sS (sT (sS (sS (A_new cl 0) 12 0) 21 (-4)) 11 []) 50 0) 51 0) 10 0) 52 0) := by
    obtain ⟨s0, s1, s2, s3, s4, s5, s6, s7, s8⟩ := R3.1
    refine R3.scal (fun a ha => by rw [mu_ne ha, mu_ne ha, mu_ne ha, mu_ne ha]) (fun _ => rfl) (fun k h1 h2 => by rw [sS_ne (by omega), sS_ne (by omega), sS_ne (by omega), sS_ne (by omega)]) ⟨?_, ?_, ?_, ?_, ?_, ?_, ?_, ?_, ?_⟩
    · rw [mu_rdn (by omega), mu_rdn (by omega), mu_rdn (by omega), mu_rdn (by omega)]; exact s0
    · rw [mu_rdn (by omega), mu_rdn (by omega), mu_rdn (by omega), mu_rdn (by omega)]; exact s1
    · rw [mu_rdn (by omega), mu_rdn (by omega), mu_rdn (by omega), mu_rdn (by omega)]; exact s2
    · rw [mu_rdn (by omega), mu_rdn (by omega), mu_rdn (by omega), mu_rdn (by omega)]; exact s3
    · rw [mu_rdn (by omega), mu_rdn (by omega), mu_rdn (by omega), mu_rdn (by omega)]; exact s4
    · rw [mu_rdn (by omega), mu_rdn (by omega), mu_rdn (by omega), mu_rde rfl]; rfl
    · rw [mu_rdn (by omega), mu_rdn (by omega), mu_rde rfl]; rfl
    · rw [mu_rdn (by omega), mu_rde rfl]; rfl
    · rw [mu_rde rfl]; rfl
  refine wR ⟨R4.cgr ?_ rfl rfl rfl rfl rfl rfl rfl rfl ?_ ?_, fun a ha => by rw [mu_ne (by omega), mu_ne (by omega), mu_ne (by omega), mu_ne (by omega)]; exact f3 a ha⟩
  · intro t ht
    rcases ict_cases ht with rfl | rfl | rfl | rfl | rfl | rfl | rfl <;> rfl
  · intro k h1 h2
    rw [sS_ne (by omega), sS_ne (by omega), sS_ne (by omega), sS_ne (by omega), sT_1, sS_ne (by omega), sS_ne (by omega)]
    show (if k = 21 then _ else _) = (if k = 0 then _ else _)
    rw [if_neg (by omega), if_neg (by omega), if_neg (by omega), if_neg (by omega), if_neg (by omega)]
  · have w := R4.2.2.2.2.2.2.2.2
    have a12 : (sS (sS (sS (sS (sT (sS (sS (A_new cl 0) 12 0) 21 (-4)) 11 []) 50 0) 51 0) 10 0) 52 0).1 12 = 0 := rfl
    have a21 : (sS (sS (sS (sS (sT (sS (sS (A_new cl 0) 12 0) 21 (-4)) 11 []) 50 0) 51 0) 10 0) 52 0).1 21 = -4 := rfl
    have b12 : cl0.1 12 = 0 := rfl
    have b21 : cl0.1 21 = -4 := rfl
    unfold RW at w ⊢
    rw [a12, a21, if_neg (by decide), if_pos rfl] at w
    rw [b12, b21, if_neg (by decide), if_pos rfl]
    exact w
theorem C_willCopy {h : Mem} {W W2 : Nat} {s : Nat → Int32} (hne : W2 ≠ W) (R : RW h W2 s) : Tr (f_X5_copyFrom W W2 h) (fun _ h' => RW h' W s ∧ ∀ a, a ≠ W → h' a = h a) := by
  have h4 := R.1
  unfold f_X5_copyFrom
  have a0 : ∀ (j : Nat) (v : Int32) (m : Mem), mu m W j v W2 = m W2 := fun j v m => mu_ne hne
  rw [mlet_eq, mlet_eq, mlet_eq, mlet_eq, a0, a0, a0, a0]
  have z : ∀ k : Option (Unit × Mem), zg (h W2 4) k = k := by
    intro k
    unfold zg
    rw [if_pos h4]
  rw [z, mlet_eq, mlet_eq, a0, a0, a0]
  simp only [a0]
  have e : ∀ j, j ≤ 6 → mu (mu (mu (mu (mu (mu (mu h W 0 (h W2 0)) W 1 (h W2 1)) W 2 (h W2 2)) W 3 (h W2 3)) W 4 (h W2 4)) W 5 (h W2 5)) W 6 (h W2 6) W j = h W2 j := by
    intro j hj
    by_cases e6 : j = 6
    · rw [mu_rde e6, e6]
    rw [mu_rdn e6]
    by_cases e5 : j = 5
    · rw [mu_rde e5, e5]
    rw [mu_rdn e5]
    by_cases e4 : j = 4
    · rw [mu_rde e4, e4]
    rw [mu_rdn e4]
    by_cases e3 : j = 3
    · rw [mu_rde e3, e3]
    rw [mu_rdn e3]
    by_cases e2 : j = 2
    · rw [mu_rde e2, e2]
    rw [mu_rdn e2]
    by_cases e1 : j = 1
    · rw [mu_rde e1, e1]
    rw [mu_rdn e1, mu_rde (by omega), show j = 0 by omega]
  refine wR ⟨?_, fun a ha => by rw [mu_ne ha, mu_ne ha, mu_ne ha, mu_ne ha, mu_ne ha, mu_ne ha, mu_ne ha]⟩
  · unfold RW at R ⊢
    rw [e 0 (by omega), e 1 (by omega), e 2 (by omega), e 3 (by omega), e 4 (by omega), e 5 (by omega), e 6 (by omega)]
    exact R
