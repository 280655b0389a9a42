/-! the class: a client is copied -/
def AwK (K K2 : Nat) : Prop := K + 15 ≤ K2 ∨ K2 + 15 ≤ K
theorem sc9 {h : Mem} {K K2 : Nat} (hne : K2 ≠ K) : Tr (mlet (mu h K 8 (h K2 8)) fun h9 => mlet (mu h9 K 9 (h9 K2 9)) fun h10 => mlet (mu h10 K 10 (h10 K2 10)) fun h11 => mlet (mu h11 K 11 (h11 K2 11)) fun h12 => mlet (mu h12 K 12 (h12 K2 12)) fun h13 => mlet (mu h13 K 13 (h13 K2 13)) fun h14 => mlet (mu h14 K 14 (h14 K2 14)) fun h15 => mlet (mu h15 K 15 (h15 K2 15)) fun h16 => mlet (mu h16 K 16 (h16 K2 16)) fun h17 => some ((), h17)) (fun _ h' => (∀ j, 8 ≤ j → j ≤ 16 → h' K j = h K2 j) ∧ ∀ a, a ≠ K → h' a = h a) := by
  have a0 : ∀ (j : Nat) (v : Int32) (m : Mem), mu m K j v K2 = m K2 := fun j v m => mu_ne hne
  simp only [mlet_eq, a0]
  refine wR ⟨fun j h1 h2 => ?_, fun a ha => by simp only [mu_ne ha]⟩
  by_cases e16 : j = 16
  · rw [mu_rde e16, e16]
  rw [mu_rdn e16]
  by_cases e15 : j = 15
  · rw [mu_rde e15, e15]
  rw [mu_rdn e15]
  by_cases e14 : j = 14
  · rw [mu_rde e14, e14]
  rw [mu_rdn e14]
  by_cases e13 : j = 13
  · rw [mu_rde e13, e13]
  rw [mu_rdn e13]
  by_cases e12 : j = 12
  · rw [mu_rde e12, e12]
  rw [mu_rdn e12]
  by_cases e11 : j = 11
  · rw [mu_rde e11, e11]
  rw [mu_rdn e11]
  by_cases e10 : j = 10
  · rw [mu_rde e10, e10]
  rw [mu_rdn e10]
  by_cases e9 : j = 9
  · rw [mu_rde e9, e9]
  rw [mu_rdn e9, mu_rde (by omega), show j = 8 by omega]
theorem C_clientCopy {h : Mem} {K K2 : Nat} {cl cl2 : Cl} (c : CK K) (c2 : CK K2) (aw : AwK K K2) (D : RK h K cl) (S : RK h K2 cl2) : Tr (f_X0_copyFrom K K2 h) (fun _ h' => RK h' K cl2 ∧ FrK K h h') := by
  unfold AwK at aw
  obtain ⟨-, d1, -, d3, d4, d5, ⟨dk, d6, -⟩, d7, -⟩ := D
  obtain ⟨⟨s0, s1, s2, s3, s4, s5, s6, s7, s8⟩, t1, t2, t3, t4, t5, ⟨kn, t6, t6'⟩, t7, t8⟩ := S
  obtain ⟨⟨x0, x1, x2, x3, x4, x5, x6, x7⟩, ⟨I1, I4, I6, I8, I10, I12⟩, xl, -, hK⟩ := c
  obtain ⟨⟨y0, y1, y2, y3, y4, y5, y6, y7⟩, ⟨J1, J4, J6, J8, J10, J12⟩, yl, -, hK2⟩ := c2
  unfold f_X0_copyFrom
  rw [x0, x1, x2, x3, x4, x5, x6, x7, y0, y1, y2, y3, y4, y5, y6, y7]
  refine wB (C_copyFrom I1 J1 (by omega) (by omega) (by omega) d1 t1) (fun _ g1 P1 => ?_)
  have u1 : ∀ a, a ≤ K ∨ K + 3 ≤ a → g1 a = h a := fun a ha => P1.2.1 a (by omega) (by omega)
  rw [show (0 : Int32) = nI 0 from rfl, show (4 : Int32) = nI 4 from rfl, acp_nI (by omega) (by omega) (by omega) (by omega) (by omega)]
  have q2 : ∀ a, a ≠ K + 3 → mA g1 (K + 3) (fun j => if 0 ≤ j ∧ j < 0 + 4 then g1 (K2 + 3) (0 + (j - 0)) else g1 (K + 3) j) a = g1 a := fun a ha => mA_ne ha
  have q2' : ∀ j, j < 4 → mA g1 (K + 3) (fun j => if 0 ≤ j ∧ j < 0 + 4 then g1 (K2 + 3) (0 + (j - 0)) else g1 (K + 3) j) (K + 3) j = h (K2 + 3) j := by
    intro j hj
    rw [mA_eq, if_pos (by omega), Nat.zero_add, Nat.sub_zero, u1 _ (by omega)]
  generalize mA g1 (K + 3) (fun j => if 0 ≤ j ∧ j < 0 + 4 then g1 (K2 + 3) (0 + (j - 0)) else g1 (K + 3) j) = g2 at q2 q2' ⊢
  have u2 : ∀ a, a ≤ K ∨ K + 4 ≤ a → g2 a = h a := fun a ha => by rw [q2 a (by omega), u1 a (by omega)]
  have mv : ∀ {g : Mem} {n k m w : Nat} {rows : List (List Int32)}, (∀ a, a ≤ K ∨ K + n ≤ a → g a = h a) → RR h k m w rows → (k + 1 ≤ K ∨ K + n ≤ k) → RR g k m w rows := fun u R hk => R.fr (u _ (by omega)) (u _ (by omega))
  refine wB (C_copyFrom I4 J4 (by omega) (by omega) (by omega) (mv u2 d3 (by omega)) (mv u2 t3 (by omega))) (fun _ g3 P3 => ?_)
  have u3 : ∀ a, a ≤ K ∨ K + 6 ≤ a → g3 a = h a := fun a ha => by rw [P3.2.1 a (by omega) (by omega), u2 a (by omega)]
  refine wB (C_copyFrom I6 J6 (by omega) (by omega) (by omega) (mv u3 d4 (by omega)) (mv u3 t4 (by omega))) (fun _ g4 P4 => ?_)
  have u4 : ∀ a, a ≤ K ∨ K + 8 ≤ a → g4 a = h a := fun a ha => by rw [P4.2.1 a (by omega) (by omega), u3 a (by omega)]
  refine wB (C_copyFrom I8 J8 (by omega) (by omega) (by omega) (mv u4 d5 (by omega)) (mv u4 t5 (by omega))) (fun _ g5' P5 => ?_)
  have u5 : ∀ a, a ≤ K ∨ K + 10 ≤ a → g5' a = h a := fun a ha => by rw [P5.2.1 a (by omega) (by omega), u4 a (by omega)]
  refine wB (C_copyFrom I10 J10 (by omega) (by omega) (by omega) (mv u5 d6 (by omega)) (mv u5 t6 (by omega))) (fun _ g6 P6 => ?_)
  have u6 : ∀ a, a ≤ K ∨ K + 12 ≤ a → g6 a = h a := fun a ha => by rw [P6.2.1 a (by omega) (by omega), u5 a (by omega)]
  refine wB (C_copyFrom I12 J12 (by omega) (by omega) (by omega) (mv u6 d7 (by omega)) (mv u6 t7 (by omega))) (fun _ g7 P7 => ?_)
  have u7 : ∀ a, a ≤ K ∨ K + 14 ≤ a → g7 a = h a := fun a ha => by rw [P7.2.1 a (by omega) (by omega), u6 a (by omega)]
  have w7 : RW g7 (K2 + 14) cl2.1 := by
    unfold RW
    rw [u7 (K2 + 14) (by omega)]
    exact t8
  refine wB (C_willCopy (W := K + 14) (by omega) w7) (fun _ g8 P8 => ?_)
  have u8 : ∀ a, a ≤ K ∨ K + 15 ≤ a → g8 a = h a := fun a ha => by rw [P8.2 a (by omega), u7 a (by omega)]
  refine wM (sc9 (h := g8) (K := K) (K2 := K2) (by omega)) (fun _ g9 P9 => ?_)
  have e2 : g8 K2 = h K2 := u8 K2 (by omega)
  have n7 : ∀ a, a ≠ K → a ≠ K + 14 → g9 a = g7 a := fun a h1 h2 => by rw [P9.2 a h1, P8.2 a h2]
  have n6 : ∀ a, K < a → a < K + 12 → g9 a = g6 a := fun a h1 h2 => by rw [n7 a (by omega) (by omega), P7.2.1 a (by omega) (by omega)]
  have n5 : ∀ a, K < a → a < K + 10 → g9 a = g5' a := fun a h1 h2 => by rw [n6 a h1 (by omega), P6.2.1 a (by omega) (by omega)]
  have n4 : ∀ a, K < a → a < K + 8 → g9 a = g4 a := fun a h1 h2 => by rw [n5 a h1 (by omega), P5.2.1 a (by omega) (by omega)]
  have n3 : ∀ a, K < a → a < K + 6 → g9 a = g3 a := fun a h1 h2 => by rw [n4 a h1 (by omega), P4.2.1 a (by omega) (by omega)]
  have n2 : ∀ a, K < a → a < K + 4 → g9 a = g2 a := fun a h1 h2 => by rw [n3 a h1 (by omega), P3.2.1 a (by omega) (by omega)]
  have n1 : ∀ a, K < a → a < K + 3 → g9 a = g1 a := fun a h1 h2 => by rw [n2 a h1 (by omega), q2 a (by omega)]
  refine ⟨⟨⟨?_, ?_, ?_, ?_, ?_, ?_, ?_, ?_, ?_⟩, ?_, ?_, ?_, ?_, ?_, ⟨kn, ?_, t6'⟩, ?_, ?_⟩, ?_⟩
  · rw [P9.1 8 (by omega) (by omega), e2]; exact s0
  · rw [P9.1 9 (by omega) (by omega), e2]; exact s1
  · rw [P9.1 10 (by omega) (by omega), e2]; exact s2
  · rw [P9.1 11 (by omega) (by omega), e2]; exact s3
  · rw [P9.1 12 (by omega) (by omega), e2]; exact s4
  · rw [P9.1 13 (by omega) (by omega), e2]; exact s5
  · rw [P9.1 14 (by omega) (by omega), e2]; exact s6
  · rw [P9.1 15 (by omega) (by omega), e2]; exact s7
  · rw [P9.1 16 (by omega) (by omega), e2]; exact s8
  · exact P1.1.fr (n1 _ (by omega) (by omega)) (n1 _ (by omega) (by omega))
  · intro j hj
    rw [n2 (K + 3) (by omega) (by omega), q2' j hj]
    exact t2 j hj
  · exact P3.1.fr (n3 _ (by omega) (by omega)) (n3 _ (by omega) (by omega))
  · exact P4.1.fr (n4 _ (by omega) (by omega)) (n4 _ (by omega) (by omega))
  · exact P5.1.fr (n5 _ (by omega) (by omega)) (n5 _ (by omega) (by omega))
  · exact P6.1.fr (n6 _ (by omega) (by omega)) (n6 _ (by omega) (by omega))
  · exact P7.1.fr (n7 _ (by omega) (by omega)) (n7 _ (by omega) (by omega))
  · have w := P8.1
    unfold RW at w ⊢
    rw [P9.2 (K + 14) (by omega)]
    exact w
  · intro a ha
    rw [P9.2 a (by omega), u8 a (by omega)]
