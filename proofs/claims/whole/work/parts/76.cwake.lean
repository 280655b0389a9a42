/-! the class: a client wakes, falls asleep, is cleared -/
theorem RK.wl {h h' : Mem} {K : Nat} {cl cl' : Cl} (R : RK h K cl) (f : ∀ a, a ≠ K + 14 → h' a = h a) (et : ∀ t, cl'.2 t = cl.2 t) (es : ∀ k, k < 12 ∨ 28 < k → cl'.1 k = cl.1 k) (W : RW h' (K + 14) cl'.1) : RK h' K cl' := by
  obtain ⟨⟨s0, s1, s2, s3, s4, s5, s6, s7, s8⟩, t1, t2, t3, t4, t5, ⟨kn, t6, t6'⟩, t7, t8⟩ := R
  have eK : h' K = h K := f K (by omega)
  refine ⟨⟨?_, ?_, ?_, ?_, ?_, ?_, ?_, ?_, ?_⟩, ?_, ?_, ?_, ?_, ?_, ⟨kn, ?_, ?_⟩, ?_, W⟩
  · rw [eK, es 0 (by omega)]; exact s0
  · rw [eK, es 1 (by omega)]; exact s1
  · rw [eK, es 2 (by omega)]; exact s2
  · rw [eK, et]; exact s3
  · rw [eK, es 9 (by omega)]; exact s4
  · rw [eK, es 50 (by omega)]; exact s5
  · rw [eK, es 51 (by omega)]; exact s6
  · rw [eK, es 10 (by omega)]; exact s7
  · rw [eK, es 52 (by omega)]; exact s8
  · rw [et]; exact t1.fr (f _ (by omega)) (f _ (by omega))
  · intro j hj
    rw [f (K + 3) (by omega), t2 j hj]
    congr 1
    funext i
    unfold lvS
    split
    · rw [es _ (by omega)]
    · rfl
  · rw [et, et]; exact t3.fr (f _ (by omega)) (f _ (by omega))
  · rw [et]; exact t4.fr (f _ (by omega)) (f _ (by omega))
  · rw [et]; exact t5.fr (f _ (by omega)) (f _ (by omega))
  · exact t6.fr (f _ (by omega)) (f _ (by omega))
  · rw [et]; exact t6'
  · rw [et]; exact t7.fr (f _ (by omega)) (f _ (by omega))
theorem clr (k : Nat) (h : Mem) : f_X3_clear k h = some ((), mu h k 3 0) := by
  unfold f_X3_clear
  rw [mlet_eq]
theorem RR.cl0 {h : Mem} {k m w : Nat} {rows : List (List Int32)} (R : RR h k m w rows) : RR (mu h k 3 0) k m w [] := by
  obtain ⟨v, g, e, P⟩ := C_clear R
  rw [clr] at e
  cases e
  exact P.1
theorem C_clearLines {h : Mem} {K : Nat} {cl : Cl} (c : CK K) (R : RK h K cl) : Tr (f_X0_clearLines K h) (fun _ h' => RK h' K (sT (sT cl 6 []) 7 []) ∧ FrK K h h') := by
  unfold f_X0_clearLines
  rw [c.1.2.2.2.1, c.1.2.2.2.2.1]
  refine wB (C_clear R.2.2.2.2.1) (fun _ g P => ?_)
  have R1 := R.dn c P.1 P.2
  refine wB (C_clear R1.2.2.2.2.2.1) (fun _ g2 Q => wR ⟨R1.up Q.1 Q.2, (P.2.k (i := 6) (by omega)).tr (Q.2.k (i := 8) (by omega))⟩)
theorem C_drop {h : Mem} {K : Nat} {cl : Cl} (c : CK K) (R : RK h K cl) : Tr (f_X5_drop (K + 14) h) (fun _ h' => RK h' K (sS (sS cl 12 0) 21 (-4)) ∧ FrK K h h') := by
  unfold f_X5_drop
  rw [mlet_eq]
  refine wR ⟨R.wl (fun a ha => mu_ne ha) (fun _ => rfl) (fun k hk => by rw [sS_ne (by omega), sS_ne (by omega)]) ?_, fun a ha => mu_ne (by omega)⟩
  unfold RW
  rw [sS_ne (by omega), sS_eq, if_neg (by decide), sS_eq, if_pos rfl, mu_rde rfl, mu_rdn (by omega)]
  exact ⟨R.2.2.2.2.2.2.2.2.1, rfl⟩
theorem C_awaken {h : Mem} {K : Nat} {cl : Cl} (c : CK K) (R : RK h K cl) (lf : Int32) : Tr (f_X0_awaken K lf h) (fun _ h' => RK h' K (A_wk cl lf) ∧ FrK K h h') := by
  unfold f_X0_awaken
  rw [mlet_eq, mlet_eq, c.1.2.2.2.2.2.2.2]
  have R1 : RK (mu (mu h K 8 1) K 9 lf) K (sS (sS cl 0 1) 1 lf) := by
    obtain ⟨s0, s1, s2, s3, s4, s5, s6, s7, s8⟩ := R.1
    refine R.scal (fun a ha => by rw [mu_ne ha, mu_ne ha]) (fun _ => rfl) (fun k h1 h2 => by rw [sS_ne (by omega), sS_ne (by omega)]) ⟨?_, ?_, ?_, ?_, ?_, ?_, ?_, ?_, ?_⟩
    · rw [mu_rdn (by omega), mu_rde rfl]; rfl
    · rw [mu_rde rfl]; rfl
    · rw [mu_rdn (by omega), mu_rdn (by omega)]; exact s2
    · rw [mu_rdn (by omega), mu_rdn (by omega)]; exact s3
    · rw [mu_rdn (by omega), mu_rdn (by omega)]; exact s4
    · rw [mu_rdn (by omega), mu_rdn (by omega)]; exact s5
    · rw [mu_rdn (by omega), mu_rdn (by omega)]; exact s6
    · rw [mu_rdn (by omega), mu_rdn (by omega)]; exact s7
    · rw [mu_rdn (by omega), mu_rdn (by omega)]; exact s8
  have f1 : FrK K h (mu (mu h K 8 1) K 9 lf) := fun a ha => by rw [mu_ne (by omega), mu_ne (by omega)]
  generalize mu (mu h K 8 1) K 9 lf = g at R1 f1 ⊢
  refine wB (C_clearLines c R1) (fun _ g1 P1 => ?_)
  refine wB (C_drop c P1.1) (fun _ g2 P2 => ?_)
  have R2 : RK g2 K (A_wk0 cl lf) := P2.1
  have e4 : (A_wk0 cl lf).2 4 = cl.2 4 := by unfold A_wk0; rw [sT_ne (by omega), sT_ne (by omega)]; rfl
  refine wB (C_sendAgain c R2) (fun _ g3 P3 => ?_)
  refine wB (C_launch c P3.2.1) (fun _ g4 P4 => wR ⟨?_, (((f1.tr P1.2).tr P2.2).tr P3.2.2).tr P4.2⟩)
  have q := P4.1
  rw [e4] at q
  exact q
def A_sl0 (cl : Cl) (clk : Int32) : Cl := sT (sT (sS (sS cl 0 2) 2 (clk + cl.1 1)) 6 []) 7 []
theorem C_fallAsleep {h : Mem} {K : Nat} {cl : Cl} (c : CK K) (R : RK h K cl) (clk : Int32) : Tr (f_X0_fallAsleep K clk h) (fun _ h' => RK h' K (A_sl0 cl clk) ∧ FrK K h h') := by
  unfold f_X0_fallAsleep
  have e9 : mu h K 8 2 K 9 = cl.1 1 := by rw [mu_rdn (by omega)]; exact R.1.2.1
  rw [mlet_eq, mlet_eq, e9]
  have R1 : RK (mu (mu h K 8 2) K 10 (clk + cl.1 1)) K (sS (sS cl 0 2) 2 (clk + cl.1 1)) := by
    obtain ⟨s0, s1, s2, s3, s4, s5, s6, s7, s8⟩ := R.1
    refine R.scal (fun a ha => by rw [mu_ne ha, mu_ne ha]) (fun _ => rfl) (fun k h1 h2 => by rw [sS_ne (by omega), sS_ne (by omega)]) ⟨?_, ?_, ?_, ?_, ?_, ?_, ?_, ?_, ?_⟩
    · rw [mu_rdn (by omega), mu_rde rfl]; rfl
    · rw [mu_rdn (by omega), mu_rdn (by omega)]; exact s1
    · rw [mu_rde rfl]; rfl
    · rw [mu_rdn (by omega), mu_rdn (by omega)]; exact s3
    · rw [mu_rdn (by omega), mu_rdn (by omega)]; exact s4
    · rw [mu_rdn (by omega), mu_rdn (by omega)]; exact s5
    · rw [mu_rdn (by omega), mu_rdn (by omega)]; exact s6
    · rw [mu_rdn (by omega), mu_rdn (by omega)]; exact s7
    · rw [mu_rdn (by omega), mu_rdn (by omega)]; exact s8
  have f1 : FrK K h (mu (mu h K 8 2) K 10 (clk + cl.1 1)) := fun a ha => by rw [mu_ne (by omega), mu_ne (by omega)]
  generalize mu (mu h K 8 2) K 10 (clk + cl.1 1) = g at R1 f1 ⊢
  refine wB (C_clearLines c R1) (fun _ g1 P1 => wR ⟨P1.1, f1.tr P1.2⟩)
theorem C_told {h : Mem} {K : Nat} {cl : Cl} (R : RK h K cl) : Tr (f_X0_beToldAsleep K h) (fun _ h' => RK h' K (sS (sS (sS cl 0 2) 1 99) 2 99) ∧ FrK K h h') := by
  unfold f_X0_beToldAsleep
  rw [mlet_eq, mlet_eq, mlet_eq]
  refine wR ⟨?_, fun a ha => by rw [mu_ne (by omega), mu_ne (by omega), mu_ne (by omega)]⟩
  obtain ⟨s0, s1, s2, s3, s4, s5, s6, s7, s8⟩ := R.1
  refine R.scal (fun a ha => by rw [mu_ne ha, mu_ne ha, mu_ne ha]) (fun _ => rfl) (fun k h1 h2 => by rw [sS_ne (by omega), sS_ne (by omega), sS_ne (by omega)]) ⟨?_, ?_, ?_, ?_, ?_, ?_, ?_, ?_, ?_⟩
  · rw [mu_rdn (by omega), mu_rdn (by omega), mu_rde rfl]; rfl
  · rw [mu_rdn (by omega), mu_rde rfl]; rfl
  · rw [mu_rde rfl]; rfl
  · rw [mu_rdn (by omega), mu_rdn (by omega), mu_rdn (by omega)]; exact s3
  · rw [mu_rdn (by omega), mu_rdn (by omega), mu_rdn (by omega)]; exact s4
  · rw [mu_rdn (by omega), mu_rdn (by omega), mu_rdn (by omega)]; exact s5
  · rw [mu_rdn (by omega), mu_rdn (by omega), mu_rdn (by omega)]; exact s6
  · rw [mu_rdn (by omega), mu_rdn (by omega), mu_rdn (by omega)]; exact s7
  · rw [mu_rdn (by omega), mu_rdn (by omega), mu_rdn (by omega)]; exact s8
/-- the aliases are wiped -/
theorem C_cs34 {K : Nat} (c : CK K) {Q : Unit → Mem → Prop} (R0 : Mem → Prop) (hR : ∀ g g', R0 g → (∀ a, a ≠ K + 3 → g' a = g a) → R0 g') (fin : ∀ g, R0 g → (∀ j, j < 4 → g (K + 3) j = 0) → Tr (b2 (f_X3_clear (K + 4) g) fun _ h1 => b2 (f_X0_clearLines K h1) fun _ h2 => b2 (f_X3_clear (K + 10) h2) fun _ h3 => some ((), h3)) Q) : ∀ (d k n : Nat) (h : Mem), k + d = 4 → d < n → R0 h → (∀ j, j < k → h (K + 3) j = 0) → Tr (f_X0_clearSession_34 n K (nI k) h) Q := by
  intro d
  induction d with
  | zero =>
    intro k n h h1 h2 hr hz
    obtain ⟨n, rfl⟩ : ∃ z, n = z + 1 := ⟨n - 1, by omega⟩
    unfold f_X0_clearSession_34
    rw [if_pos (by rw [li_4, nI_leI (by omega) (by omega)]; omega), c.1.2.2.1, c.1.2.2.2.2.2.1]
    exact fin h hr (fun j hj => hz j (by omega))
  | succ d ih =>
    intro k n h h1 h2 hr hz
    obtain ⟨n, rfl⟩ : ∃ z, n = z + 1 := ⟨n - 1, by omega⟩
    unfold f_X0_clearSession_34
    rw [if_neg (by rw [li_4, nI_leI (by omega) (by omega)]; omega), c.1.2.1, ast_nI (by rw [c.2.2.1]; omega) (by omega), show nI k + 1 = nI (k + 1) by rw [li_1, nI_add]]
    refine ih (k + 1) n _ (by omega) (by omega) (hR h _ hr (fun a ha => mu_ne ha)) (fun j hj => ?_)
    by_cases e : j = k
    · rw [mu_rde e]
    · rw [mu_rdn e]; exact hz j (by omega)
theorem pth_0 {f : Nat → Int32} {k : Nat} (h : ∀ j, j < 4 → f (k + j) = 0) : pth (lvS f k) = 0 := by
  have e : ∀ j, lvS f k j = 0 := by
    intro j
    unfold lvS
    split
    · rename_i hj
      rw [h j hj]
      rfl
    · rfl
  unfold pth pN
  rw [e 0, e 1, e 2, e 3]
  rfl
theorem C_clearSession {h : Mem} {K : Nat} {cl : Cl} (c : CK K) (R : RK h K cl) (h12 : ¬ cl.1 12 = 1) : Tr (f_X0_clearSession K h) (fun _ h' => RK h' K (A_new cl 0) ∧ FrK K h h') := by
  obtain ⟨⟨s0, s1, s2, s3, s4, s5, s6, s7, s8⟩, t1, t2, t3, t4, t5, ⟨kn, t6, t6'⟩, t7, t8⟩ := R
  unfold f_X0_clearSession
  rw [mlet_eq, mlet_eq, mlet_eq, mlet_eq, mlet_eq, c.1.1]
  have f1 : ∀ a, a ≠ K → mu (mu (mu (mu (mu h K 8 0) K 9 0) K 10 0) K 11 0) K 12 0 a = h a := fun a ha => by rw [mu_ne ha, mu_ne ha, mu_ne ha, mu_ne ha, mu_ne ha]
  have k0 : ∀ x, 8 ≤ x → x ≤ 12 → mu (mu (mu (mu (mu h K 8 0) K 9 0) K 10 0) K 11 0) K 12 0 K x = 0 := by
    intro x h1 h2
    by_cases e12 : x = 12
    · rw [mu_rde e12]
    rw [mu_rdn e12]
    by_cases e11 : x = 11
    · rw [mu_rde e11]
    rw [mu_rdn e11]
    by_cases e10 : x = 10
    · rw [mu_rde e10]
    rw [mu_rdn e10]
    by_cases e9 : x = 9
    · rw [mu_rde e9]
    rw [mu_rdn e9, mu_rde (by omega)]
  have k1 : ∀ x, 12 < x → mu (mu (mu (mu (mu h K 8 0) K 9 0) K 10 0) K 11 0) K 12 0 K x = h K x := fun x hx => by rw [mu_rdn (by omega), mu_rdn (by omega), mu_rdn (by omega), mu_rdn (by omega), mu_rdn (by omega)]
  generalize mu (mu (mu (mu (mu h K 8 0) K 9 0) K 10 0) K 11 0) K 12 0 = g at f1 k0 k1 ⊢
  refine wB (C_clear (t1.fr (f1 _ (by omega)) (f1 _ (by omega)))) (fun _ g1 P1 => ?_)
  refine C_cs34 c (fun m => (∀ a, a ≠ K → a ≠ K + 1 → a ≠ K + 2 → a ≠ K + 3 → m a = h a) ∧ m K = g K ∧ RR m (K + 1) 6 3 []) ?_ ?_ 4 0 xFU g1 (by omega) (by unfold xFU; omega) ⟨fun a h1 h2 h3 h4 => by rw [P1.2.1 a h2 h3, f1 a h1], P1.2.1 K (by omega) (by omega), P1.1⟩ (fun j hj => by omega)
  · intro m m' ⟨r1, r2, r3⟩ fr
    exact ⟨fun a h1 h2 h3 h4 => by rw [fr a h4, r1 a h1 h2 h3 h4], by rw [fr K (by omega), r2], r3.fr (fr _ (by omega)) (fr _ (by omega))⟩
  · intro m ⟨r1, r2, r3⟩ hz
    have ft : ∀ {k mm w : Nat} {rows : List (List Int32)}, RR h k mm w rows → K + 4 ≤ k → RR m k mm w rows := fun T hk => T.fr (r1 _ (by omega) (by omega) (by omega) (by omega)) (r1 _ (by omega) (by omega) (by omega) (by omega))
    unfold f_X0_clearLines
    rw [c.1.2.2.2.1, c.1.2.2.2.2.1, clr, b2_some, clr, b2_some, clr, b2_some, b2_some, clr, b2_some]
    have g1' : ∀ a, a ≠ K + 4 → a ≠ K + 6 → a ≠ K + 8 → a ≠ K + 10 → mu (mu (mu (mu m (K + 4) 3 0) (K + 6) 3 0) (K + 8) 3 0) (K + 10) 3 0 a = m a := fun a h1 h2 h3 h4 => by rw [mu_ne h4, mu_ne h3, mu_ne h2, mu_ne h1]
    have T4 : RR (mu (mu (mu (mu m (K + 4) 3 0) (K + 6) 3 0) (K + 8) 3 0) (K + 10) 3 0) (K + 4) 16 6 [] := (ft t3 (by omega)).cl0.fr (by rw [mu_ne (by omega), mu_ne (by omega), mu_ne (by omega)]) (by rw [mu_ne (by omega), mu_ne (by omega), mu_ne (by omega)])
    have T6 : RR (mu (mu (mu (mu m (K + 4) 3 0) (K + 6) 3 0) (K + 8) 3 0) (K + 10) 3 0) (K + 6) 16 6 [] := (((ft t4 (by omega)).fr (mu_ne (by omega)) (mu_ne (by omega))).cl0 (h := mu m (K + 4) 3 0)).fr (by rw [mu_ne (by omega), mu_ne (by omega)]) (by rw [mu_ne (by omega), mu_ne (by omega)])
    have T8 : RR (mu (mu (mu (mu m (K + 4) 3 0) (K + 6) 3 0) (K + 8) 3 0) (K + 10) 3 0) (K + 8) 16 6 [] := ((((ft t5 (by omega)).fr (h' := mu (mu m (K + 4) 3 0) (K + 6) 3 0) (by rw [mu_ne (by omega), mu_ne (by omega)]) (by rw [mu_ne (by omega), mu_ne (by omega)]))).cl0).fr (by rw [mu_ne (by omega)]) (by rw [mu_ne (by omega)])
    have T10 : RR (mu (mu (mu (mu m (K + 4) 3 0) (K + 6) 3 0) (K + 8) 3 0) (K + 10) 3 0) (K + 10) 4 1 [] := ((ft t6 (by omega)).fr (h' := mu (mu (mu m (K + 4) 3 0) (K + 6) 3 0) (K + 8) 3 0) (by rw [mu_ne (by omega), mu_ne (by omega), mu_ne (by omega)]) (by rw [mu_ne (by omega), mu_ne (by omega), mu_ne (by omega)])).cl0
    generalize mu (mu (mu (mu m (K + 4) 3 0) (K + 6) 3 0) (K + 8) 3 0) (K + 10) 3 0 = m' at g1' T4 T6 T8 T10 ⊢
    have eK : m' K = g K := by rw [g1' K (by omega) (by omega) (by omega) (by omega), r2]
    refine wR ⟨⟨⟨?_, ?_, ?_, ?_, ?_, ?_, ?_, ?_, ?_⟩, ?_, ?_, T4, T6, T8, ⟨[], T10, List.Perm.refl _⟩, ?_, ?_⟩, ?_⟩
    · rw [eK, k0 8 (by omega) (by omega)]; rfl
    · rw [eK, k0 9 (by omega) (by omega)]; rfl
    · rw [eK, k0 10 (by omega) (by omega)]; rfl
    · rw [eK, k0 11 (by omega) (by omega)]; rfl
    · rw [eK, k0 12 (by omega) (by omega)]; rfl
    · rw [eK, k1 13 (by omega)]; exact s5
    · rw [eK, k1 14 (by omega)]; exact s6
    · rw [eK, k1 15 (by omega)]; exact s7
    · rw [eK, k1 16 (by omega)]; exact s8
    · exact r3.fr (g1' _ (by omega) (by omega) (by omega) (by omega)) (g1' _ (by omega) (by omega) (by omega) (by omega))
    · intro j hj
      rw [g1' (K + 3) (by omega) (by omega) (by omega) (by omega), hz j hj]
      refine (pth_0 (fun i hi => ?_)).symm
      show (if 29 + 4 * j + i = 0 then _ else _) = _
      rw [if_neg (by omega), if_neg (by omega), if_neg (by omega)]
    · exact (ft t7 (by omega)).fr (g1' _ (by omega) (by omega) (by omega) (by omega)) (g1' _ (by omega) (by omega) (by omega) (by omega))
    · have e14 : m' (K + 14) = h (K + 14) := by rw [g1' _ (by omega) (by omega) (by omega) (by omega), r1 _ (by omega) (by omega) (by omega) (by omega)]
      have ek : ∀ k, 21 ≤ k → k ≤ 28 → (A_new cl 0).1 k = cl.1 k := by
        intro k q1 q2
        show (if k = 0 then _ else _) = _
        rw [if_neg (by omega), if_neg (by omega), if_pos (by omega)]
      have e12 : (A_new cl 0).1 12 = 0 := rfl
      have el : lvS (A_new cl 0).1 22 = lvS cl.1 22 := by
        funext i
        unfold lvS
        split
        · rw [ek _ (by omega) (by omega)]
        · rfl
      unfold RW at t8 ⊢
      rw [if_neg h12] at t8
      rw [e12, if_neg (by decide), e14, ek 21 (by omega) (by omega), el, ek 26 (by omega) (by omega), ek 27 (by omega) (by omega), ek 28 (by omega) (by omega)]
      exact t8
    · intro a ha
      rw [g1' a (by omega) (by omega) (by omega) (by omega), r1 a (by omega) (by omega) (by omega) (by omega)]
