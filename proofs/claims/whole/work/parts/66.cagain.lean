/-! the class: sendAgain -/
theorem RK.len4 {h : Mem} {K : Nat} {cl : Cl} (R : RK h K cl) : (cl.2 4).length + (cl.2 5).length ≤ 16 := by
  have := R.2.2.2.1.2.2.2.1
  simpa using this
theorem C_again2 {K : Nat} (c : CK K) : ∀ (d i n : Nat) (cl : Cl) (h : Mem), i + d = (cl.2 4).length → d < n → RK h K cl → Tr (f_X0_sendAgain_2 n K (nI i) h) (fun r h' => r = nI (cl.2 4).length ∧ RK h' K (A_snd d i cl) ∧ FrK K h h') := by
  intro d
  induction d with
  | zero =>
    intro i n cl h h1 h2 R
    obtain ⟨n, rfl⟩ : ∃ z, n = z + 1 := ⟨n - 1, by omega⟩
    have l16 := R.len4
    have q : h K 11 = nI (cl.2 4).length := R.1.2.2.2.1
    unfold f_X0_sendAgain_2 A_snd
    rw [q, if_pos (by rw [nI_leI (by omega) (by omega)]; omega)]
    exact wR ⟨rfl, R, FrK.rf⟩
  | succ d ih =>
    intro i n cl h h1 h2 R
    obtain ⟨n, rfl⟩ : ∃ z, n = z + 1 := ⟨n - 1, by omega⟩
    have l16 := R.len4
    have hi : i < (cl.2 4).length := by omega
    have q : h K 11 = nI (cl.2 4).length := R.1.2.2.2.1
    have x2 := c.1.2.2.1
    have x3 := c.1.2.2.2.1
    have e := gr_mapl (q := cl.2 5) hi fmR qmR
    have c4 : f_X3_cell (K + 4) (nI i) 4 h = some (g5 (gr (cl.2 4) i) 5, h) := by
      have z := C_cell (j := 4) c.2.1.2.1 R.2.2.2.1 (show i < _ by simp; omega) (by omega)
      rw [e] at z
      exact z
    have c0 : f_X3_cell (K + 4) (nI i) 0 h = some (g5 (gr (cl.2 4) i) 0, h) := by
      have z := C_cell (j := 0) c.2.1.2.1 R.2.2.2.1 (show i < _ by simp; omega) (by omega)
      rw [e] at z
      exact z
    have e4 := A_sends_ne (cl := cl) (i := i) (t := 4) (by omega)
    have go : ∀ g, RK g K (A_sends cl i) → FrK K h g → Tr (f_X0_sendAgain_2 n K (nI i + 1) g) (fun r h' => r = nI (cl.2 4).length ∧ RK h' K (A_snd d (i + 1) (A_sends cl i)) ∧ FrK K h h') := by
      intro g Rg fg
      rw [show nI i + 1 = nI (i + 1) by rw [li_1, nI_add]]
      exact wM (ih (i + 1) n (A_sends cl i) g (by rw [e4]; omega) (by omega) Rg) (fun r g2 Q => ⟨by rw [Q.1, e4], Q.2.1, fg.tr Q.2.2⟩)
    unfold f_X0_sendAgain_2 A_snd f_X0_sendAgain_49
    rw [q, if_neg (by rw [nI_leI (by omega) (by omega)]; omega), x2, x3, c4, b2_some]
    by_cases h5 : g5 (gr (cl.2 4) i) 5 = 1
    · rw [if_pos h5, c0, b2_some]
      exact wB (C_sendsF c R h5) (fun _ g P => go g P.1 P.2)
    · rw [if_neg h5]
      exact wB (C_sends c R hi h5) (fun _ g P => go g P.1 P.2)
theorem C_sendAgain {h : Mem} {K : Nat} {cl : Cl} (c : CK K) (R : RK h K cl) : Tr (f_X0_sendAgain K h) (fun r h' => r = nI (cl.2 4).length ∧ RK h' K (A_snd (cl.2 4).length 0 cl) ∧ FrK K h h') := by
  have l16 := R.len4
  exact C_again2 c (cl.2 4).length 0 xFU cl h (by omega) (by unfold xFU; omega) R
/-- a will's object depends on its own scalars -/
theorem RW.congr {h : Mem} {W : Nat} {s s' : Nat → Int32} (R : RW h W s) (e : ∀ k, 12 ≤ k → k ≤ 28 → s' k = s k) : RW h W s' := by
  have e1 : lvS s' 13 = lvS s 13 := by
    funext j
    unfold lvS
    split
    · rw [e (13 + j) (by omega) (by omega)]
    · rfl
  have e2 : lvS s' 22 = lvS s 22 := by
    funext j
    unfold lvS
    split
    · rw [e (22 + j) (by omega) (by omega)]
    · rfl
  unfold RW at R ⊢
  rw [e 12 (by omega) (by omega), e 21 (by omega) (by omega), e1, e2, e 17 (by omega) (by omega), e 18 (by omega) (by omega), e 19 (by omega) (by omega), e 20 (by omega) (by omega), e 26 (by omega) (by omega), e 27 (by omega) (by omega), e 28 (by omega) (by omega)]
  exact R
