/-! the class: paths -/
theorem sh31 : ∀ s, s < 32 → nI s &&& 31 = nI s := by decide +kernel
theorem nI_bv {n : Nat} : (nI n).toBitVec = BitVec.ofNat 32 n := rfl
theorem bv_nat {n : Nat} (hn : n < 2 ^ 32) : (BitVec.ofNat 32 n).toNat = n := by
  rw [BitVec.toNat_ofNat, Nat.mod_eq_of_lt hn]
theorem nI_shr {n s : Nat} (hn : n < 2 ^ 31) (hs : s < 32) : nI n >>> nI s = nI (n / 2 ^ s) := by
  apply Int32.toBitVec_inj.mp
  rw [Int32.toBitVec_shiftRight, nI_bv, nI_bv, nI_bv]
  have e1 : (BitVec.ofNat 32 s).smod 32 = BitVec.ofNat 32 s := by
    revert s
    decide +kernel
  have hm : (BitVec.ofNat 32 n).msb = false := by
    rw [BitVec.msb_eq_false_iff_two_mul_lt, bv_nat (by omega)]
    omega
  have hle : n / 2 ^ s ≤ n := Nat.div_le_self _ _
  rw [e1, BitVec.sshiftRight', bv_nat (show s < 2 ^ 32 by omega), BitVec.sshiftRight_eq_of_msb_false hm]
  apply BitVec.eq_of_toNat_eq
  rw [BitVec.toNat_ushiftRight, bv_nat (by omega), bv_nat (by omega), Nat.shiftRight_eq_div_pow]
theorem li_31 : (31 : Int32) = nI 31 := by decide +kernel
theorem nI_and31 {n : Nat} (hn : n < 2 ^ 31) : nI n &&& 31 = nI (n % 32) := by
  apply Int32.toBitVec_inj.mp
  rw [Int32.toBitVec_and, li_31, nI_bv, nI_bv, nI_bv]
  apply BitVec.eq_of_toNat_eq
  rw [BitVec.toNat_and, bv_nat (by omega), bv_nat (by omega), bv_nat (by omega)]
  exact Nat.and_two_pow_sub_one_eq_mod n 5
/-- four levels in one int -/
def pN (l : Nat → Nat) : Nat := l 0 * 32768 + l 1 * 1024 + l 2 * 32 + l 3
def pth (l : Nat → Nat) : Int32 := nI (pN l)
def L5 (l : Nat → Nat) : Prop := ∀ j, l j < 32
theorem pN_lt {l : Nat → Nat} (h : L5 l) : pN l < 1048576 := by
  unfold pN
  have := h 0
  have := h 1
  have := h 2
  have := h 3
  omega
theorem C_levelAt {l : Nat → Nat} {j : Nat} {h : Mem} (L : L5 l) (hj : j < 4) : f_X1_levelAt (pth l) (nI j) h = some (nI (l j), h) := by
  have b := pN_lt L
  have c0 := L 0
  have c1 := L 1
  have c2 := L 2
  have c3 := L 3
  unfold f_X1_levelAt f_X1_shiftOf pth
  rw [if_neg (by rw [li_0, nI_ltI (by omega) (by omega)]; omega), if_pos (by rw [li_4, nI_ltI (by omega) (by omega)]; exact hj), b2_some, li_3, li_5, nI_subP (by omega), nI_mul, sh31 _ (by omega), nI_shr (by omega) (by omega), nI_and31 (Nat.lt_of_le_of_lt (Nat.div_le_self _ _) (by omega))]
  congr 3
  unfold pN
  rcases (show j = 0 ∨ j = 1 ∨ j = 2 ∨ j = 3 by omega) with rfl | rfl | rfl | rfl
  · show (l 0 * 32768 + l 1 * 1024 + l 2 * 32 + l 3) / 32768 % 32 = l 0
    omega
  · show (l 0 * 32768 + l 1 * 1024 + l 2 * 32 + l 3) / 1024 % 32 = l 1
    omega
  · show (l 0 * 32768 + l 1 * 1024 + l 2 * 32 + l 3) / 32 % 32 = l 2
    omega
  · show (l 0 * 32768 + l 1 * 1024 + l 2 * 32 + l 3) / 1 % 32 = l 3
    omega
theorem pth_inj {l l' : Nat → Nat} (L : L5 l) (L' : L5 l') : pth l = pth l' ↔ ∀ j, j < 4 → l j = l' j := by
  have b := pN_lt L
  have b' := pN_lt L'
  unfold pth
  rw [nI_eq (by omega) (by omega)]
  have c0 := L 0
  have c1 := L 1
  have c2 := L 2
  have c3 := L 3
  have d0 := L' 0
  have d1 := L' 1
  have d2 := L' 2
  have d3 := L' 3
  unfold pN
  constructor
  · intro e j hj
    rcases (show j = 0 ∨ j = 1 ∨ j = 2 ∨ j = 3 by omega) with rfl | rfl | rfl | rfl <;> omega
  · intro e
    rw [e 0 (by omega), e 1 (by omega), e 2 (by omega), e 3 (by omega)]
/-- a filter matches a topic, as the class says it -/
def cmF (l t : Nat → Nat) : Nat → Nat → Bool
  | 0, _ => true
  | d + 1, k => if l k = 28 then true else if l k = 0 ∨ t k = 0 then l k == t k else if l k = 27 ∨ l k = t k then cmF l t d (k + 1) else false
theorem C_matches_2 {l t : Nat → Nat} {h : Mem} (L : L5 l) (T : L5 t) : ∀ (d k n : Nat), k + d = 4 → d < n → f_X1_matches_2 n (pth l) (pth t) (nI k) h = some (bI (cmF l t d k), h) := by
  have n28 : ∀ x, x < 32 → (nI x = 28 ↔ x = 28) := by decide +kernel
  have n27 : ∀ x, x < 32 → (nI x = 27 ↔ x = 27) := by decide +kernel
  have n0 : ∀ x, x < 32 → (nI x = 0 ↔ x = 0) := by decide +kernel
  intro d
  induction d with
  | zero =>
    intro k n h1 h2
    obtain ⟨n, rfl⟩ : ∃ z, n = z + 1 := ⟨n - 1, by omega⟩
    unfold f_X1_matches_2 cmF
    rw [if_pos (by rw [li_4, nI_leI (by omega) (by omega)]; omega)]
    rfl
  | succ d ih =>
    intro k n h1 h2
    obtain ⟨n, rfl⟩ : ∃ z, n = z + 1 := ⟨n - 1, by omega⟩
    have z := ih (k + 1) n (by omega) (by omega)
    have q := L k
    have r := T k
    have m37 : l k = 0 ∨ t k = 0 → f_X1_matches_37 (nI (l k)) (nI (t k)) h = some (bI (l k == t k), h) := by
      intro _
      unfold f_X1_matches_37
      by_cases e : l k = t k
      · rw [if_pos (by rw [e])]
        simp [e]
        rfl
      · rw [if_neg (by rw [nI_eq (by omega) (by omega)]; exact e)]
        have : (l k == t k) = false := by simp [e]
        rw [this]
        rfl
    unfold f_X1_matches_2 cmF f_X1_matches_63
    rw [if_neg (by rw [li_4, nI_leI (by omega) (by omega)]; omega), C_levelAt L (by omega), b2_some, C_levelAt T (by omega), b2_some]
    by_cases e1 : l k = 28
    · rw [if_pos ((n28 _ q).mpr e1), if_pos e1]
      rfl
    · rw [if_neg (fun w => e1 ((n28 _ q).mp w)), if_neg e1]
      by_cases e2 : l k = 0
      · rw [if_pos ((n0 _ q).mpr e2), if_pos (Or.inl e2)]
        exact m37 (Or.inl e2)
      · rw [if_neg (fun w => e2 ((n0 _ q).mp w))]
        by_cases e3 : t k = 0
        · rw [if_pos ((n0 _ r).mpr e3), if_pos (Or.inr e3)]
          exact m37 (Or.inr e3)
        · rw [if_neg (fun w => e3 ((n0 _ r).mp w)), if_neg (show ¬ (l k = 0 ∨ t k = 0) from fun w => w.elim e2 e3), show nI k + 1 = nI (k + 1) by rw [li_1, nI_add]]
          by_cases e4 : l k = 27
          · rw [if_pos ((n27 _ q).mpr e4), if_pos (Or.inl e4)]
            exact z
          · rw [if_neg (fun w => e4 ((n27 _ q).mp w))]
            by_cases e5 : l k = t k
            · rw [if_pos (by rw [e5]), if_pos (Or.inr e5)]
              exact z
            · rw [if_neg (by rw [nI_eq (by omega) (by omega)]; exact e5), if_neg (show ¬ (l k = 27 ∨ l k = t k) from fun w => w.elim e4 e5)]
              rfl
theorem C_matches {l t : Nat → Nat} {h : Mem} (L : L5 l) (T : L5 t) : f_X1_matches (pth l) (pth t) h = some (bI (cmF l t 4 0), h) := C_matches_2 L T 4 0 xFU (by omega) (by unfold xFU; omega)
/-- a path whose levels end in zeros -/
def Zt (l : Nat → Nat) : Prop := ∀ j, j < 3 → l j = 0 → l (j + 1) = 0
theorem cmF_mtF {f t : Nat → Int32} {l m : Nat → Nat} (hf : ∀ j, j < 4 → f j = nI (l j)) (ht : ∀ j, j < 4 → t j = nI (m j)) (L : L5 l) (M : L5 m) (Zl : Zt l) (Zm : Zt m) (nw : ∀ j, j < 4 → m j ≤ 26) : ∀ (d k : Nat), k + d = 4 → cmF l m d k = mtF f 0 t d k := by
  have n28 : ∀ x, x < 32 → (nI x = 28 ↔ x = 28) := by decide +kernel
  have n27 : ∀ x, x < 32 → (nI x = 27 ↔ x = 27) := by decide +kernel
  have n0 : ∀ x, x < 32 → (nI x = 0 ↔ x = 0) := by decide +kernel
  -- behind the end of both all is zero
  have zz : ∀ (d k : Nat), k + d = 4 → (∀ j, k ≤ j → j < 4 → l j = 0 ∧ m j = 0) → mtF f 0 t d k = true := by
    intro d
    induction d with
    | zero => intro k _ _; rfl
    | succ d ih =>
      intro k hk hz
      have a := hz k (by omega) (by omega)
      unfold mtF
      rw [Nat.zero_add, hf k (by omega), ht k (by omega), a.1, a.2, ih (k + 1) (by omega) (fun j h1 h2 => hz j (by omega) h2)]
      simp
  have tail : ∀ (q : Nat → Nat), Zt q → ∀ k, q k = 0 → ∀ j, k ≤ j → j < 4 → q j = 0 := by
    intro q Z k h0 j h1 h2
    induction j with
    | zero => have : k = 0 := by omega
              subst this; exact h0
    | succ j ih =>
      by_cases e : k = j + 1
      · rw [← e]; exact h0
      · exact Z j (by omega) (ih (by omega) (by omega))
  intro d
  induction d with
  | zero => intro k _; rfl
  | succ d ih =>
    intro k hk
    have q := L k
    have r := M k
    have r26 := nw k (by omega)
    have z := ih (k + 1) (by omega)
    unfold cmF mtF
    rw [Nat.zero_add, hf k (by omega), ht k (by omega)]
    by_cases e1 : l k = 28
    · rw [if_pos e1, e1]
      rfl
    · have b1 : (nI (l k) == (28 : Int32)) = false := by
        rw [beq_eq_false_iff_ne]
        exact fun w => e1 ((n28 _ q).mp w)
      rw [if_neg e1, b1, Bool.false_or]
      by_cases e2 : l k = 0 ∨ m k = 0
      · rw [if_pos e2]
        by_cases e3 : l k = m k
        · have both : l k = 0 ∧ m k = 0 := by omega
          have := zz d (k + 1) (by omega) (fun j h1 h2 => ⟨tail l Zl k both.1 j (by omega) h2, tail m Zm k both.2 j (by omega) h2⟩)
          rw [this, both.1, both.2]
          rfl
        · have b2 : (nI (l k) == nI (m k)) = false := by
            rw [beq_eq_false_iff_ne]
            intro w
            rw [nI_eq (by omega) (by omega)] at w
            exact e3 w
          have b3 : (l k == m k) = false := by simp [e3]
          rw [b2, b3, Bool.false_or]
          by_cases e4 : l k = 27
          · have m0 : m k = 0 := by omega
            rw [m0]
            have : (nI 0 == (0 : Int32)) = true := by decide
            rw [this]
            simp
          · have b4 : (nI (l k) == (27 : Int32)) = false := by
              rw [beq_eq_false_iff_ne]
              exact fun w => e4 ((n27 _ q).mp w)
            rw [b4]
            simp
      · have b0 : (nI (m k) == (0 : Int32)) = false := by
          rw [beq_eq_false_iff_ne]
          exact fun w => e2 (Or.inr ((n0 _ r).mp w))
        rw [if_neg e2, b0]
        by_cases e5 : l k = 27 ∨ l k = m k
        · rw [if_pos e5, z]
          rcases e5 with e5 | e5
          · have : (nI (l k) == (27 : Int32)) = true := by rw [e5]; decide
            rw [this]
            simp
          · rw [e5]
            simp
        · have c1 : (nI (l k) == nI (m k)) = false := by
            rw [beq_eq_false_iff_ne]
            intro w
            rw [nI_eq (by omega) (by omega)] at w
            exact e5 (Or.inr w)
          have c2 : (nI (l k) == (27 : Int32)) = false := by
            rw [beq_eq_false_iff_ne]
            exact fun w => e5 (Or.inl ((n27 _ q).mp w))
          rw [if_neg e5, c1, c2]
          simp
