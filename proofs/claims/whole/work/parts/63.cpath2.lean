/-! the class: paths, more -/
theorem smod32 : ∀ s, s < 32 → (BitVec.ofNat 32 s).smod 32 = BitVec.ofNat 32 s := by decide +kernel
theorem nI_shl {n s : Nat} (hs : s < 32) (hn : n * 2 ^ s < 2 ^ 31) : nI n <<< nI s = nI (n * 2 ^ s) := by
  apply Int32.toBitVec_inj.mp
  rw [Int32.toBitVec_shiftLeft, nI_bv, nI_bv, nI_bv]
  have e1 := smod32 s hs
  have hle : n ≤ n * 2 ^ s := Nat.le_mul_of_pos_right n (Nat.two_pow_pos s)
  rw [e1, BitVec.shiftLeft_eq', bv_nat (show s < 2 ^ 32 by omega)]
  apply BitVec.eq_of_toNat_eq
  rw [BitVec.toNat_shiftLeft, bv_nat (by omega), bv_nat (by omega), Nat.shiftLeft_eq, Nat.mod_eq_of_lt (by omega)]
theorem nI_or {a b : Nat} (ha : a < 2 ^ 31) (hb : b < 2 ^ 31) : nI a ||| nI b = nI (a ||| b) := by
  apply Int32.toBitVec_inj.mp
  rw [Int32.toBitVec_or, nI_bv, nI_bv, nI_bv]
  apply BitVec.eq_of_toNat_eq
  have := Nat.or_lt_two_pow ha hb
  rw [BitVec.toNat_or, bv_nat (by omega), bv_nat (by omega), bv_nat (by omega)]
def cnz (l : Nat → Nat) : Nat → Nat → Nat
  | 0, _ => 0
  | d + 1, k => (if l k = 0 then 0 else 1) + cnz l d (k + 1)
theorem C_count_4 {l : Nat → Nat} {h : Mem} (L : L5 l) : ∀ (d k s n : Nat), k + d = 4 → d < n → f_X1_count_4 n (pth l) (nI s) (nI k) h = some (nI (s + cnz l d k), h) := by
  have n0 : ∀ x, x < 32 → (nI x = 0 ↔ x = 0) := by decide +kernel
  intro d
  induction d with
  | zero =>
    intro k s n h1 h2
    obtain ⟨n, rfl⟩ : ∃ z, n = z + 1 := ⟨n - 1, by omega⟩
    unfold f_X1_count_4 cnz
    rw [if_pos (by rw [li_4, nI_leI (by omega) (by omega)]; omega)]
    rfl
  | succ d ih =>
    intro k s n h1 h2
    obtain ⟨n, rfl⟩ : ∃ z, n = z + 1 := ⟨n - 1, by omega⟩
    unfold f_X1_count_4 cnz f_X1_count_20
    rw [if_neg (by rw [li_4, nI_leI (by omega) (by omega)]; omega), C_levelAt L (by omega), b2_some, show nI k + 1 = nI (k + 1) by rw [li_1, nI_add], show nI s + 1 = nI (s + 1) by rw [li_1, nI_add]]
    by_cases e : l k = 0
    · rw [if_pos ((n0 _ (L k)).mpr e), if_pos e, ih (k + 1) s n (by omega) (by omega), Nat.zero_add]
    · rw [if_neg (fun w => e ((n0 _ (L k)).mp w)), if_neg e, ih (k + 1) (s + 1) n (by omega) (by omega), Nat.add_assoc]
theorem C_count {l : Nat → Nat} {h : Mem} (L : L5 l) : f_X1_count (pth l) h = some (nI (cnz l 4 0), h) := by
  have z := C_count_4 (h := h) L 4 0 0 xFU (by omega) (by unfold xFU; omega)
  rw [Nat.zero_add] at z
  exact z
/-- a path of n levels -/
def Ln (l : Nat → Nat) (n : Nat) : Prop := n ≤ 4 ∧ (∀ j, j < n → ¬ l j = 0) ∧ ∀ j, n ≤ j → l j = 0
theorem Ln.zt {l : Nat → Nat} {n : Nat} (h : Ln l n) : Zt l := by
  intro j hj h0
  rcases Nat.lt_or_ge j n with z | z
  · exact absurd h0 (h.2.1 j z)
  · exact h.2.2 (j + 1) (by omega)
theorem Ln.cz {l : Nat → Nat} {n : Nat} (h : Ln l n) : cnz l 4 0 = n := by
  obtain ⟨h1, h2, h3⟩ := h
  unfold cnz cnz cnz cnz cnz
  have a : ∀ j, (if l j = 0 then 0 else 1) = if j < n then 1 else 0 := by
    intro j
    by_cases e : j < n
    · rw [if_neg (h2 j e), if_pos e]
    · rw [if_pos (h3 j (by omega)), if_neg e]
  rw [a, a, a, a]
  rcases (show n = 0 ∨ n = 1 ∨ n = 2 ∨ n = 3 ∨ n = 4 by omega) with rfl | rfl | rfl | rfl | rfl <;> decide
theorem C_with {l : Nat → Nat} {n x : Nat} {h : Mem} (L : L5 l) (N : Ln l n) (hn : n < 4) (hx : x < 32) : f_X1_with (pth l) (nI x) h = some (pth (ud l n x), h) := by
  unfold f_X1_with f_X1_shiftOf
  rw [C_count L, b2_some, N.cz, if_neg (by rw [li_4, nI_leI (by omega) (by omega)]; omega), b2_some, li_3, li_5, nI_subP (by omega), nI_mul, sh31 _ (by omega)]
  have b := pN_lt L
  have z := N.2.2
  obtain ⟨-, -, z⟩ := N
  have c0 := L 0
  have c1 := L 1
  have c2 := L 2
  have c3 := L 3
  have fin : ∀ s, s < 16 → (∃ q, pN l = 2 ^ (s + 5) * q) → pN (ud l n x) = pN l + x * 2 ^ s → pth l ||| nI x <<< nI s = pth (ud l n x) := by
    intro s hs ⟨q, hq⟩ e
    have hx2 : x * 2 ^ s < 2 ^ (s + 5) := by
      rw [Nat.pow_add, Nat.mul_comm]
      exact Nat.mul_lt_mul_of_pos_left hx (Nat.two_pow_pos s)
    have hp : (2 : Nat) ^ (s + 5) ≤ 2 ^ 20 := Nat.pow_le_pow_right (by omega) (by omega)
    unfold pth
    rw [nI_shl (by omega) (by omega), nI_or (by omega) (by omega), e, hq, Nat.two_pow_add_eq_or_of_lt hx2]
  congr 2
  rcases (show n = 0 ∨ n = 1 ∨ n = 2 ∨ n = 3 by omega) with rfl | rfl | rfl | rfl
  · refine fin 15 (by omega) ⟨0, ?_⟩ ?_
    · unfold pN
      rw [z 0 (by omega), z 1 (by omega), z 2 (by omega), z 3 (by omega)]
    · unfold pN
      rw [ud_eq, ud_ne (by omega), ud_ne (by omega), ud_ne (by omega), z 0 (by omega), z 1 (by omega), z 2 (by omega), z 3 (by omega)]
      omega
  · refine fin 10 (by omega) ⟨l 0, ?_⟩ ?_
    · unfold pN
      rw [z 1 (by omega), z 2 (by omega), z 3 (by omega)]
      omega
    · unfold pN
      rw [ud_eq, ud_ne (by omega), ud_ne (by omega), ud_ne (by omega), z 1 (by omega), z 2 (by omega), z 3 (by omega)]
      omega
  · refine fin 5 (by omega) ⟨l 0 * 32 + l 1, ?_⟩ ?_
    · unfold pN
      rw [z 2 (by omega), z 3 (by omega)]
      omega
    · unfold pN
      rw [ud_eq, ud_ne (by omega), ud_ne (by omega), ud_ne (by omega), z 2 (by omega), z 3 (by omega)]
      omega
  · refine fin 0 (by omega) ⟨l 0 * 1024 + l 1 * 32 + l 2, ?_⟩ ?_
    · unfold pN
      rw [z 3 (by omega)]
      omega
    · unfold pN
      rw [ud_eq, ud_ne (by omega), ud_ne (by omega), ud_ne (by omega), z 3 (by omega)]
      omega
theorem C_endsInRest {l : Nat → Nat} {n : Nat} {h : Mem} (L : L5 l) (N : Ln l n) : f_X1_endsInRest (pth l) h = some (if 0 < n ∧ l (n - 1) = 28 then 1 else 0, h) := by
  have n28 : ∀ x, x < 32 → (nI x = 28 ↔ x = 28) := by decide +kernel
  have hn := N.1
  unfold f_X1_endsInRest
  rw [C_count L, b2_some, N.cz]
  by_cases e : n = 0
  · subst e
    have o : f_X1_levelAt (pth l) (nI 0 - 1) h = some (0, h) := by
      unfold f_X1_levelAt
      rw [if_pos (by decide)]
    rw [o, b2_some, if_neg (by decide), if_neg (by omega)]
  · rw [show nI n - 1 = nI (n - 1) by rw [li_1, nI_subP (by omega)], C_levelAt L (by omega), b2_some]
    by_cases e2 : l (n - 1) = 28
    · rw [if_pos ((n28 _ (L _)).mpr e2), if_pos ⟨by omega, e2⟩]
    · rw [if_neg (fun w => e2 ((n28 _ (L _)).mp w)), if_neg (fun w => e2 w.2)]
theorem C_shareKey {g p : Nat} {h : Mem} (hg : g < 4) (hp : p < 1048576) : f_X1_shareKey (nI g) (nI p) h = some (nI (g * 1048576 + p), h) := by
  unfold f_X1_shareKey
  have e : (20 : Int32) &&& 31 = nI 20 := by decide
  have e2 : (2 : Nat) ^ 20 = 1048576 := by decide
  rw [e, nI_shl (by omega) (by rw [e2]; omega), e2, nI_or (by omega) (by omega)]
  have := Nat.two_pow_add_eq_or_of_lt (i := 20) (b := p) (by omega) g
  rw [e2] at this
  rw [Nat.mul_comm, ← this]
theorem C_filterOf {g p : Nat} {h : Mem} (hg : g < 4) (hp : p < 1048576) : f_X1_filterOf (nI (g * 1048576 + p)) h = some (nI p, h) := by
  unfold f_X1_filterOf
  have e : (1048575 : Int32) = nI 1048575 := by decide +kernel
  have e3 : nI (g * 1048576 + p) &&& nI 1048575 = nI p := by
    apply Int32.toBitVec_inj.mp
    rw [Int32.toBitVec_and, nI_bv, nI_bv, nI_bv]
    apply BitVec.eq_of_toNat_eq
    rw [BitVec.toNat_and, bv_nat (by omega), bv_nat (by omega), bv_nat (by omega)]
    have := Nat.and_two_pow_sub_one_eq_mod (g * 1048576 + p) 20
    rw [show (2 : Nat) ^ 20 - 1 = 1048575 by decide, show (2 : Nat) ^ 20 = 1048576 by decide] at this
    rw [this]
    omega
  rw [e, e3]
theorem C_groupOf {g p : Nat} {h : Mem} (hg : g < 4) (hp : p < 1048576) : f_X1_groupOf (nI (g * 1048576 + p)) h = some (nI g, h) := by
  unfold f_X1_groupOf
  have e : (20 : Int32) &&& 31 = nI 20 := by decide
  rw [e, nI_shr (by omega) (by omega), show (2 : Nat) ^ 20 = 1048576 by decide]
  congr 3
  omega
