/-! the reference: searches -/
theorem xFUs : ∃ n, xFU = n + 10 := ⟨19990, by decide +kernel⟩
def bI (b : Bool) : Int32 := if b = true then nI 1 else nI 0
theorem bI_n0 (b : Bool) : bI b = nI 0 ↔ b = false := by cases b <;> decide
theorem bI_0 (b : Bool) : bI b = 0 ↔ b = false := by cases b <;> decide
theorem zg_b {β : Type} (b : Bool) (k : Option β) : zg (bI b) k = k := by
  cases b
  · exact zg_0 k
  · exact zg_1 k
theorem li_27 : (27 : Int32) = nI 27 := by decide +kernel
theorem li_28 : (28 : Int32) = nI 28 := by decide +kernel
/-- four cells from b on in P are those of s -/
def sm4 (f : Nat → Int32) (b : Nat) (s : Nat → Int32) : Bool := f b == s 0 && f (b + 1) == s 1 && f (b + 2) == s 2 && f (b + 3) == s 3
def smF (f : Nat → Int32) (b : Nat) (s : Nat → Int32) : Nat → Nat → Bool
  | 0, _ => true
  | d + 1, k => f (b + k) == s k && smF f b s d (k + 1)
theorem smF_4 (f : Nat → Int32) (b : Nat) (s : Nat → Int32) : smF f b s 4 0 = sm4 f b s := by
  simp only [smF, sm4, Nat.add_zero, Nat.zero_add, Nat.reduceAdd, Bool.and_true, Bool.and_assoc]
theorem M_isSame_5 {P a b : Nat} {h : Mem} (hP : b + 4 ≤ xln P) (hP2 : xln P < 2 ^ 31) (ha : 4 ≤ xln a) : ∀ (d k n : Nat) (s : Bool), k + d = 4 → d < n → f_X8_isSame_5 n P (nI b) a (bI s) (nI k) h = some (bI (s && smF (h P) b (h a) d k), h) := by
  intro d
  induction d with
  | zero =>
    intro k n s h1 h2
    obtain ⟨n, rfl⟩ : ∃ z, n = z + 1 := ⟨n - 1, by omega⟩
    unfold f_X8_isSame_5 smF
    simp (disch := omega) only [li_4, nI_leI, if_pos, zg_b, Bool.and_true]
  | succ d ih =>
    intro k n s h1 h2
    obtain ⟨n, rfl⟩ : ∃ z, n = z + 1 := ⟨n - 1, by omega⟩
    unfold f_X8_isSame_5 smF f_X8_isSame_32 f_X8_isSame_33
    simp (disch := omega) only [li_4, li_1, nI_leI, if_neg, bI_0, nI_add, ald_nI]
    have z0 := ih (k + 1) n false (by omega) (by omega)
    have z1 := ih (k + 1) n true (by omega) (by omega)
    cases s
    · rw [if_pos rfl]
      exact z0
    · rw [if_neg (by decide)]
      by_cases e : h P (b + k) = h a k
      · rw [if_pos e]
        simp only [e, beq_self_eq_true, Bool.true_and]
        exact z1
      · rw [if_neg e]
        simp only [e, beq_eq_false_iff_ne.mpr e, Bool.true_and, Bool.false_and]
        exact z0
theorem M_isSame {P a b : Nat} {h : Mem} (hP : b + 4 ≤ xln P) (hP2 : xln P < 2 ^ 31) (ha : 4 ≤ xln a) : f_X8_isSame P (nI b) a h = some (bI (sm4 (h P) b (h a)), h) := by
  have z := M_isSame_5 (h := h) hP hP2 ha 4 0 xFU true (by omega) (by unfold xFU; omega)
  rw [smF_4, Bool.true_and] at z
  exact z
/-- the i-th subscription has these levels and this group -/
def sP (rows : List (List Int32)) (s : Nat → Int32) (g : Int32) : Nat → Bool := fun i => sm4 (g5 (gr rows i)) 0 s && g5 (gr rows i) 5 == g
def sbIx (rows : List (List Int32)) (s : Nat → Int32) (g : Int32) : Int32 := sIx (-4) (sP rows s g) rows.length 0
theorem M_subOf_3 {c P a : Nat} {cl : Cl} {h : Mem} (hc : c < 6) (hP : xln P = 6074) (ha : 4 ≤ xln a) (R : RB (bk (h P) c) cl) (g : Int32) : ∀ (d k n : Nat), k + d = (cl.2 3).length → d < n →
    f_X8_subOf_3 n P (nI c) a g (nI k) h = some (sIx (-4) (sP (cl.2 3) (h a) g) d k, h) := by
  have q1 : h P (308 + 961 * c + 3) = nI (cl.2 3).length := (R.2 3 rfl).1
  have q2 := (R.2 3 rfl).2.1
  rw [tc_3] at q2
  intro d
  induction d with
  | zero =>
    intro k n h1 h2
    obtain ⟨n, rfl⟩ : ∃ z, n = z + 1 := ⟨n - 1, by omega⟩
    unfold f_X8_subOf_3 sIx
    simp (disch := omega) only [li_3, M_at, b2_some, ald_nI, q1, nI_leI, if_pos]
  | succ d ih =>
    intro k n h1 h2
    obtain ⟨n, rfl⟩ : ∃ z, n = z + 1 := ⟨n - 1, by omega⟩
    have rr : ∀ j, j < 6 → h P (308 + 961 * c + (45 + 6 * k + j)) = g5 (gr (cl.2 3) k) j := fun j hj => (R.2 3 rfl).2.2 k j (by omega) (by rw [tw_3]; omega)
    have e4 : sm4 (h P) (308 + 961 * c + (45 + 6 * k)) (h a) = sm4 (g5 (gr (cl.2 3) k)) 0 (h a) := by
      unfold sm4
      have r0 := rr 0 (by omega)
      have r1 := rr 1 (by omega)
      have r2 := rr 2 (by omega)
      have r3 := rr 3 (by omega)
      simp only [Nat.add_zero, ← Nat.add_assoc, Nat.zero_add] at r0 r1 r2 r3 ⊢
      rw [r0, r1, r2, r3]
    have r5 := rr 5 (by omega)
    unfold f_X8_subOf_3 sIx f_X8_subOf_58
    simp (disch := omega) only [li_3, li_45, li_6, li_5, li_1, M_at, b2_some, ald_nI, q1, nI_leI, if_neg, nI_mul, nI_add, M_isSame, e4, r5]
    unfold sP
    cases e : sm4 (g5 (gr (cl.2 3) k)) 0 (h a)
    · rw [if_pos ((bI_0 false).mpr rfl), if_neg (by simp)]
      exact ih (k + 1) n (by omega) (by omega)
    · rw [if_neg (fun z => by cases (bI_0 true).mp z)]
      by_cases e2 : g5 (gr (cl.2 3) k) 5 = g
      · rw [if_pos e2, if_pos (by simp [e2])]
      · rw [if_neg e2, if_neg (by simp [e2])]
        exact ih (k + 1) n (by omega) (by omega)
theorem M_subOf {c P a : Nat} {cl : Cl} {h : Mem} (hc : c < 6) (hP : xln P = 6074) (ha : 4 ≤ xln a) (R : RB (bk (h P) c) cl) (g : Int32) : f_X8_subOf P (nI c) a g h = some (sbIx (cl.2 3) (h a) g, h) := by
  have q2 := (R.2 3 rfl).2.1
  rw [tc_3] at q2
  exact M_subOf_3 hc hP ha R g _ 0 xFU (by omega) (by unfold xFU; omega)
/-- a filter (at b) matches a topic -/
def mtF (f : Nat → Int32) (b : Nat) (t : Nat → Int32) : Nat → Nat → Bool
  | 0, _ => true
  | d + 1, k => f (b + k) == 28 || ((f (b + k) == t k || (f (b + k) == 27 && !(t k == 0))) && mtF f b t d (k + 1))
def mtc (f : Nat → Int32) (b : Nat) (t : Nat → Int32) : Bool := mtF f b t 4 0
theorem M_isMatching_2 {a b : Nat} {h : Mem} (hb : b + 4 ≤ 6074) (ha : 4 ≤ xln a) (ha2 : xln a < 2 ^ 31) : ∀ (d k n : Nat), k + d = 4 → d < n → f_X8_isMatching_2 n 390 (nI b) a (nI k) h = some (bI (mtF (h 391) b (h a) d k), h) := by
  have hx := xl_391
  intro d
  induction d with
  | zero =>
    intro k n h1 h2
    obtain ⟨n, rfl⟩ : ∃ z, n = z + 1 := ⟨n - 1, by omega⟩
    unfold f_X8_isMatching_2 mtF
    simp (disch := omega) only [li_4, nI_leI, if_pos]
    rfl
  | succ d ih =>
    intro k n h1 h2
    obtain ⟨n, rfl⟩ : ∃ z, n = z + 1 := ⟨n - 1, by omega⟩
    have z1 := ih (k + 1) n (by omega) (by omega)
    unfold f_X8_isMatching_2 mtF f_X8_isMatching_49
    simp (disch := omega) only [xr_0, li_4, li_1, nI_leI, if_neg, nI_add, ald_nI, z1]
    by_cases a1 : h 391 (b + k) = 28
    · rw [if_pos a1]
      simp only [a1, beq_self_eq_true, Bool.true_or]
      rfl
    · rw [if_neg a1]
      by_cases a2 : h 391 (b + k) = h a k
      · rw [if_pos a2]
        rw [beq_eq_false_iff_ne.mpr a1]
        simp only [a2, beq_self_eq_true, Bool.true_or, Bool.false_or, Bool.true_and]
      · rw [if_neg a2, beq_eq_false_iff_ne.mpr a1, beq_eq_false_iff_ne.mpr a2]
        by_cases a3 : h 391 (b + k) = 27
        · rw [if_pos a3]
          by_cases a4 : h a k = 0
          · rw [if_pos a4]
            simp only [a3, a4, beq_self_eq_true, Bool.not_true, Bool.and_false, Bool.false_or, Bool.false_and]
            rfl
          · rw [if_neg a4, beq_eq_false_iff_ne.mpr a4]
            simp only [a3, beq_self_eq_true, Bool.not_false, Bool.true_and, Bool.false_or]
        · rw [if_neg a3, beq_eq_false_iff_ne.mpr a3]
          simp only [Bool.false_and, Bool.false_or]
          rfl
theorem M_isMatching {a b : Nat} {h : Mem} (hb : b + 4 ≤ 6074) (ha : 4 ≤ xln a) (ha2 : xln a < 2 ^ 31) : f_X8_isMatching 390 (nI b) a h = some (bI (mtc (h 391) b (h a)), h) := M_isMatching_2 hb ha ha2 4 0 xFU (by omega) (by unfold xFU; omega)
