/-! the class: Rows -/
/-- cell k is a Rows of at most m rows of w ints, its ints in cell k + 1 -/
def IsR (k m w : Nat) : Prop := xrf k 2 = k + 1 ∧ xln (k + 1) = m * w ∧ m * w < 2 ^ 20 ∧ 0 < w ∧ w < 100 ∧ m < 1000
def RR (h : Mem) (k m w : Nat) (rows : List (List Int32)) : Prop := h k 0 = nI m ∧ h k 1 = nI w ∧ h k 3 = nI rows.length ∧ rows.length ≤ m ∧ ∀ i j, i < rows.length → j < w → h (k + 1) (w * i + j) = g5 (gr rows i) j
/-- only k's size and k + 1 are touched -/
def FrR (k : Nat) (h h' : Mem) : Prop := (∀ a, a ≠ k → a ≠ k + 1 → h' a = h a) ∧ ∀ x, x ≠ 3 → h' k x = h k x
theorem FrR.rf {k : Nat} {h : Mem} : FrR k h h := ⟨fun _ _ _ => rfl, fun _ _ => rfl⟩
theorem FrR.tr {k : Nat} {h h1 h2 : Mem} (a : FrR k h h1) (b : FrR k h1 h2) : FrR k h h2 := ⟨fun z q1 q2 => (b.1 z q1 q2).trans (a.1 z q1 q2), fun x hx => (b.2 x hx).trans (a.2 x hx)⟩
theorem RR.fr {h h' : Mem} {k m w : Nat} {rows : List (List Int32)} (R : RR h k m w rows) (e : h' k = h k) (e2 : h' (k + 1) = h (k + 1)) : RR h' k m w rows := by
  obtain ⟨r1, r2, r3, r4, r5⟩ := R
  exact ⟨by rw [e]; exact r1, by rw [e]; exact r2, by rw [e]; exact r3, r4, fun i j hi hj => by rw [e2]; exact r5 i j hi hj⟩
theorem rIx {w i j m : Nat} (hi : i < m) (hj : j < w) : w * i + j < m * w := by
  have := Nat.mul_le_mul_left w (show i + 1 ≤ m from hi)
  rw [Nat.mul_add, Nat.mul_one, Nat.mul_comm w m] at this
  omega
theorem rIx_ne {w i j i0 j0 : Nat} (hj : j < w) (hj0 : j0 < w) (h : ¬ (i = i0 ∧ j = j0)) : w * i + j ≠ w * i0 + j0 := by
  intro z
  rcases Nat.lt_trichotomy i i0 with e | e | e
  · have := Nat.mul_le_mul_left w (show i + 1 ≤ i0 from e)
    rw [Nat.mul_add] at this
    omega
  · subst e
    exact h ⟨rfl, by omega⟩
  · have := Nat.mul_le_mul_left w (show i0 + 1 ≤ i from e)
    rw [Nat.mul_add] at this
    omega
theorem C_cell {h : Mem} {k m w i j : Nat} {rows : List (List Int32)} (I : IsR k m w) (R : RR h k m w rows) (hi : i < rows.length) (hj : j < w) : f_X3_cell k (nI i) (nI j) h = some (g5 (gr rows i) j, h) := by
  obtain ⟨r1, r2, r3, r4, r5⟩ := R
  obtain ⟨i1, i2, i3, i4, i5, i6⟩ := I
  have q := rIx (m := m) (show i < m by omega) hj
  unfold f_X3_cell
  rw [if_neg (by rw [li_0, nI_ltI (by omega) (by omega)]; omega), r3, if_neg (by rw [nI_leI (by omega) (by omega)]; omega), if_neg (by rw [li_0, nI_ltI (by omega) (by omega)]; omega), r2, if_pos (by rw [nI_ltI (by omega) (by omega)]; exact hj), i1, nI_mul, nI_add, Nat.mul_comm i w, ald_nI (by omega) (by omega), r5 i j hi hj]
theorem C_put {h : Mem} {k m w i j : Nat} {rows : List (List Int32)} (I : IsR k m w) (R : RR h k m w rows) (hi : i < rows.length) (hj : j < w) (hw : (gr rows i).length = w) (v : Int32) : Tr (f_X3_put k (nI i) (nI j) v h) (fun _ h' => RR h' k m w (rows.set i ((gr rows i).set j v)) ∧ FrR k h h') := by
  obtain ⟨r1, r2, r3, r4, r5⟩ := R
  obtain ⟨i1, i2, i3, i4, i5, i6⟩ := I
  have q := rIx (m := m) (show i < m by omega) hj
  unfold f_X3_put
  rw [if_neg (by rw [li_0, nI_ltI (by omega) (by omega)]; omega), r3, if_neg (by rw [nI_leI (by omega) (by omega)]; omega), if_neg (by rw [li_0, nI_ltI (by omega) (by omega)]; omega), r2, if_neg (by rw [nI_leI (by omega) (by omega)]; omega), i1, nI_mul, nI_add, Nat.mul_comm i w, ast_nI (by omega) (by omega)]
  refine wR ⟨⟨?_, ?_, ?_, by simp; exact r4, fun i' j' hi' hj' => ?_⟩, fun a q1 q2 => mu_ne q2, fun x hx => mu_rdk (by omega) x⟩
  · rw [mu_rdk (by omega)]; exact r1
  · rw [mu_rdk (by omega)]; exact r2
  · rw [mu_rdk (by omega), List.length_set]; exact r3
  · have hi2 : i' < rows.length := by simpa using hi'
    by_cases e : i' = i ∧ j' = j
    · obtain ⟨rfl, rfl⟩ := e
      rw [mu_rde rfl]
      have hj3 : j' < (rows[i']).length := by
        have : gr rows i' = rows[i'] := by simp [gr, List.getD, hi2]
        rw [← this, hw]
        exact hj
      simp [gr, g5, List.getD, hi2, hj3]
    · rw [mu_rdn (rIx_ne hj' hj e), r5 i' j' hi2 hj']
      by_cases e1 : i' = i
      · subst e1
        have e2 : j ≠ j' := fun z => e ⟨rfl, z.symm⟩
        simp [gr, g5, List.getD, hi2, e2]
      · simp [gr, List.getD, Ne.symm e1]
theorem C_putN {h : Mem} {k : Nat} (c v : Int32) : f_X3_put k (-1) c v h = some ((), h) := by
  unfold f_X3_put
  rw [if_pos (by decide)]
theorem C_open30 {k m w i : Nat} (I : IsR k m w) (hi : i < m) : ∀ (d j n : Nat) (h : Mem), j + d = w → d < n → h k 1 = nI w → ∃ h', f_X3_open_30 n k (nI i) (nI j) h = some (nI i, h') ∧ (∀ a, a ≠ k + 1 → h' a = h a) ∧ ∀ x, h' (k + 1) x = if w * i + j ≤ x ∧ x < w * i + w then 0 else h (k + 1) x := by
  obtain ⟨i1, i2, i3, i4, i5, i6⟩ := I
  intro d
  induction d with
  | zero =>
    intro j n h h1 h2 hw
    obtain ⟨n, rfl⟩ : ∃ z, n = z + 1 := ⟨n - 1, by omega⟩
    refine ⟨h, ?_, fun _ _ => rfl, fun x => by rw [if_neg (by omega)]⟩
    unfold f_X3_open_30
    rw [hw, if_pos (by rw [nI_leI (by omega) (by omega)]; omega)]
  | succ d ih =>
    intro j n h h1 h2 hw
    obtain ⟨n, rfl⟩ : ∃ z, n = z + 1 := ⟨n - 1, by omega⟩
    have q := rIx (m := m) hi (show j < w by omega)
    obtain ⟨h', g1, g2, g3⟩ := ih (j + 1) n (mu h (k + 1) (w * i + j) 0) (by omega) (by omega) (by rw [mu_rdk (by omega)]; exact hw)
    refine ⟨h', ?_, fun a ha => by rw [g2 a ha, mu_ne ha], fun x => ?_⟩
    · refine Eq.trans ?_ g1
      generalize hY : f_X3_open_30 n k (nI i) (nI (j + 1)) (mu h (k + 1) (w * i + j) 0) = Y
      unfold f_X3_open_30
      rw [hw, if_neg (by rw [nI_leI (by omega) (by omega)]; omega), i1, nI_mul, nI_add, Nat.mul_comm i w, ast_nI (by omega) (by omega), show nI j + 1 = nI (j + 1) by rw [li_1, nI_add]]
      exact hY
    · rw [g3 x]
      by_cases e : x = w * i + j
      · rw [if_neg (by omega), mu_rde e, if_pos (by omega)]
      · rw [mu_rdn e]
        by_cases e2 : w * i + (j + 1) ≤ x ∧ x < w * i + w
        · rw [if_pos e2, if_pos (by omega)]
        · rw [if_neg e2, if_neg (by omega)]
theorem gr_app_lt {rows : List (List Int32)} {r : List Int32} {i : Nat} (h : i < rows.length) : gr (rows ++ [r]) i = gr rows i := by
  simp [gr, List.getD, List.getElem?_append_left h]
theorem gr_app_eq {rows : List (List Int32)} {r : List Int32} : gr (rows ++ [r]) rows.length = r := by
  simp [gr, List.getD]
theorem C_open {h : Mem} {k m w : Nat} {rows : List (List Int32)} (I : IsR k m w) (R : RR h k m w rows) (hl : rows.length < m) : Tr (f_X3_open k h) (fun r h' => r = nI rows.length ∧ RR h' k m w (rows ++ [List.replicate w 0]) ∧ FrR k h h') := by
  obtain ⟨r1, r2, r3, r4, r5⟩ := R
  have I' := I
  obtain ⟨i1, i2, i3, i4, i5, i6⟩ := I
  unfold f_X3_open
  obtain ⟨h', g1, g2, g3⟩ := C_open30 I' hl w 0 xFU (mu h k 3 (nI (rows.length + 1))) (by omega) (by unfold xFU; omega) (by rw [mu_rdn (by omega)]; exact r2)
  have g1' : f_X3_open_30 xFU k (nI rows.length) 0 (mu h k 3 (nI (rows.length + 1))) = some (nI rows.length, h') := g1
  rw [r3, r1, if_pos (by rw [nI_ltI (by omega) (by omega)]; exact hl), mlet_eq, show nI rows.length + 1 = nI (rows.length + 1) by rw [li_1, nI_add], g1']
  refine wR ⟨rfl, ⟨?_, ?_, ?_, by simp; omega, fun i j hi hj => ?_⟩, fun a q1 q2 => by rw [g2 a q2, mu_ne q1], fun x hx => by rw [g2 k (by omega), mu_rdn hx]⟩
  · rw [g2 k (by omega), mu_rdn (by omega)]; exact r1
  · rw [g2 k (by omega), mu_rdn (by omega)]; exact r2
  · rw [g2 k (by omega), mu_rde rfl]; simp
  · rw [g3, mu_rdk (by omega)]
    by_cases e : i < rows.length
    · have := Nat.mul_le_mul_left w (show i + 1 ≤ rows.length from e)
      rw [Nat.mul_add] at this
      rw [if_neg (by omega), r5 i j e hj, gr_app_lt e]
    · have e2 : i = rows.length := by simp at hi; omega
      subst e2
      rw [if_pos (by omega), gr_app_eq]
      unfold g5
      simp [List.getD, hj]
theorem C_openN {h : Mem} {k m w : Nat} {rows : List (List Int32)} (I : IsR k m w) (R : RR h k m w rows) (hl : ¬ rows.length < m) : f_X3_open k h = some (-1, h) := by
  obtain ⟨r1, r2, r3, r4, r5⟩ := R
  obtain ⟨i1, i2, i3, i4, i5, i6⟩ := I
  unfold f_X3_open
  rw [r3, r1, if_neg (by rw [nI_ltI (by omega) (by omega)]; exact hl)]
/-- a put into the row just opened -/
theorem C_putL {h : Mem} {k m w j : Nat} {rows : List (List Int32)} {r : List Int32} (I : IsR k m w) (R : RR h k m w (rows ++ [r])) (hj : j < w) (hw : r.length = w) (v : Int32) : Tr (f_X3_put k (nI rows.length) (nI j) v h) (fun _ h' => RR h' k m w (rows ++ [r.set j v]) ∧ FrR k h h') := by
  have z := C_put (i := rows.length) I R (by simp) hj (by rw [gr_app_eq]; exact hw) v
  have e : (rows ++ [r]).set rows.length ((gr (rows ++ [r]) rows.length).set j v) = rows ++ [r.set j v] := by
    rw [gr_app_eq]
    simp
  rw [e] at z
  exact z
theorem C_clear {h : Mem} {k m w : Nat} {rows : List (List Int32)} (R : RR h k m w rows) : Tr (f_X3_clear k h) (fun _ h' => RR h' k m w [] ∧ FrR k h h') := by
  obtain ⟨r1, r2, r3, r4, r5⟩ := R
  unfold f_X3_clear
  rw [mlet_eq]
  refine wR ⟨⟨?_, ?_, ?_, by simp, fun i j hi => by simp at hi⟩, fun a q1 _ => mu_ne q1, fun x hx => mu_rdn hx⟩
  · rw [mu_rdn (by omega)]; exact r1
  · rw [mu_rdn (by omega)]; exact r2
  · rw [mu_rde rfl]; rfl
def fnd (rows : List (List Int32)) (j : Nat) (x : Int32) : Int32 := sIx (-1) (fun i => g5 (gr rows i) j == x) rows.length 0
theorem C_find16 {h : Mem} {k m w j : Nat} {rows : List (List Int32)} (I : IsR k m w) (R : RR h k m w rows) (hj : j < w) (x : Int32) : ∀ (d i n : Nat), i + d = rows.length → d < n → f_X3_find_16 n k (nI j) x (nI i) h = some (sIx (-1) (fun i => g5 (gr rows i) j == x) d i, h) := by
  obtain ⟨r1, r2, r3, r4, r5⟩ := R
  obtain ⟨i1, i2, i3, i4, i5, i6⟩ := I
  intro d
  induction d with
  | zero =>
    intro i n h1 h2
    obtain ⟨n, rfl⟩ : ∃ z, n = z + 1 := ⟨n - 1, by omega⟩
    unfold f_X3_find_16 sIx
    rw [r3, if_pos (by rw [nI_leI (by omega) (by omega)]; omega)]
  | succ d ih =>
    intro i n h1 h2
    obtain ⟨n, rfl⟩ : ∃ z, n = z + 1 := ⟨n - 1, by omega⟩
    have q := rIx (m := m) (show i < m by omega) hj
    have z := ih (i + 1) n (by omega) (by omega)
    unfold f_X3_find_16 sIx
    rw [r3, if_neg (by rw [nI_leI (by omega) (by omega)]; omega), r2, i1, nI_mul, nI_add, Nat.mul_comm i w, ald_nI (by omega) (by omega), r5 i j (by omega) hj]
    by_cases e : g5 (gr rows i) j = x
    · rw [if_pos e]
      simp [e]
    · rw [if_neg e, show nI i + 1 = nI (i + 1) by rw [li_1, nI_add], z]
      simp [e]
theorem C_find {h : Mem} {k m w j : Nat} {rows : List (List Int32)} (I : IsR k m w) (R : RR h k m w rows) (hj : j < w) (x : Int32) : f_X3_find k (nI j) x h = some (fnd rows j x, h) := by
  have z := C_find16 I R hj x rows.length 0 xFU (by omega) (by have := R.2.2.2.1; have := I.2.2.2.2.2; unfold xFU; omega)
  obtain ⟨r1, r2, r3, r4, r5⟩ := R
  obtain ⟨i1, i2, i3, i4, i5, i6⟩ := I
  unfold f_X3_find fnd
  rw [if_neg (by rw [li_0, nI_ltI (by omega) (by omega)]; omega), r2, if_pos (by rw [nI_ltI (by omega) (by omega)]; exact hj)]
  exact z
theorem C_isFull {h : Mem} {k m w : Nat} {rows : List (List Int32)} (I : IsR k m w) (R : RR h k m w rows) : f_X3_isFull k h = some (if rows.length < m then 0 else 1, h) := by
  obtain ⟨r1, r2, r3, r4, r5⟩ := R
  obtain ⟨i1, i2, i3, i4, i5, i6⟩ := I
  unfold f_X3_isFull
  rw [r3, r1]
  by_cases e : rows.length < m
  · rw [if_pos (by rw [nI_ltI (by omega) (by omega)]; exact e), if_pos e]
  · rw [if_neg (by rw [nI_ltI (by omega) (by omega)]; exact e), if_neg e]
