/-! the abstract client: scalars by the reference's offsets, tables (by the offset of their count) as lists of rows -/
abbrev Cl : Type := (Nat → Int32) × (Nat → List (List Int32))
def ud {β : Type} (f : Nat → β) (k : Nat) (v : β) : Nat → β := fun j => if j = k then v else f j
theorem ud_eq {β : Type} {f : Nat → β} {k : Nat} {v : β} : ud f k v k = v := if_pos rfl
theorem ud_ne {β : Type} {f : Nat → β} {k j : Nat} {v : β} (e : j ≠ k) : ud f k v j = f j := if_neg e
def sS (cl : Cl) (k : Nat) (v : Int32) : Cl := (ud cl.1 k v, cl.2)
def sT (cl : Cl) (t : Nat) (rows : List (List Int32)) : Cl := (cl.1, ud cl.2 t rows)
def g5 (r : List Int32) (j : Nat) : Int32 := r.getD j 0
def gr (rows : List (List Int32)) (i : Nat) : List Int32 := rows.getD i []
def ict (k : Nat) : Bool := k == 3 || k == 4 || k == 5 || k == 6 || k == 7 || k == 8 || k == 11
def tb (t : Nat) : Nat := if t = 3 then 45 else if t = 4 then 81 else if t = 5 then 105 else if t = 6 then 153 else if t = 7 then 249 else if t = 8 then 401 else 281
def tw (t : Nat) : Nat := if t = 3 then 6 else if t = 4 then 6 else if t = 5 then 4 else if t = 6 then 6 else if t = 7 then 2 else if t = 8 then 1 else 4
def tc (t : Nat) : Nat := if t = 3 then 6 else if t = 4 then 4 else if t = 5 then 12 else if t = 6 then 16 else if t = 7 then 16 else if t = 8 then 560 else 30
theorem ict_cases {t : Nat} (h : ict t = true) : t = 3 ∨ t = 4 ∨ t = 5 ∨ t = 6 ∨ t = 7 ∨ t = 8 ∨ t = 11 := by
  simp only [ict, Bool.or_eq_true, beq_iff_eq] at h
  omega
/-- a row's place in its table -/
theorem tpos {t i j : Nat} (h : ict t = true) (hi : i < tc t) (hj : j < tw t) : tb t ≤ tb t + tw t * i + j ∧ tb t + tw t * i + j < tb t + tw t * tc t := by
  rcases ict_cases h with rfl | rfl | rfl | rfl | rfl | rfl | rfl <;> simp only [tb, tw, tc] at * <;> simp at * <;> omega
theorem treg {t : Nat} (h : ict t = true) : 45 ≤ tb t ∧ tb t + tw t * tc t ≤ 961 ∧ t < 45 := by
  rcases ict_cases h with rfl | rfl | rfl | rfl | rfl | rfl | rfl <;> simp [tb, tw, tc]
theorem tdis {t u x : Nat} (h : ict t = true) (h2 : ict u = true) (hne : t ≠ u) (h3 : tb t ≤ x ∧ x < tb t + tw t * tc t) : ¬ (tb u ≤ x ∧ x < tb u + tw u * tc u) := by
  rcases ict_cases h with rfl | rfl | rfl | rfl | rfl | rfl | rfl <;> rcases ict_cases h2 with rfl | rfl | rfl | rfl | rfl | rfl | rfl <;> simp [tb, tw, tc] at * <;> omega
/-- the table at t -/
def Tb (b : Nat → Int32) (t : Nat) (rows : List (List Int32)) : Prop := b t = nI rows.length ∧ rows.length ≤ tc t ∧ ∀ i j, i < rows.length → j < tw t → b (tb t + tw t * i + j) = g5 (gr rows i) j
/-- a client's block of the page -/
def RB (b : Nat → Int32) (cl : Cl) : Prop := (∀ k, k < 45 → ict k = false → b k = cl.1 k) ∧ ∀ t, ict t = true → Tb b t (cl.2 t)
theorem RB.frame {b b' : Nat → Int32} {cl : Cl} (h : RB b cl) (e : ∀ k, k < 961 → b' k = b k) : RB b' cl := by
  refine ⟨fun k hk hc => by rw [e k (by omega)]; exact h.1 k hk hc, fun t ht => ?_⟩
  obtain ⟨h1, h2, h3⟩ := h.2 t ht
  have q := treg ht
  refine ⟨by rw [e t (by omega)]; exact h1, h2, fun i j hi hj => ?_⟩
  have q2 := tpos ht (Nat.lt_of_lt_of_le hi h2) hj
  rw [e _ (by omega)]
  exact h3 i j hi hj
/-- one table and one scalar change -/
theorem RB.gen {b b' : Nat → Int32} {cl : Cl} (h : RB b cl) {t : Nat} (ht : ict t = true) {rows : List (List Int32)} {s : Nat → Int32} (hs : ∀ k, k < 45 → ict k = false → b' k = s k) (ho : ∀ k, k < 961 → 45 ≤ k ∨ ict k = true → k ≠ t → ¬ (tb t ≤ k ∧ k < tb t + tw t * tc t) → b' k = b k) (hT : Tb b' t rows) : RB b' (s, ud cl.2 t rows) := by
  refine ⟨hs, fun u hu => ?_⟩
  by_cases e : u = t
  · subst e
    show Tb b' u (ud cl.2 u rows u)
    rw [ud_eq]
    exact hT
  · show Tb b' u (ud cl.2 t rows u)
    rw [ud_ne e]
    obtain ⟨h1, h2, h3⟩ := h.2 u hu
    have q := treg hu
    have q1 := treg ht
    refine ⟨by rw [ho u (by omega) (Or.inr hu) e (by omega)]; exact h1, h2, fun i j hi hj => ?_⟩
    have q2 := tpos hu (Nat.lt_of_lt_of_le hi h2) hj
    rw [ho _ (by omega) (Or.inl (by omega)) (by omega) (tdis hu ht e q2)]
    exact h3 i j hi hj
theorem RB.tab {b b' : Nat → Int32} {cl : Cl} (h : RB b cl) {t : Nat} (ht : ict t = true) {rows : List (List Int32)} (ho : ∀ k, k < 961 → k ≠ t → ¬ (tb t ≤ k ∧ k < tb t + tw t * tc t) → b' k = b k) (hT : Tb b' t rows) : RB b' (sT cl t rows) :=
  h.gen ht (fun k hk hc => by
    have q := treg ht
    rw [ho k (by omega) (fun e => by rw [e, ht] at hc; cases hc) (by omega)]
    exact h.1 k hk hc) (fun k hk _ h2 h3 => ho k hk h2 h3) hT
theorem RB.sc {b b' : Nat → Int32} {cl : Cl} (h : RB b cl) {k0 : Nat} {v : Int32} (hk0 : k0 < 45) (hc0 : ict k0 = false) (hv : b' k0 = v) (ho : ∀ k, k < 961 → k ≠ k0 → b' k = b k) : RB b' (sS cl k0 v) := by
  refine ⟨fun k hk hc => ?_, fun t ht => ?_⟩
  · show b' k = ud cl.1 k0 v k
    by_cases e : k = k0
    · subst e; rw [ud_eq, hv]
    · rw [ud_ne e, ho k (by omega) e]; exact h.1 k hk hc
  · obtain ⟨h1, h2, h3⟩ := h.2 t ht
    have q := treg ht
    refine ⟨by rw [ho t (by omega) (fun e => by rw [e, hc0] at ht; cases ht)]; exact h1, h2, fun i j hi hj => ?_⟩
    have q2 := tpos ht (Nat.lt_of_lt_of_le hi h2) hj
    rw [ho _ (by omega) (by omega)]
    exact h3 i j hi hj
theorem Tb.app {b b' : Nat → Int32} {t : Nat} {rows : List (List Int32)} {r : List Int32} (h : Tb b t rows) (hl : rows.length < tc t) (hn : b' t = nI (rows.length + 1)) (hr : ∀ j, j < tw t → b' (tb t + tw t * rows.length + j) = g5 r j) (ho : ∀ k, tb t ≤ k → k < tb t + tw t * rows.length → b' k = b k) : Tb b' t (rows ++ [r]) := by
  refine ⟨by rw [hn]; simp, by simp; omega, fun i j hi hj => ?_⟩
  by_cases e : i = rows.length
  · subst e
    rw [hr j hj]
    simp [gr, g5, List.getD]
  · have hi2 : i < rows.length := by simp at hi; omega
    have q : tw t * i + tw t ≤ tw t * rows.length := by
      have := Nat.mul_le_mul_left (tw t) (show i + 1 ≤ rows.length by omega)
      rw [Nat.mul_add] at this
      omega
    rw [ho _ (by omega) (by omega), h.2.2 i j hi2 hj]
    simp [gr, List.getD, List.getElem?_append_left hi2]
theorem Tb.set {b b' : Nat → Int32} {t i0 j0 : Nat} {rows : List (List Int32)} {v : Int32} (h : Tb b t rows) (hi0 : i0 < rows.length) (hj0 : j0 < (gr rows i0).length) (hn : b' t = b t) (hr : b' (tb t + tw t * i0 + j0) = v) (hw : (gr rows i0).length = tw t) (ho : ∀ k, tb t ≤ k → k < tb t + tw t * tc t → k ≠ tb t + tw t * i0 + j0 → b' k = b k) : Tb b' t (rows.set i0 ((gr rows i0).set j0 v)) := by
  refine ⟨by rw [hn, h.1]; simp, by simp; exact h.2.1, fun i j hi hj => ?_⟩
  have hi2 : i < rows.length := by simpa using hi
  have q := Nat.mul_le_mul_left (tw t) (show i + 1 ≤ tc t from Nat.le_trans hi2 h.2.1)
  rw [Nat.mul_add] at q
  by_cases e : i = i0
  · subst e
    by_cases e2 : j = j0
    · subst e2
      rw [hr]
      simp [gr, g5, List.getD, hi0]
      simp [gr, List.getD, hi0] at hj0
      simp [hj0]
    · rw [ho _ (by omega) (by omega) (by omega), h.2.2 i j hi2 hj]
      simp [gr, g5, List.getD, hi0, Ne.symm e2]
  · have e3 : tb t + tw t * i + j ≠ tb t + tw t * i0 + j0 := by
      intro z
      rcases Nat.lt_or_gt_of_ne e with e4 | e4
      · have := Nat.mul_le_mul_left (tw t) (show i + 1 ≤ i0 from e4)
        rw [Nat.mul_add] at this
        omega
      · have := Nat.mul_le_mul_left (tw t) (show i0 + 1 ≤ i from e4)
        rw [Nat.mul_add] at this
        omega
    rw [ho _ (by omega) (by omega) e3, h.2.2 i j hi2 hj]
    simp [gr, List.getD, Ne.symm e]
theorem Tb.erase {b b' : Nat → Int32} {t i0 : Nat} {rows : List (List Int32)} (h : Tb b t rows) (hi0 : i0 < rows.length) (hn : b' t = nI (rows.length - 1)) (hr : ∀ k, tb t + tw t * i0 ≤ k → k < tb t + tw t * (rows.length - 1) → b' k = b (k + tw t)) (ho : ∀ k, tb t ≤ k → k < tb t + tw t * i0 → b' k = b k) : Tb b' t (rows.eraseIdx i0) := by
  refine ⟨by rw [hn]; simp [List.length_eraseIdx, hi0], by simp [List.length_eraseIdx, hi0]; have := h.2.1; omega, fun i j hi hj => ?_⟩
  have hi2 : i < rows.length - 1 := by simpa [List.length_eraseIdx, hi0] using hi
  by_cases e : i < i0
  · have q := Nat.mul_le_mul_left (tw t) (show i + 1 ≤ i0 from e)
    rw [Nat.mul_add] at q
    rw [ho _ (by omega) (by omega), h.2.2 i j (by omega) hj]
    simp [gr, List.getD, List.getElem?_eraseIdx, e]
  · have q := Nat.mul_le_mul_left (tw t) (show i0 ≤ i by omega)
    have q2 := Nat.mul_le_mul_left (tw t) (show i + 1 ≤ rows.length - 1 by omega)
    rw [Nat.mul_add] at q2
    have e5 : tb t + tw t * i + j + tw t = tb t + tw t * (i + 1) + j := by rw [Nat.mul_add]; omega
    rw [hr _ (by omega) (by omega), e5, h.2.2 (i + 1) j (by omega) hj]
    simp [gr, List.getD, List.getElem?_eraseIdx, e]
theorem Tb.nil {b : Nat → Int32} {t : Nat} (h : b t = 0) : Tb b t [] := ⟨h, Nat.zero_le _, fun i j hi => by simp at hi⟩
