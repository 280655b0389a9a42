/-! the whole state, and the page -/
abbrev St : Type := (Nat → Int32) × (Nat → List (List Int32)) × (Nat → Cl)
def sG (st : St) (k : Nat) (v : Int32) : St := (ud st.1 k v, st.2.1, st.2.2)
def sK (st : St) (t : Nat) (rows : List (List Int32)) : St := (st.1, ud st.2.1 t rows, st.2.2)
def sC (st : St) (c : Nat) (cl : Cl) : St := (st.1, st.2.1, ud st.2.2 c cl)
def sm6 (s : Nat → Int32) : Int32 := s 0 + s 1 + s 2 + s 3 + s 4 + s 5
/-- a table anywhere -/
def GTb (f : Nat → Int32) (t b w cap : Nat) (rows : List (List Int32)) : Prop := f t = nI rows.length ∧ rows.length ≤ cap ∧ ∀ i j, i < rows.length → j < w → f (b + w * i + j) = g5 (gr rows i) j
def RM (f : Nat → Int32) (st : St) : Prop := (f 0 = st.1 0 ∧ f 1 = st.1 1) ∧ (f 2 = sm6 (fun c => (st.2.2 c).1 50) ∧ f 3 = sm6 (fun c => (st.2.2 c).1 51) ∧ f 4 = sm6 (fun c => (st.2.2 c).1 10) ∧ f 5 = sm6 (fun c => (st.2.2 c).1 52)) ∧ GTb f 6 8 7 12 (st.2.1 6) ∧ GTb f 7 92 6 36 (st.2.1 7) ∧ ∀ c, c < 6 → RB (bk f c) (st.2.2 c)
theorem GTb.frame {f f' : Nat → Int32} {t b w cap : Nat} {rows : List (List Int32)} (h : GTb f t b w cap rows) (ht : f' t = f t) (hr : ∀ x, b ≤ x → x < b + w * cap → f' x = f x) : GTb f' t b w cap rows := by
  refine ⟨by rw [ht]; exact h.1, h.2.1, fun i j hi hj => ?_⟩
  have q := Nat.mul_le_mul_left w (show i + 1 ≤ cap from Nat.le_trans hi h.2.1)
  rw [Nat.mul_add] at q
  rw [hr _ (by omega) (by omega)]
  exact h.2.2 i j hi hj
theorem GTb.app {f f' : Nat → Int32} {t b w cap : Nat} {rows : List (List Int32)} {r : List Int32} (h : GTb f t b w cap rows) (hl : rows.length < cap) (hn : f' t = nI (rows.length + 1)) (hr : ∀ j, j < w → f' (b + w * rows.length + j) = g5 r j) (ho : ∀ k, b ≤ k → k < b + w * rows.length → f' k = f k) : GTb f' t b w cap (rows ++ [r]) := by
  refine ⟨by rw [hn]; simp, by simp; omega, fun i j hi hj => ?_⟩
  by_cases e : i = rows.length
  · subst e
    rw [hr j hj]
    simp [gr, g5, List.getD]
  · have hi2 : i < rows.length := by simp at hi; omega
    have q := Nat.mul_le_mul_left w (show i + 1 ≤ rows.length by omega)
    rw [Nat.mul_add] at q
    rw [ho _ (by omega) (by omega), h.2.2 i j hi2 hj]
    simp [gr, List.getD, List.getElem?_append_left hi2]
theorem GTb.set {f f' : Nat → Int32} {t b w cap i0 j0 : Nat} {rows : List (List Int32)} {v : Int32} (h : GTb f t b w cap rows) (hi0 : i0 < rows.length) (hj0 : j0 < w) (hw : (gr rows i0).length = w) (hn : f' t = f t) (hr : f' (b + w * i0 + j0) = v) (ho : ∀ k, b ≤ k → k < b + w * cap → k ≠ b + w * i0 + j0 → f' k = f k) : GTb f' t b w cap (rows.set i0 ((gr rows i0).set j0 v)) := by
  refine ⟨by rw [hn, h.1]; simp, by simp; exact h.2.1, fun i j hi hj => ?_⟩
  have hi2 : i < rows.length := by simpa using hi
  have q := Nat.mul_le_mul_left w (show i + 1 ≤ cap from Nat.le_trans hi2 h.2.1)
  rw [Nat.mul_add] at q
  have hj0' : j0 < (gr rows i0).length := by omega
  by_cases e : i = i0
  · subst e
    by_cases e2 : j = j0
    · subst e2
      rw [hr]
      simp [gr, g5, List.getD, hi0]
      simp [gr, List.getD, hi0] at hj0'
      simp [hj0']
    · rw [ho _ (by omega) (by omega) (by omega), h.2.2 i j hi2 hj]
      simp [gr, g5, List.getD, hi0, Ne.symm e2]
  · have e3 : b + w * i + j ≠ b + w * i0 + j0 := by
      intro z
      rcases Nat.lt_or_gt_of_ne e with e4 | e4
      · have := Nat.mul_le_mul_left w (show i + 1 ≤ i0 from e4)
        rw [Nat.mul_add] at this
        omega
      · have := Nat.mul_le_mul_left w (show i0 + 1 ≤ i from e4)
        rw [Nat.mul_add] at this
        omega
    rw [ho _ (by omega) (by omega) e3, h.2.2 i j hi2 hj]
    simp [gr, List.getD, Ne.symm e]
theorem GTb.erase {f f' : Nat → Int32} {t b w cap i0 : Nat} {rows : List (List Int32)} (h : GTb f t b w cap rows) (hi0 : i0 < rows.length) (hn : f' t = nI (rows.length - 1)) (hr : ∀ k, b + w * i0 ≤ k → k < b + w * (rows.length - 1) → f' k = f (k + w)) (ho : ∀ k, b ≤ k → k < b + w * i0 → f' k = f k) : GTb f' t b w cap (rows.eraseIdx i0) := by
  refine ⟨by rw [hn]; simp [List.length_eraseIdx, hi0], by simp [List.length_eraseIdx, hi0]; have := h.2.1; omega, fun i j hi hj => ?_⟩
  have hi2 : i < rows.length - 1 := by simpa [List.length_eraseIdx, hi0] using hi
  by_cases e : i < i0
  · have q := Nat.mul_le_mul_left w (show i + 1 ≤ i0 from e)
    rw [Nat.mul_add] at q
    rw [ho _ (by omega) (by omega), h.2.2 i j (by omega) hj]
    simp [gr, List.getD, List.getElem?_eraseIdx, e]
  · have q := Nat.mul_le_mul_left w (show i0 ≤ i by omega)
    have q2 := Nat.mul_le_mul_left w (show i + 1 ≤ rows.length - 1 by omega)
    rw [Nat.mul_add] at q2
    have e5 : b + w * i + j + w = b + w * (i + 1) + j := by rw [Nat.mul_add]; omega
    rw [hr _ (by omega) (by omega), e5, h.2.2 (i + 1) j (by omega) hj]
    simp [gr, List.getD, List.getElem?_eraseIdx, e]
theorem sm6_ud {c : Nat} (hc : c < 6) (s : Nat → Int32) (v : Int32) : sm6 (ud s c v) = sm6 s + (v - s c) := by
  rcases (show c = 0 ∨ c = 1 ∨ c = 2 ∨ c = 3 ∨ c = 4 ∨ c = 5 by omega) with rfl | rfl | rfl | rfl | rfl | rfl <;> simp [sm6, ud] <;> grind
theorem RM.cl {c : Nat} {h h' : Mem} {st : St} {cl' : Cl} (hc : c < 6) (R : RM (h 391) st) (P : MP c h (st.2.2 c) h' cl') : RM (h' 391) (sC st c cl') := by
  obtain ⟨⟨g0, g1⟩, ⟨s2, s3, s4, s5⟩, k6, k7, rb⟩ := R
  obtain ⟨r, e1, e2, p2, p3, p4, p5⟩ := P
  have key : ∀ k, sm6 (fun i => (ud st.2.2 c cl' i).1 k) = sm6 (fun i => (st.2.2 i).1 k) + (cl'.1 k - (st.2.2 c).1 k) := by
    intro k
    rw [← sm6_ud hc]
    congr 1
    funext i
    unfold ud
    split <;> rfl
  refine ⟨⟨by rw [e2 0 (by omega) (by omega)]; exact g0, by rw [e2 1 (by omega) (by omega)]; exact g1⟩, ⟨?_, ?_, ?_, ?_⟩, ?_, ?_, ?_⟩
  · rw [p2, s2]; exact (key 50).symm
  · rw [p3, s3]; exact (key 51).symm
  · rw [p4, s4]; exact (key 10).symm
  · rw [p5, s5]; exact (key 52).symm
  · exact k6.frame (e2 6 (by omega) (by omega)) (fun x h1 h2 => e2 x (by omega) (by omega))
  · exact k7.frame (e2 7 (by omega) (by omega)) (fun x h1 h2 => e2 x (by omega) (by omega))
  · intro i hi
    show RB (bk (h' 391) i) (ud st.2.2 c cl' i)
    by_cases e : i = c
    · subst e
      rw [ud_eq]
      exact r
    · rw [ud_ne e]
      exact (rb i hi).frame (fun k hk => e2 _ (by omega) (by omega))
