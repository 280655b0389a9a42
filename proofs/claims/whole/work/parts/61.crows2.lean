/-! the class: Rows, remove and copyFrom -/
theorem acp_nI {β : Type} {h : Mem} {a b s d n : Nat} {kk : Mem → Option β} (hs : s < 2 ^ 30) (hd : d < 2 ^ 30) (hn : n < 2 ^ 30) (h1 : s + n ≤ xln a) (h2 : d + n ≤ xln b) : acp h a (nI s) b (nI d) (nI n) kk = kk (mA h b (fun j => if d ≤ j ∧ j < d + n then h a (s + (j - d)) else h b j)) := by
  unfold acp
  rw [nI_clamp (show s < 2 ^ 31 by omega), nI_clamp (show d < 2 ^ 31 by omega), nI_clamp (show n < 2 ^ 31 by omega), if_pos ⟨⟨nI_pos' (by omega), nI_pos' (by omega), nI_pos' (by omega)⟩, h1, h2⟩]
  rfl
theorem C_remove {h : Mem} {k m w i : Nat} {rows : List (List Int32)} (I : IsR k m w) (R : RR h k m w rows) (hi : i < rows.length) : Tr (f_X3_remove k (nI i) h) (fun _ h' => RR h' k m w (rows.eraseIdx i) ∧ FrR k h h') := by
  obtain ⟨r1, r2, r3, r4, r5⟩ := R
  obtain ⟨i1, i2, i3, i4, i5, i6⟩ := I
  have hl : (rows.eraseIdx i).length = rows.length - 1 := by simp [List.length_eraseIdx, hi]
  have a1 : w * i + w ≤ w * rows.length := by
    have := Nat.mul_le_mul_left w (show i + 1 ≤ rows.length from hi)
    rw [Nat.mul_add] at this
    omega
  have a2 : w * rows.length ≤ m * w := by
    rw [Nat.mul_comm m w]
    exact Nat.mul_le_mul_left w r4
  have a3 : (rows.length - 1 - i) * w = w * rows.length - w - w * i := by
    rw [Nat.sub_mul, Nat.sub_mul, Nat.mul_comm, Nat.mul_comm i w]
    omega
  have a4 : (i + 1) * w = w * i + w := by rw [Nat.add_mul, Nat.mul_comm, Nat.one_mul]
  have a5 : i * w = w * i := Nat.mul_comm i w
  unfold f_X3_remove
  rw [if_neg (by rw [li_0, nI_ltI (by omega) (by omega)]; omega), r3, if_pos (by rw [nI_ltI (by omega) (by omega)]; exact hi), r2, i1, li_1, nI_subP (by omega), nI_subP (by omega), nI_add, nI_mul, nI_mul, nI_mul, a3, a4, a5, acp_nI (by omega) (by omega) (by omega) (by omega) (by omega), mlet_eq]
  have e3 : mA h (k + 1) (fun j => if w * i ≤ j ∧ j < w * i + (w * rows.length - w - w * i) then h (k + 1) (w * i + w + (j - w * i)) else h (k + 1) j) k = h k := mA_ne (by omega)
  rw [e3, r3, nI_subP (by omega)]
  refine wR ⟨⟨?_, ?_, ?_, by omega, fun i' j hi' hj => ?_⟩, fun a q1 q2 => by rw [mu_ne q1, mA_ne q2], fun x hx => by rw [mu_rdn hx, e3]⟩
  · rw [mu_rdn (by omega), e3]; exact r1
  · rw [mu_rdn (by omega), e3]; exact r2
  · rw [mu_rde rfl, hl]
  · rw [hl] at hi'
    rw [mu_rdk (by omega), mA_eq]
    have b1 : w * i' + w ≤ w * (rows.length - 1) := by
      have := Nat.mul_le_mul_left w (show i' + 1 ≤ rows.length - 1 from hi')
      rw [Nat.mul_add] at this
      omega
    have b2 : w * (rows.length - 1) = w * rows.length - w := by rw [Nat.mul_sub, Nat.mul_one]
    by_cases e : i' < i
    · have b3 : w * i' + w ≤ w * i := by
        have := Nat.mul_le_mul_left w (show i' + 1 ≤ i from e)
        rw [Nat.mul_add] at this
        omega
      rw [if_neg (by omega), r5 i' j (by omega) hj]
      simp [gr, List.getD, List.getElem?_eraseIdx, e]
    · have b3 : w * i ≤ w * i' := Nat.mul_le_mul_left w (by omega)
      have b4 : w * (i' + 1) = w * i' + w := by rw [Nat.mul_add, Nat.mul_one]
      rw [if_pos (by omega), show w * i + w + (w * i' + j - w * i) = w * (i' + 1) + j by omega, r5 (i' + 1) j (by omega) hj]
      simp [gr, List.getD, List.getElem?_eraseIdx, e]
theorem C_removeN {h : Mem} {k : Nat} : f_X3_remove k (-1) h = some ((), h) := by
  unfold f_X3_remove
  rw [if_pos (by decide)]
/-- k is made what k2 is -/
theorem C_copyFrom {h : Mem} {k k2 m w : Nat} {rows rows2 : List (List Int32)} (I : IsR k m w) (I2 : IsR k2 m w) (hne : k2 ≠ k) (hne2 : k2 ≠ k + 1) (hne3 : k2 + 1 ≠ k) (R : RR h k m w rows) (R2 : RR h k2 m w rows2) : Tr (f_X3_copyFrom k k2 h) (fun _ h' => RR h' k m w rows2 ∧ FrR k h h') := by
  obtain ⟨r1, r2, r3, r4, r5⟩ := R
  obtain ⟨s1, s2, s3, s4, s5⟩ := R2
  obtain ⟨i1, i2, i3, i4, i5, i6⟩ := I
  obtain ⟨j1, j2, j3, j4, j5, j6⟩ := I2
  have a2 : rows2.length * w ≤ m * w := Nat.mul_le_mul_right w s4
  unfold f_X3_copyFrom
  have z0 : (0 : Int32) = nI 0 := li_0
  rw [s2, r2, if_pos rfl, s3, r1, if_pos (by rw [nI_leI (by omega) (by omega)]; exact s4), i1, j1, z0, nI_mul, acp_nI (by omega) (by omega) (by omega) (by omega) (by omega), mlet_eq]
  have e3 : mA h (k + 1) (fun j => if 0 ≤ j ∧ j < 0 + rows2.length * w then h (k2 + 1) (0 + (j - 0)) else h (k + 1) j) k = h k := mA_ne (by omega)
  have e4 : mA h (k + 1) (fun j => if 0 ≤ j ∧ j < 0 + rows2.length * w then h (k2 + 1) (0 + (j - 0)) else h (k + 1) j) k2 = h k2 := mA_ne hne2
  rw [e4, s3]
  refine wR ⟨⟨?_, ?_, ?_, s4, fun i j hi hj => ?_⟩, fun a q1 q2 => by rw [mu_ne q1, mA_ne q2], fun x hx => by rw [mu_rdn hx, e3]⟩
  · rw [mu_rdn (by omega), e3]; exact r1
  · rw [mu_rdn (by omega), e3]; exact r2
  · rw [mu_rde rfl]
  · have q := rIx (m := rows2.length) hi hj
    rw [mu_rdk (by omega), mA_eq, if_pos (by omega), Nat.zero_add, Nat.sub_zero, s5 i j hi hj]
