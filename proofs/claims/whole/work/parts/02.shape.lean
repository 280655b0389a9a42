/-! the cells: their kinds, lengths, references; a state is what the ints are -/
abbrev Mem : Type := Nat → Nat → Int32
def xNC : Nat := 405
def xkdL : List Nat := [6, 1, 3, 8, 5, 10, 2, 8, 2, 8, 0, 2, 8, 8, 2, 8, 2, 8, 2, 8, 2, 8, 2, 8, 4, 0, 2, 8, 8, 2, 8, 2, 8, 2, 8, 2, 8, 2, 8, 4, 0, 2, 8, 8, 2, 8, 2, 8, 2, 8, 2, 8, 2, 8, 4, 0, 2, 8, 8, 2, 8, 2, 8, 2, 8, 2, 8, 2, 8, 4, 0, 2, 8, 8, 2, 8, 2, 8, 2, 8, 2, 8, 2, 8, 4, 0, 2, 8, 8, 2, 8, 2, 8, 2, 8, 2, 8, 2, 8, 4, 5, 10, 2, 8, 2, 8, 0, 2, 8, 8, 2, 8, 2, 8, 2, 8, 2, 8, 2, 8, 4, 0, 2, 8, 8, 2, 8, 2, 8, 2, 8, 2, 8, 2, 8, 4, 0, 2, 8, 8, 2, 8, 2, 8, 2, 8, 2, 8, 2, 8, 4, 0, 2, 8, 8, 2, 8, 2, 8, 2, 8, 2, 8, 2, 8, 4, 0, 2, 8, 8, 2, 8, 2, 8, 2, 8, 2, 8, 2, 8, 4, 0, 2, 8, 8, 2, 8, 2, 8, 2, 8, 2, 8, 2, 8, 4, 11, 5, 10, 2, 8, 2, 8, 0, 2, 8, 8, 2, 8, 2, 8, 2, 8, 2, 8, 2, 8, 4, 0, 2, 8, 8, 2, 8, 2, 8, 2, 8, 2, 8, 2, 8, 4, 0, 2, 8, 8, 2, 8, 2, 8, 2, 8, 2, 8, 2, 8, 4, 0, 2, 8, 8, 2, 8, 2, 8, 2, 8, 2, 8, 2, 8, 4, 0, 2, 8, 8, 2, 8, 2, 8, 2, 8, 2, 8, 2, 8, 4, 0, 2, 8, 8, 2, 8, 2, 8, 2, 8, 2, 8, 2, 8, 4, 5, 10, 2, 8, 2, 8, 0, 2, 8, 8, 2, 8, 2, 8, 2, 8, 2, 8, 2, 8, 4, 0, 2, 8, 8, 2, 8, 2, 8, 2, 8, 2, 8, 2, 8, 4, 0, 2, 8, 8, 2, 8, 2, 8, 2, 8, 2, 8, 2, 8, 4, 0, 2, 8, 8, 2, 8, 2, 8, 2, 8, 2, 8, 2, 8, 4, 0, 2, 8, 8, 2, 8, 2, 8, 2, 8, 2, 8, 2, 8, 4, 0, 2, 8, 8, 2, 8, 2, 8, 2, 8, 2, 8, 2, 8, 4, 9, 7, 8, 8, 8, 9, 8, 8, 8, 8, 8, 8, 8, 8, 8, 8]
def xlnL : List Nat := [0, 0, 0, 200, 0, 6, 0, 48, 0, 72, 0, 0, 18, 4, 0, 96, 0, 96, 0, 96, 0, 4, 0, 120, 0, 0, 0, 18, 4, 0, 96, 0, 96, 0, 96, 0, 4, 0, 120, 0, 0, 0, 18, 4, 0, 96, 0, 96, 0, 96, 0, 4, 0, 120, 0, 0, 0, 18, 4, 0, 96, 0, 96, 0, 96, 0, 4, 0, 120, 0, 0, 0, 18, 4, 0, 96, 0, 96, 0, 96, 0, 4, 0, 120, 0, 0, 0, 18, 4, 0, 96, 0, 96, 0, 96, 0, 4, 0, 120, 0, 0, 6, 0, 48, 0, 72, 0, 0, 18, 4, 0, 96, 0, 96, 0, 96, 0, 4, 0, 120, 0, 0, 0, 18, 4, 0, 96, 0, 96, 0, 96, 0, 4, 0, 120, 0, 0, 0, 18, 4, 0, 96, 0, 96, 0, 96, 0, 4, 0, 120, 0, 0, 0, 18, 4, 0, 96, 0, 96, 0, 96, 0, 4, 0, 120, 0, 0, 0, 18, 4, 0, 96, 0, 96, 0, 96, 0, 4, 0, 120, 0, 0, 0, 18, 4, 0, 96, 0, 96, 0, 96, 0, 4, 0, 120, 0, 2, 0, 6, 0, 48, 0, 72, 0, 0, 18, 4, 0, 96, 0, 96, 0, 96, 0, 4, 0, 120, 0, 0, 0, 18, 4, 0, 96, 0, 96, 0, 96, 0, 4, 0, 120, 0, 0, 0, 18, 4, 0, 96, 0, 96, 0, 96, 0, 4, 0, 120, 0, 0, 0, 18, 4, 0, 96, 0, 96, 0, 96, 0, 4, 0, 120, 0, 0, 0, 18, 4, 0, 96, 0, 96, 0, 96, 0, 4, 0, 120, 0, 0, 0, 18, 4, 0, 96, 0, 96, 0, 96, 0, 4, 0, 120, 0, 0, 6, 0, 48, 0, 72, 0, 0, 18, 4, 0, 96, 0, 96, 0, 96, 0, 4, 0, 120, 0, 0, 0, 18, 4, 0, 96, 0, 96, 0, 96, 0, 4, 0, 120, 0, 0, 0, 18, 4, 0, 96, 0, 96, 0, 96, 0, 4, 0, 120, 0, 0, 0, 18, 4, 0, 96, 0, 96, 0, 96, 0, 4, 0, 120, 0, 0, 0, 18, 4, 0, 96, 0, 96, 0, 96, 0, 4, 0, 120, 0, 0, 0, 18, 4, 0, 96, 0, 96, 0, 96, 0, 4, 0, 120, 0, 2, 0, 6074, 6074, 12148, 2, 4, 200, 4, 5, 5, 5, 4, 4, 4, 6]
def xkd (k : Nat) : Nat := xkdL.getD k 99
def xln (k : Nat) : Nat := xlnL.getD k 0
def xrfM : List Nat := [391, 392, 393, 394, 395, 0, 396, 0, 0, 0, 0, 0, 0, 0, 397, 0, 398, 399, 400, 401, 402, 403, 404]
def xrf (k j : Nat) : Nat :=
  if xkd k = 0 then k + [1, 3, 4, 6, 8, 10, 12, 14].getD j 0
  else if xkd k = 1 then [2, 4].getD j 0
  else if xkd k = 2 then k + 1
  else if xkd k = 3 then k + 1
  else if xkd k = 5 then k + [1, 2, 4].getD j 0
  else if xkd k = 6 then [2, 1, 100, 196, 389].getD j 0
  else if xkd k = 7 then xrfM.getD j 0
  else if xkd k = 10 then k + 5 + 15 * j
  else 197 + 96 * j
def xfsL : List (List Bool) := [[true, true, true, true, true, true, true, true, false, false, false, false, false, false, false, false, false], [true, true, false, false, false, false, false, false, false], [false, false, true, false], [true, false], [false, false, false, false, false, false, false], [true, true, true, false, false], [true, true, true, true, true, false, false], [true, true, true, true, true, false, true, false, false, false, false, false, false, false, true, false, true, true, true, true, true, true, true]]
def xfs (ci : Nat) : List Bool := xfsL.getD ci []
def xTy (k ci : Nat) : Prop := k < xNC ∧ xkd k = ci
def xktL : List (List Nat) := [[2, 8, 2, 2, 2, 2, 2, 4, 99, 99, 99, 99, 99, 99, 99, 99, 99], [3, 5, 99, 99, 99, 99, 99, 99, 99], [99, 99, 8, 99], [8, 99], [99, 99, 99, 99, 99, 99, 99], [10, 2, 2, 99, 99], [3, 1, 5, 11, 9, 99, 99], [8, 8, 8, 9, 8, 99, 8, 99, 99, 99, 99, 99, 99, 99, 8, 99, 8, 8, 8, 8, 8, 8, 8]]
def xchk (k : Nat) : Bool :=
  let t := xkd k
  if t < 8 then ((List.range (xktL.getD t []).length).all fun j => let e := (xktL.getD t []).getD j 99; e == 99 || (Nat.blt (xrf k j) xNC && xkd (xrf k j) == e))
  else if t == 10 then ((List.range (xln k)).all fun j => Nat.blt (xrf k j) xNC && xkd (xrf k j) == 0)
  else if t == 11 then ((List.range (xln k)).all fun j => Nat.blt (xrf k j) xNC && xkd (xrf k j) == 5)
  else true
theorem xchk_all : ∀ k, k < xNC → xchk k = true := by decide +kernel
theorem xt_fld {k ci j e : Nat} (h : xTy k ci) (hc : ci < 8) (hj : j < (xktL.getD ci []).length) (he : (xktL.getD ci []).getD j 99 = e) (h99 : (e == 99) = false) : xTy (xrf k j) e := by
  have q := xchk_all k h.1
  unfold xchk at q
  simp only [h.2, hc, if_true] at q
  have q2 := List.all_eq_true.mp q j (List.mem_range.mpr hj)
  simp only [he, h99, Bool.false_or, Bool.and_eq_true] at q2
  exact ⟨Nat.blt_eq.mp q2.1, by simpa using q2.2⟩
theorem xt_10 {k : Nat} (h : xTy k 10) {j : Nat} (hj : j < xln k) : xTy (xrf k j) 0 := by
  have q := xchk_all k h.1
  unfold xchk at q
  simp only [h.2] at q
  have q2 := List.all_eq_true.mp q j (List.mem_range.mpr hj)
  simp only [Bool.and_eq_true] at q2
  exact ⟨Nat.blt_eq.mp q2.1, by simpa using q2.2⟩
theorem xt_11 {k : Nat} (h : xTy k 11) {j : Nat} (hj : j < xln k) : xTy (xrf k j) 5 := by
  have q := xchk_all k h.1
  unfold xchk at q
  simp only [h.2] at q
  have q2 := List.all_eq_true.mp q j (List.mem_range.mpr hj)
  simp only [Bool.and_eq_true] at q2
  exact ⟨Nat.blt_eq.mp q2.1, by simpa using q2.2⟩
theorem xt_0_0 {k : Nat} (h : xTy k 0) : xTy (xrf k 0) 2 := xt_fld h (by decide) (by decide) rfl rfl
theorem xt_0_1 {k : Nat} (h : xTy k 0) : xTy (xrf k 1) 8 := xt_fld h (by decide) (by decide) rfl rfl
theorem xt_0_2 {k : Nat} (h : xTy k 0) : xTy (xrf k 2) 2 := xt_fld h (by decide) (by decide) rfl rfl
theorem xt_0_3 {k : Nat} (h : xTy k 0) : xTy (xrf k 3) 2 := xt_fld h (by decide) (by decide) rfl rfl
theorem xt_0_4 {k : Nat} (h : xTy k 0) : xTy (xrf k 4) 2 := xt_fld h (by decide) (by decide) rfl rfl
theorem xt_0_5 {k : Nat} (h : xTy k 0) : xTy (xrf k 5) 2 := xt_fld h (by decide) (by decide) rfl rfl
theorem xt_0_6 {k : Nat} (h : xTy k 0) : xTy (xrf k 6) 2 := xt_fld h (by decide) (by decide) rfl rfl
theorem xt_0_7 {k : Nat} (h : xTy k 0) : xTy (xrf k 7) 4 := xt_fld h (by decide) (by decide) rfl rfl
theorem xt_1_0 {k : Nat} (h : xTy k 1) : xTy (xrf k 0) 3 := xt_fld h (by decide) (by decide) rfl rfl
theorem xt_1_1 {k : Nat} (h : xTy k 1) : xTy (xrf k 1) 5 := xt_fld h (by decide) (by decide) rfl rfl
theorem xt_2_2 {k : Nat} (h : xTy k 2) : xTy (xrf k 2) 8 := xt_fld h (by decide) (by decide) rfl rfl
theorem xt_3_0 {k : Nat} (h : xTy k 3) : xTy (xrf k 0) 8 := xt_fld h (by decide) (by decide) rfl rfl
theorem xt_5_0 {k : Nat} (h : xTy k 5) : xTy (xrf k 0) 10 := xt_fld h (by decide) (by decide) rfl rfl
theorem xt_5_1 {k : Nat} (h : xTy k 5) : xTy (xrf k 1) 2 := xt_fld h (by decide) (by decide) rfl rfl
theorem xt_5_2 {k : Nat} (h : xTy k 5) : xTy (xrf k 2) 2 := xt_fld h (by decide) (by decide) rfl rfl
theorem xt_6_0 {k : Nat} (h : xTy k 6) : xTy (xrf k 0) 3 := xt_fld h (by decide) (by decide) rfl rfl
theorem xt_6_1 {k : Nat} (h : xTy k 6) : xTy (xrf k 1) 1 := xt_fld h (by decide) (by decide) rfl rfl
theorem xt_6_2 {k : Nat} (h : xTy k 6) : xTy (xrf k 2) 5 := xt_fld h (by decide) (by decide) rfl rfl
theorem xt_6_3 {k : Nat} (h : xTy k 6) : xTy (xrf k 3) 11 := xt_fld h (by decide) (by decide) rfl rfl
theorem xt_6_4 {k : Nat} (h : xTy k 6) : xTy (xrf k 4) 9 := xt_fld h (by decide) (by decide) rfl rfl
theorem xt_7_0 {k : Nat} (h : xTy k 7) : xTy (xrf k 0) 8 := xt_fld h (by decide) (by decide) rfl rfl
theorem xt_7_1 {k : Nat} (h : xTy k 7) : xTy (xrf k 1) 8 := xt_fld h (by decide) (by decide) rfl rfl
theorem xt_7_2 {k : Nat} (h : xTy k 7) : xTy (xrf k 2) 8 := xt_fld h (by decide) (by decide) rfl rfl
theorem xt_7_3 {k : Nat} (h : xTy k 7) : xTy (xrf k 3) 9 := xt_fld h (by decide) (by decide) rfl rfl
theorem xt_7_4 {k : Nat} (h : xTy k 7) : xTy (xrf k 4) 8 := xt_fld h (by decide) (by decide) rfl rfl
theorem xt_7_6 {k : Nat} (h : xTy k 7) : xTy (xrf k 6) 8 := xt_fld h (by decide) (by decide) rfl rfl
theorem xt_7_14 {k : Nat} (h : xTy k 7) : xTy (xrf k 14) 8 := xt_fld h (by decide) (by decide) rfl rfl
theorem xt_7_16 {k : Nat} (h : xTy k 7) : xTy (xrf k 16) 8 := xt_fld h (by decide) (by decide) rfl rfl
theorem xt_7_17 {k : Nat} (h : xTy k 7) : xTy (xrf k 17) 8 := xt_fld h (by decide) (by decide) rfl rfl
theorem xt_7_18 {k : Nat} (h : xTy k 7) : xTy (xrf k 18) 8 := xt_fld h (by decide) (by decide) rfl rfl
theorem xt_7_19 {k : Nat} (h : xTy k 7) : xTy (xrf k 19) 8 := xt_fld h (by decide) (by decide) rfl rfl
theorem xt_7_20 {k : Nat} (h : xTy k 7) : xTy (xrf k 20) 8 := xt_fld h (by decide) (by decide) rfl rfl
theorem xt_7_21 {k : Nat} (h : xTy k 7) : xTy (xrf k 21) 8 := xt_fld h (by decide) (by decide) rfl rfl
theorem xt_7_22 {k : Nat} (h : xTy k 7) : xTy (xrf k 22) 8 := xt_fld h (by decide) (by decide) rfl rfl
theorem xln_lt : ∀ k, k < xNC → xln k < 2 ^ 31 := by decide +kernel
