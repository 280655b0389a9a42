/-! the first memory; what each cell is at the start -/
def hwd (l : Nat) : Nat × Nat := if l = 18 then (6, 3) else if l = 96 then (16, 6) else if l = 4 then (4, 1) else if l = 120 then (30, 4) else if l = 48 then (12, 4) else (36, 2)
def h0 : Mem := fun k j => if xkd k = 2 then (if j = 0 then nI (hwd (xln (k + 1))).1 else if j = 1 then nI (hwd (xln (k + 1))).2 else 0) else 0
theorem h0_ne {k : Nat} (h : xkd k ≠ 2) : h0 k = fun _ => 0 := by
  funext j
  exact if_neg h
theorem xe_row {G : xG} {k a b : Nat} (t : xkd k = 2) (l : hwd (xln (k + 1)) = (a, b)) : xE G h0 k = .inr (2, [.int (nI a), .int (nI b), .ref (G.1 (k + 1)), .int 0]) := by
  have e0 : h0 k 0 = nI a := by simp [h0, t, l]
  have e1 : h0 k 1 = nI b := by simp [h0, t, l]
  have e3 : h0 k 3 = 0 := by simp [h0, t]
  have er : xrf k 2 = k + 1 := by simp [xrf, t]
  unfold xE
  rw [t, if_pos (by decide)]
  simp [xfs, xfsL, xfl, e0, e1, e3, er]
theorem xe_arr {G : xG} {k N : Nat} (t : xkd k = 8) (l : xln k = N) : xE G h0 k = .inl (G.2.2.1 0, N, .inl (fun _ => 0)) := by
  unfold xE
  rw [t, h0_ne (by rw [t]; decide), l]
  rfl
theorem xe_will {G : xG} {k : Nat} (t : xkd k = 4) : xE G h0 k = .inr (4, bl_X5) := by
  unfold xE
  rw [t, h0_ne (by rw [t]; decide), if_pos (by decide)]
  simp [xfs, xfsL, xfl, bl_X5, h0_ne, t]
theorem xe_tape {G : xG} {k : Nat} (t : xkd k = 3) : xE G h0 k = .inr (3, [.ref (G.1 (k + 1)), .int 0]) := by
  have er : xrf k 0 = k + 1 := by simp [xrf, t]
  unfold xE
  rw [t, if_pos (by decide)]
  simp [xfs, xfsL, xfl, er, h0_ne, t]
theorem xe_cl {G : xG} {k : Nat} (t : xkd k = 0) : xE G h0 k = .inr (0, [.ref (G.1 (k + 1)), .ref (G.1 (k + 3)), .ref (G.1 (k + 4)), .ref (G.1 (k + 6)), .ref (G.1 (k + 8)), .ref (G.1 (k + 10)), .ref (G.1 (k + 12)), .ref (G.1 (k + 14)), .int 0, .int 0, .int 0, .int 0, .int 0, .int 0, .int 0, .int 0, .int 0]) := by
  unfold xE
  rw [t, if_pos (by decide)]
  simp [xfs, xfsL, xfl, xrf, h0_ne, t]
theorem xe_wd {G : xG} {k : Nat} (t : xkd k = 5) : xE G h0 k = .inr (5, [.ref (G.1 (k + 1)), .ref (G.1 (k + 2)), .ref (G.1 (k + 4)), .int 0, .int 0]) := by
  unfold xE
  rw [t, if_pos (by decide)]
  simp [xfs, xfsL, xfl, xrf, h0_ne, t]
/-- an object of kind ci at K under way, all behind it as at the start -/
def NF (G : xG) (ci K : Nat) (fs : List Value) (E : Nat → va_E) : Nat → va_E := fun j => if j = K then .inr (ci, fs) else if K < j then xE G h0 j else E j
theorem NF_eq {G : xG} {ci K : Nat} {fs : List Value} {E : Nat → va_E} : NF G ci K fs E K = .inr (ci, fs) := if_pos rfl
theorem NF_put {G : xG} {ci K n : Nat} {fs fs' fs'' : List Value} {E : Nat → va_E} (e : fs' = fs) : ∀ k, k < n → NF G ci K fs' E k = fe (NF G ci K fs'' E) K (.inr (ci, fs)) k := by
  intro k _
  subst e
  unfold fe NF
  by_cases h : k = K <;> simp [h]
theorem NF_one {G : xG} {ci K m : Nat} {fs : List Value} {E : Nat → va_E} {x : va_E} (h : K < m) (e : x = xE G h0 m) : ∀ k, k < m + 1 → NF G ci K fs E k = fe (NF G ci K fs E) m x k := by
  intro k _
  unfold fe
  by_cases h1 : k = m
  · subst h1
    rw [if_pos rfl, e]
    unfold NF
    rw [if_neg (by omega), if_pos h]
  · rw [if_neg h1]
theorem NF_row {G : xG} {ci K m : Nat} {fs : List Value} {E : Nat → va_E} {x : va_E} (h : K < m) : ∀ k, k < m + 2 → NF G ci K fs E k = fe (fe (fe (NF G ci K fs E) m x) m (xE G h0 m)) (m + 1) (xE G h0 (m + 1)) k := by
  intro k _
  unfold fe
  by_cases h1 : k = m + 1
  · subst h1
    rw [if_pos rfl]
    unfold NF
    rw [if_neg (by omega), if_pos (by omega)]
  · rw [if_neg h1]
    by_cases h2 : k = m
    · subst h2
      rw [if_pos rfl]
      unfold NF
      rw [if_neg (by omega), if_pos h]
    · rw [if_neg h2, if_neg h2]
theorem NF_new {G : xG} {ci K n : Nat} {fs : List Value} {E : Nat → va_E} (e : E K = .inr (ci, fs)) (hn : n ≤ K + 1) : ∀ k, k < n → NF G ci K fs E k = E k := by
  intro k hk
  unfold NF
  by_cases h : k = K
  · rw [if_pos h, h, e]
  · rw [if_neg h, if_neg (by omega)]
/-! Will, Rows, Tape -/
theorem s_will {G : xG} {k n : Nat} {E : Nat → va_E} : Sk G 1 0 0 yX5_init FX5_init [.ref (G.1 k)] n E n E :=
  Sk.of pn_X5 rfl rfl rfl (Nat.le_of_ble_eq_true rfl) rfl (fun _ => k_al dX5_init_0 rfl (place := 0) rfl (k_obj dX5_init_1 ob_X5 (by decide) (Nat.zero_le _) (k_ret dX5_init_4 rfl rfl (fun _ _ => rfl) rfl)))
theorem xmax_nI {a b : Nat} (h : b ≤ a) (ha : a < 2 ^ 31) : xmax (nI a) (nI b) = nI a := by
  unfold xmax
  rw [if_neg]
  rw [nI_ltI ha (by omega)]
  omega
theorem s_rows {G : xG} {k a b : Nat} {E : Nat → va_E} (e : E k = .inr (2, bl_X3)) (t : xkd k = 2) (t1 : xkd (k + 1) = 8) (l : hwd (xln (k + 1)) = (a, b)) (l2 : xln (k + 1) = a * b) (hb : 1 ≤ b) (ha : a < 2 ^ 31) (hb2 : b < 2 ^ 31) (hab : a * b ≤ 1000) : Sk G 1 1 (a * b) yX3_init FX3_init [.ref (G.1 k), .int (nI a), .int (nI b)] (k + 1) E (k + 2) (fe (fe E k (xE G h0 k)) (k + 1) (xE G h0 (k + 1))) := by
  refine Sk.of pn_X3 rfl rfl rfl (Nat.le_of_ble_eq_true rfl) rfl (fun hz => ?_)
  refine k_al dX3_init_0 rfl (place := 0) rfl ?_
  refine k_obj dX3_init_1 ob_X3 (by decide) (Nat.zero_le _) ?_
  refine k_al dX3_init_4 rfl (place := 0) rfl ?_
  refine k_il dX3_init_5 rfl (place := 1) rfl ?_
  refine k_ic dX3_init_6 rfl ?_
  refine k_max dX3_init_7 mx_X3_7 (by decide) (Nat.le_of_ble_eq_true rfl) (by omega) (by omega) ?_
  rw [show (Int32.ofInt 0) = nI 0 from rfl, xmax_nI (by omega) ha]
  refine k_putF dX3_init_10 fq_X3_13 (by omega) e (Nat.le_of_ble_eq_true rfl) rfl rfl ?_
  refine k_al dX3_init_13 rfl (place := 0) rfl ?_
  refine k_il dX3_init_14 rfl (place := 2) rfl ?_
  refine k_ic dX3_init_15 rfl ?_
  refine k_max dX3_init_16 mx_X3_7 (by decide) (Nat.le_of_ble_eq_true rfl) (by omega) (by omega) ?_
  rw [show (Int32.ofInt 1) = nI 1 from rfl, xmax_nI hb hb2]
  refine k_putF dX3_init_19 fq_X3_19 (by omega) fe_eq (Nat.le_of_ble_eq_true rfl) rfl rfl ?_
  refine k_al dX3_init_22 rfl (place := 0) rfl ?_
  refine k_al dX3_init_23 rfl (place := 0) rfl ?_
  refine k_get dX3_init_24 fg_X3_13 (by omega) fe_eq rfl ?_
  refine k_al dX3_init_27 rfl (place := 0) rfl ?_
  refine k_get dX3_init_28 fg_X3_19 (by omega) fe_eq rfl ?_
  refine k_mul dX3_init_31 ?_
  rw [nI_mul]
  refine k_newaI (N := a * b) dX3_init_32 ac_I (Int32.not_lt.mpr (nI_le (a := 0) (Nat.zero_le _) (by omega))) (nI_clamp (by omega)) (by omega) (by omega) (by omega) ?_
  refine k_putF dX3_init_34 fq_X3_22 (by omega) ((fe_ne (by omega)).trans fe_eq) (Nat.le_of_ble_eq_true rfl) rfl rfl ?_
  refine k_al dX3_init_37 rfl (place := 0) rfl ?_
  refine k_ic dX3_init_38 rfl ?_
  refine k_putI dX3_init_39 fp_X3_26 fl_X3_26 (by omega) fe_eq (Nat.le_of_ble_eq_true rfl) rfl rfl ?_
  refine k_ret dX3_init_42 rfl (by omega) ?_ rfl
  intro j hj
  rw [xe_row t l, xe_arr t1 l2]
  unfold fe
  by_cases h1 : j = k + 1
  · rw [if_pos h1, if_neg (by omega), if_neg (by omega), if_pos h1]
  · rw [if_neg h1]
    by_cases h2 : j = k
    · rw [if_pos h2, if_pos h2]
      rfl
    · rw [if_neg h2, if_neg h2, if_neg h2, if_neg h1, if_neg h2, if_neg h2]
theorem s_tape {G : xG} {k : Nat} {E : Nat → va_E} (e : E k = .inr (3, bl_X4)) (t : xkd k = 3) (t1 : xkd (k + 1) = 8) (l2 : xln (k + 1) = 200) : Sk G 1 1 200 yX4_init FX4_init [.ref (G.1 k)] (k + 1) E (k + 2) (fe (fe E k (xE G h0 k)) (k + 1) (xE G h0 (k + 1))) := by
  refine Sk.of pn_X4 rfl rfl rfl (Nat.le_of_ble_eq_true rfl) rfl (fun hz => ?_)
  refine k_al dX4_init_0 rfl (place := 0) rfl ?_
  refine k_obj dX4_init_1 ob_X4 (by decide) (Nat.zero_le _) ?_
  refine k_al dX4_init_4 rfl (place := 0) rfl ?_
  refine k_si dX4_init_5 (v := 200) (by decide +kernel) ?_
  refine k_newaI (N := 200) dX4_init_8 ac_I (by decide) (by decide) (by decide) (by decide) (by decide) ?_
  refine k_putF dX4_init_10 fq_X4_9 (by omega) ((fe_ne (by omega)).trans e) (Nat.le_of_ble_eq_true rfl) rfl rfl ?_
  refine k_ret dX4_init_13 rfl (by omega) ?_ rfl
  intro j hj
  rw [xe_tape t, xe_arr t1 l2]
  unfold fe
  by_cases h1 : j = k + 1
  · rw [if_pos h1, if_neg (by omega), if_pos h1]
  · rw [if_neg h1]
    by_cases h2 : j = k
    · rw [if_pos h2, if_pos h2]
      rfl
    · rw [if_neg h2, if_neg h2, if_neg h1]
