/-! constructors: a client -/
def ckc (K : Nat) : Bool := xkd (K + 0) == 0 && xkd (K + 1) == 2 && xkd (K + 2) == 8 && xkd (K + 3) == 8 && xkd (K + 4) == 2 && xkd (K + 5) == 8 && xkd (K + 6) == 2 && xkd (K + 7) == 8 && xkd (K + 8) == 2 && xkd (K + 9) == 8 && xkd (K + 10) == 2 && xkd (K + 11) == 8 && xkd (K + 12) == 2 && xkd (K + 13) == 8 && xkd (K + 14) == 4 && xln (K + 2) == 18 && xln (K + 3) == 4 && xln (K + 5) == 96 && xln (K + 7) == 96 && xln (K + 9) == 96 && xln (K + 11) == 4 && xln (K + 13) == 120 && Nat.ble (K + 15) 390
theorem ckc_all {K : Nat} (h : ckc K = true) : (xkd (K + 0) = 0 ∧ xkd (K + 1) = 2 ∧ xkd (K + 2) = 8 ∧ xkd (K + 3) = 8 ∧ xkd (K + 4) = 2 ∧ xkd (K + 5) = 8 ∧ xkd (K + 6) = 2 ∧ xkd (K + 7) = 8 ∧ xkd (K + 8) = 2 ∧ xkd (K + 9) = 8 ∧ xkd (K + 10) = 2 ∧ xkd (K + 11) = 8 ∧ xkd (K + 12) = 2 ∧ xkd (K + 13) = 8 ∧ xkd (K + 14) = 4) ∧ (xln (K + 2) = 18 ∧ xln (K + 3) = 4 ∧ xln (K + 5) = 96 ∧ xln (K + 7) = 96 ∧ xln (K + 9) = 96 ∧ xln (K + 11) = 4 ∧ xln (K + 13) = 120) ∧ K + 15 ≤ 390 := by
  unfold ckc at h
  simp only [Bool.and_eq_true, beq_iff_eq, Nat.ble_eq] at h
  simp only [h, and_self, true_and]
theorem ck_0 {K : Nat} (h : ckc K = true) : xkd (K + 0) = 0 := (ckc_all h).1.1
theorem ck_1 {K : Nat} (h : ckc K = true) : xkd (K + 1) = 2 := (ckc_all h).1.2.1
theorem ck_2 {K : Nat} (h : ckc K = true) : xkd (K + 2) = 8 := (ckc_all h).1.2.2.1
theorem ck_3 {K : Nat} (h : ckc K = true) : xkd (K + 3) = 8 := (ckc_all h).1.2.2.2.1
theorem ck_4 {K : Nat} (h : ckc K = true) : xkd (K + 4) = 2 := (ckc_all h).1.2.2.2.2.1
theorem ck_5 {K : Nat} (h : ckc K = true) : xkd (K + 5) = 8 := (ckc_all h).1.2.2.2.2.2.1
theorem ck_6 {K : Nat} (h : ckc K = true) : xkd (K + 6) = 2 := (ckc_all h).1.2.2.2.2.2.2.1
theorem ck_7 {K : Nat} (h : ckc K = true) : xkd (K + 7) = 8 := (ckc_all h).1.2.2.2.2.2.2.2.1
theorem ck_8 {K : Nat} (h : ckc K = true) : xkd (K + 8) = 2 := (ckc_all h).1.2.2.2.2.2.2.2.2.1
theorem ck_9 {K : Nat} (h : ckc K = true) : xkd (K + 9) = 8 := (ckc_all h).1.2.2.2.2.2.2.2.2.2.1
theorem ck_10 {K : Nat} (h : ckc K = true) : xkd (K + 10) = 2 := (ckc_all h).1.2.2.2.2.2.2.2.2.2.2.1
theorem ck_11 {K : Nat} (h : ckc K = true) : xkd (K + 11) = 8 := (ckc_all h).1.2.2.2.2.2.2.2.2.2.2.2.1
theorem ck_12 {K : Nat} (h : ckc K = true) : xkd (K + 12) = 2 := (ckc_all h).1.2.2.2.2.2.2.2.2.2.2.2.2.1
theorem ck_13 {K : Nat} (h : ckc K = true) : xkd (K + 13) = 8 := (ckc_all h).1.2.2.2.2.2.2.2.2.2.2.2.2.2.1
theorem ck_14 {K : Nat} (h : ckc K = true) : xkd (K + 14) = 4 := (ckc_all h).1.2.2.2.2.2.2.2.2.2.2.2.2.2.2
theorem cl_2 {K : Nat} (h : ckc K = true) : xln (K + 2) = 18 := (ckc_all h).2.1.1
theorem cl_3 {K : Nat} (h : ckc K = true) : xln (K + 3) = 4 := (ckc_all h).2.1.2.1
theorem cl_5 {K : Nat} (h : ckc K = true) : xln (K + 5) = 96 := (ckc_all h).2.1.2.2.1
theorem cl_7 {K : Nat} (h : ckc K = true) : xln (K + 7) = 96 := (ckc_all h).2.1.2.2.2.1
theorem cl_9 {K : Nat} (h : ckc K = true) : xln (K + 9) = 96 := (ckc_all h).2.1.2.2.2.2.1
theorem cl_11 {K : Nat} (h : ckc K = true) : xln (K + 11) = 4 := (ckc_all h).2.1.2.2.2.2.2.1
theorem cl_13 {K : Nat} (h : ckc K = true) : xln (K + 13) = 120 := (ckc_all h).2.1.2.2.2.2.2.2
theorem ck_b {K : Nat} (h : ckc K = true) : K + 15 ≤ 390 := (ckc_all h).2.2
theorem ckc_of {b c : Nat} (hb : isB b) (hc : c < 6) : ckc (b + 6 + 15 * c) = true := by
  have key : ∀ c, c < 6 → ckc (4 + 6 + 15 * c) = true ∧ ckc (100 + 6 + 15 * c) = true ∧ ckc (197 + 6 + 15 * c) = true ∧ ckc (293 + 6 + 15 * c) = true := by decide +kernel
  rcases hb with rfl | rfl | rfl | rfl
  · exact (key c hc).1
  · exact (key c hc).2.1
  · exact (key c hc).2.2.1
  · exact (key c hc).2.2.2
theorem NF_hi {G : xG} {ci K j : Nat} {fs : List Value} {E : Nat → va_E} (h : K < j) : NF G ci K fs E j = xE G h0 j := by
  unfold NF
  rw [if_neg (by omega), if_pos h]
theorem row_id {G : xG} {E0 : Nat → va_E} {m n : Nat} {x : va_E} (h1 : E0 m = xE G h0 m) (h2 : E0 (m + 1) = xE G h0 (m + 1)) : ∀ k, k < n → E0 k = fe (fe (fe E0 m x) m (xE G h0 m)) (m + 1) (xE G h0 (m + 1)) k := by
  intro k _
  unfold fe
  by_cases q : k = m + 1
  · rw [if_pos q, q, h2]
  · rw [if_neg q]
    by_cases r : k = m
    · rw [if_pos r, r, h1]
    · rw [if_neg r, if_neg r]
theorem one_id {E0 : Nat → va_E} {m n : Nat} {x : va_E} (h1 : E0 m = x) : ∀ k, k < n → E0 k = fe E0 m x k := by
  intro k _
  unfold fe
  by_cases r : k = m
  · rw [if_pos r, r, h1]
  · rw [if_neg r]
theorem blk_id {G : xG} {E0 : Nat → va_E} {K n : Nat} {x : va_E} (h : ∀ j, K ≤ j → j < n → E0 j = xE G h0 j) : ∀ k, k < n → E0 k = (fun j => if K ≤ j then xE G h0 j else fe E0 K x j) k := by
  intro k hk
  show E0 k = if K ≤ k then xE G h0 k else fe E0 K x k
  by_cases r : K ≤ k
  · rw [if_pos r, h k r hk]
  · rw [if_neg r, fe_ne (by omega)]
set_option maxHeartbeats 4000000 in
theorem s_client {G : xG} {K : Nat} {E : Nat → va_E} (e : E K = .inr (0, bl_X0)) (c : ckc K = true) : Sk G 2 14 465 yX0_init FX0_init [.ref (G.1 K)] (K + 1) E (K + 15) (fun j => if K ≤ j then xE G h0 j else E j) := by
  have hK := ck_b c
  refine Sk.of pn_X0 rfl rfl rfl (Nat.le_of_ble_eq_true rfl) rfl (fun hz => ?_)
  refine k_al dX0_init_0 rfl (place := 0) rfl ?_
  refine k_obj dX0_init_1 ob_X0 (by decide) (Nat.zero_le _) ?_
  refine k_cgr (NF_new (G := G) e (Nat.le_refl _)) ?_
  refine k_al dX0_init_4 rfl (place := 0) rfl ?_
  refine k_new dX0_init_5 nw_X0_9 (by decide) (by decide) ?_
  refine k_dup dX0_init_8 rfl ?_
  refine k_bi dX0_init_9 (v := nI 6) (by decide) ?_
  refine k_ic dX0_init_11 (v := nI 3) (by decide) ?_
  refine k_call (k := K + 1) dX0_init_12 mc_X3 lkC_X0_11 (s_rows (k := K + 1) (a := 6) (b := 3) fe_eq (ck_1 c) (ck_2 c) (by rw [cl_2 c]; rfl) (by rw [cl_2 c]) (by decide) (by decide) (by decide) (by decide)) (by omega) (by decide) rfl rfl (Nat.le_of_ble_eq_true rfl) (by decide) (by decide) ?_
  refine k_cgr (row_id (E0 := NF G 0 K (bl_X0) E) (NF_hi (by omega)) (NF_hi (by omega))) ?_
  refine k_putF dX0_init_15 fq_X0_14 (by omega) NF_eq (Nat.le_of_ble_eq_true rfl) rfl rfl ?_
  refine k_cgr (NF_put (fs' := (bl_X0).set 0 (.ref (G.1 (K + 1)))) rfl) ?_
  refine k_al dX0_init_18 rfl (place := 0) rfl ?_
  refine k_ic dX0_init_19 (v := nI 4) (by decide) ?_
  refine k_newaI (N := 4) dX0_init_20 ac_I (by decide) (by decide) (by decide) (by decide) (by decide) ?_
  refine k_cgr (one_id (E0 := NF G 0 K ((bl_X0).set 0 (.ref (G.1 (K + 1)))) E) ((NF_hi (by omega)).trans (xe_arr (ck_3 c) (cl_3 c)))) ?_
  refine k_putF dX0_init_22 fq_X0_20 (by omega) NF_eq (Nat.le_of_ble_eq_true rfl) rfl rfl ?_
  refine k_cgr (NF_put (fs' := ((bl_X0).set 0 (.ref (G.1 (K + 1)))).set 1 (.ref (G.1 (K + 3)))) rfl) ?_
  refine k_al dX0_init_25 rfl (place := 0) rfl ?_
  refine k_new dX0_init_26 nw_X0_9 (by decide) (by decide) ?_
  refine k_dup dX0_init_29 rfl ?_
  refine k_bi dX0_init_30 (v := nI 16) (by decide) ?_
  refine k_bi dX0_init_32 (v := nI 6) (by decide) ?_
  refine k_call (k := K + 4) dX0_init_34 mc_X3 lkC_X0_11 (s_rows (k := K + 4) (a := 16) (b := 6) fe_eq (ck_4 c) (ck_5 c) (by rw [cl_5 c]; rfl) (by rw [cl_5 c]) (by decide) (by decide) (by decide) (by decide)) (by omega) (by decide) rfl rfl (Nat.le_of_ble_eq_true rfl) (by decide) (by decide) ?_
  refine k_cgr (row_id (E0 := NF G 0 K (((bl_X0).set 0 (.ref (G.1 (K + 1)))).set 1 (.ref (G.1 (K + 3)))) E) (NF_hi (by omega)) (NF_hi (by omega))) ?_
  refine k_putF dX0_init_37 fq_X0_24 (by omega) NF_eq (Nat.le_of_ble_eq_true rfl) rfl rfl ?_
  refine k_cgr (NF_put (fs' := (((bl_X0).set 0 (.ref (G.1 (K + 1)))).set 1 (.ref (G.1 (K + 3)))).set 2 (.ref (G.1 (K + 4)))) rfl) ?_
  refine k_al dX0_init_40 rfl (place := 0) rfl ?_
  refine k_new dX0_init_41 nw_X0_9 (by decide) (by decide) ?_
  refine k_dup dX0_init_44 rfl ?_
  refine k_bi dX0_init_45 (v := nI 16) (by decide) ?_
  refine k_bi dX0_init_47 (v := nI 6) (by decide) ?_
  refine k_call (k := K + 6) dX0_init_49 mc_X3 lkC_X0_11 (s_rows (k := K + 6) (a := 16) (b := 6) fe_eq (ck_6 c) (ck_7 c) (by rw [cl_7 c]; rfl) (by rw [cl_7 c]) (by decide) (by decide) (by decide) (by decide)) (by omega) (by decide) rfl rfl (Nat.le_of_ble_eq_true rfl) (by decide) (by decide) ?_
  refine k_cgr (row_id (E0 := NF G 0 K ((((bl_X0).set 0 (.ref (G.1 (K + 1)))).set 1 (.ref (G.1 (K + 3)))).set 2 (.ref (G.1 (K + 4)))) E) (NF_hi (by omega)) (NF_hi (by omega))) ?_
  refine k_putF dX0_init_52 fq_X0_27 (by omega) NF_eq (Nat.le_of_ble_eq_true rfl) rfl rfl ?_
  refine k_cgr (NF_put (fs' := ((((bl_X0).set 0 (.ref (G.1 (K + 1)))).set 1 (.ref (G.1 (K + 3)))).set 2 (.ref (G.1 (K + 4)))).set 3 (.ref (G.1 (K + 6)))) rfl) ?_
  refine k_al dX0_init_55 rfl (place := 0) rfl ?_
  refine k_new dX0_init_56 nw_X0_9 (by decide) (by decide) ?_
  refine k_dup dX0_init_59 rfl ?_
  refine k_bi dX0_init_60 (v := nI 16) (by decide) ?_
  refine k_bi dX0_init_62 (v := nI 6) (by decide) ?_
  refine k_call (k := K + 8) dX0_init_64 mc_X3 lkC_X0_11 (s_rows (k := K + 8) (a := 16) (b := 6) fe_eq (ck_8 c) (ck_9 c) (by rw [cl_9 c]; rfl) (by rw [cl_9 c]) (by decide) (by decide) (by decide) (by decide)) (by omega) (by decide) rfl rfl (Nat.le_of_ble_eq_true rfl) (by decide) (by decide) ?_
  refine k_cgr (row_id (E0 := NF G 0 K (((((bl_X0).set 0 (.ref (G.1 (K + 1)))).set 1 (.ref (G.1 (K + 3)))).set 2 (.ref (G.1 (K + 4)))).set 3 (.ref (G.1 (K + 6)))) E) (NF_hi (by omega)) (NF_hi (by omega))) ?_
  refine k_putF dX0_init_67 fq_X0_30 (by omega) NF_eq (Nat.le_of_ble_eq_true rfl) rfl rfl ?_
  refine k_cgr (NF_put (fs' := (((((bl_X0).set 0 (.ref (G.1 (K + 1)))).set 1 (.ref (G.1 (K + 3)))).set 2 (.ref (G.1 (K + 4)))).set 3 (.ref (G.1 (K + 6)))).set 4 (.ref (G.1 (K + 8)))) rfl) ?_
  refine k_al dX0_init_70 rfl (place := 0) rfl ?_
  refine k_new dX0_init_71 nw_X0_9 (by decide) (by decide) ?_
  refine k_dup dX0_init_74 rfl ?_
  refine k_ic dX0_init_75 (v := nI 4) (by decide) ?_
  refine k_ic dX0_init_76 (v := nI 1) (by decide) ?_
  refine k_call (k := K + 10) dX0_init_77 mc_X3 lkC_X0_11 (s_rows (k := K + 10) (a := 4) (b := 1) fe_eq (ck_10 c) (ck_11 c) (by rw [cl_11 c]; rfl) (by rw [cl_11 c]) (by decide) (by decide) (by decide) (by decide)) (by omega) (by decide) rfl rfl (Nat.le_of_ble_eq_true rfl) (by decide) (by decide) ?_
  refine k_cgr (row_id (E0 := NF G 0 K ((((((bl_X0).set 0 (.ref (G.1 (K + 1)))).set 1 (.ref (G.1 (K + 3)))).set 2 (.ref (G.1 (K + 4)))).set 3 (.ref (G.1 (K + 6)))).set 4 (.ref (G.1 (K + 8)))) E) (NF_hi (by omega)) (NF_hi (by omega))) ?_
  refine k_putF dX0_init_80 fq_X0_33 (by omega) NF_eq (Nat.le_of_ble_eq_true rfl) rfl rfl ?_
  refine k_cgr (NF_put (fs' := ((((((bl_X0).set 0 (.ref (G.1 (K + 1)))).set 1 (.ref (G.1 (K + 3)))).set 2 (.ref (G.1 (K + 4)))).set 3 (.ref (G.1 (K + 6)))).set 4 (.ref (G.1 (K + 8)))).set 5 (.ref (G.1 (K + 10)))) rfl) ?_
  refine k_al dX0_init_83 rfl (place := 0) rfl ?_
  refine k_new dX0_init_84 nw_X0_9 (by decide) (by decide) ?_
  refine k_dup dX0_init_87 rfl ?_
  refine k_bi dX0_init_88 (v := nI 30) (by decide) ?_
  refine k_ic dX0_init_90 (v := nI 4) (by decide) ?_
  refine k_call (k := K + 12) dX0_init_91 mc_X3 lkC_X0_11 (s_rows (k := K + 12) (a := 30) (b := 4) fe_eq (ck_12 c) (ck_13 c) (by rw [cl_13 c]; rfl) (by rw [cl_13 c]) (by decide) (by decide) (by decide) (by decide)) (by omega) (by decide) rfl rfl (Nat.le_of_ble_eq_true rfl) (by decide) (by decide) ?_
  refine k_cgr (row_id (E0 := NF G 0 K (((((((bl_X0).set 0 (.ref (G.1 (K + 1)))).set 1 (.ref (G.1 (K + 3)))).set 2 (.ref (G.1 (K + 4)))).set 3 (.ref (G.1 (K + 6)))).set 4 (.ref (G.1 (K + 8)))).set 5 (.ref (G.1 (K + 10)))) E) (NF_hi (by omega)) (NF_hi (by omega))) ?_
  refine k_putF dX0_init_94 fq_X0_36 (by omega) NF_eq (Nat.le_of_ble_eq_true rfl) rfl rfl ?_
  refine k_cgr (NF_put (fs' := (((((((bl_X0).set 0 (.ref (G.1 (K + 1)))).set 1 (.ref (G.1 (K + 3)))).set 2 (.ref (G.1 (K + 4)))).set 3 (.ref (G.1 (K + 6)))).set 4 (.ref (G.1 (K + 8)))).set 5 (.ref (G.1 (K + 10)))).set 6 (.ref (G.1 (K + 12)))) rfl) ?_
  refine k_al dX0_init_97 rfl (place := 0) rfl ?_
  refine k_new dX0_init_98 nw_X0_39 (by decide) (by decide) ?_
  refine k_dup dX0_init_101 rfl ?_
  refine k_call (k := K + 14) dX0_init_102 mc_X5 lkC_X0_41 s_will (by omega) (by decide) rfl rfl (Nat.le_of_ble_eq_true rfl) (by decide) (by decide) ?_
  refine k_cgr (one_id (E0 := NF G 0 K ((((((((bl_X0).set 0 (.ref (G.1 (K + 1)))).set 1 (.ref (G.1 (K + 3)))).set 2 (.ref (G.1 (K + 4)))).set 3 (.ref (G.1 (K + 6)))).set 4 (.ref (G.1 (K + 8)))).set 5 (.ref (G.1 (K + 10)))).set 6 (.ref (G.1 (K + 12)))) E) ((NF_hi (by omega)).trans (xe_will (ck_14 c)))) ?_
  refine k_putF dX0_init_105 fq_X0_42 (by omega) NF_eq (Nat.le_of_ble_eq_true rfl) rfl rfl ?_
  refine k_ret dX0_init_108 (by decide) (by decide) ?_ rfl
  intro j hj
  unfold fe NF
  by_cases h : j = K
  · rw [if_pos h, if_pos (by omega), h, xe_cl (k := K) (ck_0 c)]
    rfl
  · rw [if_neg h, if_neg h]
    by_cases h2 : K < j
    · rw [if_pos h2, if_pos (by omega)]
    · rw [if_neg h2, if_neg (by omega)]
