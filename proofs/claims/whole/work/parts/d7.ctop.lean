/-! constructors: the reader, the class itself -/
theorem kd_1 : xkd 1 = 1 := by decide +kernel
theorem kd_0 : xkd 0 = 6 := by decide +kernel
theorem kd_196 : xkd 196 = 11 := by decide +kernel
theorem kd_389 : xkd 389 = 9 := by decide +kernel
theorem xe_rd {G : xG} : xE G h0 1 = .inr (1, [.ref (G.1 2), .ref (G.1 4), .int 0, .int 0, .int 0, .int 0, .int 0, .int 0, .int 0]) := by
  unfold xE
  rw [kd_1, if_pos (by decide)]
  simp [xfs, xfsL, xfl, xrf, h0_ne, kd_1]
theorem xe_top {G : xG} : xE G h0 0 = .inr (6, [.ref (G.1 2), .ref (G.1 1), .ref (G.1 100), .ref (G.1 196), .ref (G.1 389), .int 0, .int 0]) := by
  unfold xE
  rw [kd_0, if_pos (by decide)]
  simp [xfs, xfsL, xfl, xrf, h0_ne, kd_0]
theorem xe_bo {G : xG} {k N : Nat} (t : xkd k = 9) (l : xln k = N) : xE G h0 k = .inl (G.2.2.1 1, N, .inl (fun _ => 0)) := by
  unfold xE
  rw [t, h0_ne (by rw [t]; decide), l]
  rfl
set_option maxHeartbeats 4000000 in
theorem s_reader {G : xG} {E : Nat → va_E} (e : E 1 = .inr (1, bl_X2)) : Sk G 4 98 3233 yX2_init FX2_init [.ref (G.1 1)] 2 E 100 (fun j => if 1 ≤ j then xE G h0 j else E j) := by
  refine Sk.of pn_X2 rfl rfl rfl (Nat.le_of_ble_eq_true rfl) rfl (fun hz => ?_)
  refine k_al dX2_init_0 rfl (place := 0) rfl ?_
  refine k_obj dX2_init_1 ob_X2 (by decide) (Nat.zero_le _) ?_
  refine k_cgr (NF_new (G := G) e (Nat.le_refl _)) ?_
  refine k_al dX2_init_4 rfl (place := 0) rfl ?_
  refine k_new dX2_init_5 nw_X2_9 (by decide) (by decide) ?_
  refine k_dup dX2_init_8 rfl ?_
  refine k_call (k := 2) dX2_init_9 mc_X4 lkC_X2_11 (s_tape (k := 2) fe_eq (by decide +kernel) (by decide +kernel) (by decide +kernel)) (by omega) (by decide) rfl rfl (Nat.le_of_ble_eq_true rfl) (by decide) (by decide) ?_
  refine k_cgr (row_id (E0 := NF G 1 1 bl_X2 E) (NF_hi (by omega)) (NF_hi (by omega))) ?_
  refine k_putF dX2_init_12 fq_X2_12 (by omega) NF_eq (Nat.le_of_ble_eq_true rfl) rfl rfl ?_
  refine k_cgr (NF_put (fs' := [.ref (G.1 2), .null, .int 0, .int 0, .int 0, .int 0, .int 0, .int 0, .int 0]) rfl) ?_
  refine k_al dX2_init_15 rfl (place := 0) rfl ?_
  refine k_new dX2_init_16 nw_X2_18 (by decide) (by decide) ?_
  refine k_dup dX2_init_19 rfl ?_
  refine k_call (k := 4) dX2_init_20 mc_X6 lkC_X2_20 (s_world (b := 4) (Or.inl rfl) fe_eq) (by omega) (by decide) rfl rfl (Nat.le_of_ble_eq_true rfl) (by decide) (by decide) ?_
  refine k_cgr (blk_id (E0 := NF G 1 1 [.ref (G.1 2), .null, .int 0, .int 0, .int 0, .int 0, .int 0, .int 0, .int 0] E) (fun j h1 h2 => NF_hi (by omega))) ?_
  refine k_putF dX2_init_23 fq_X2_21 (by omega) NF_eq (Nat.le_of_ble_eq_true rfl) rfl rfl ?_
  refine k_ret dX2_init_26 (by decide) (by decide) ?_ rfl
  intro j hj
  unfold fe NF
  by_cases h : j = 1
  · rw [if_pos h, if_pos (by omega), h, xe_rd]
    rfl
  · rw [if_neg h, if_neg h]
    by_cases h2 : 1 < j
    · rw [if_pos h2, if_pos (by omega)]
    · rw [if_neg h2, if_neg (by omega)]
def tf (G : xG) (c : Nat) : Nat → Option Nat := fun j => if j < c then some (G.1 (197 + 96 * j)) else none
def TN (G : xG) (fs : List Value) (c : Nat) : Nat → va_E := fun j => if j = 0 then .inr (6, fs) else if j = 196 then .inl (G.2.2.1 3, 2, .inr (.inr (.inr (.inr (tf G c))))) else xE G h0 j
theorem TN_eq {G : xG} {c : Nat} {fs : List Value} : TN G fs c 0 = .inr (6, fs) := if_pos rfl
theorem TN_1 {G : xG} {c : Nat} {fs : List Value} : TN G fs c 196 = .inl (G.2.2.1 3, 2, .inr (.inr (.inr (.inr (tf G c))))) := by
  unfold TN
  rw [if_neg (by omega), if_pos rfl]
theorem TN_hi {G : xG} {c j : Nat} {fs : List Value} (h : 0 < j ∧ j ≠ 196) : TN G fs c j = xE G h0 j := by
  unfold TN
  rw [if_neg (by omega), if_neg h.2]
theorem TN_put {G : xG} {c n : Nat} {fs fs' fs'' : List Value} (e : fs' = fs) : ∀ k, k < n → TN G fs' c k = fe (TN G fs'' c) 0 (.inr (6, fs)) k := by
  intro k _
  subst e
  unfold fe TN
  by_cases h : k = 0 <;> simp [h]
theorem TN_up {G : xG} {c n : Nat} (hc : c < 2) {fs : List Value} : ∀ k, k < n → TN G fs (c + 1) k = fe (TN G fs c) 196 (.inl (G.2.2.1 3, 2, .inr (.inr (.inr (.inr (va_up (tf G c) (nI c).toNatClampNeg (some (G.1 (197 + 96 * c))))))))) k := by
  intro k _
  have e : va_up (tf G c) (nI c).toNatClampNeg (some (G.1 (197 + 96 * c))) = tf G (c + 1) := by
    rw [nI_clamp (by omega)]
    funext j
    unfold va_up tf
    by_cases h : j = c
    · subst h
      simp
    · rw [if_neg h]
      by_cases h2 : j < c
      · rw [if_pos h2, if_pos (by omega)]
      · rw [if_neg h2, if_neg (by omega)]
  rw [e]
  unfold fe TN
  by_cases h1 : k = 0
  · subst h1
    rw [if_pos rfl, if_neg (by omega), if_pos rfl]
  · rw [if_neg h1, if_neg h1]
    by_cases h2 : k = 196
    · rw [if_pos h2, if_pos h2]
    · rw [if_neg h2, if_neg h2, if_neg h2]
theorem isB_im {c : Nat} (hc : c < 2) : isB (197 + 96 * c) := by
  rcases (show c = 0 ∨ c = 1 by omega) with rfl | rfl
  · exact Or.inr (Or.inr (Or.inl rfl))
  · exact Or.inr (Or.inr (Or.inr rfl))
set_option maxHeartbeats 4000000 in
theorem t_loop {G : xG} : ∀ (d c : Nat), c + d = 2 → Rk G 5 389 12339 FX7_init 390 (fun j => xE G h0 j) (196 + 96 * c) (6275 + 3031 * c) 47 [(1, .int (nI c)), (0, .ref (G.1 0))] [] (197 + 96 * c) (TN G [.ref (G.1 2), .ref (G.1 1), .ref (G.1 100), .ref (G.1 196), .null, .int 0, .int 0] c) := by
  intro d
  induction d with
  | zero =>
    intro c hc
    have hc6 : c = 2 := by omega
    subst hc6
    refine k_il dX7_init_47 rfl (place := 0) rfl ?_
    refine k_ic dX7_init_48 (v := nI 2) (by decide) ?_
    refine k_ge (tgt := 71) dX7_init_49 (by decide) (fun _ => ?_) (fun q => absurd (by decide) q)
    refine k_arr (f' := fun j => some (G.1 (197 + 96 * j))) TN_1 (fun j hj => if_pos hj) ?_
    refine k_al dX7_init_71 rfl (place := 1) rfl ?_
    refine k_ic dX7_init_72 (v := nI 2) (by decide) ?_
    refine k_newaZ (N := 2) dX7_init_73 ac_Z (by decide) (by decide) (by decide) (by decide) (by decide) ?_
    refine k_putF dX7_init_75 fq_X7_32 (by decide) ((fe_ne (by decide)).trans ((fe_ne (by decide)).trans TN_eq)) (Nat.le_of_ble_eq_true rfl) rfl rfl ?_
    refine k_al dX7_init_78 rfl (place := 1) rfl ?_
    refine k_ic dX7_init_79 (v := 0) (by decide) ?_
    refine k_putI dX7_init_80 fp_X7_38 fl_X7_38 (by decide) fe_eq (Nat.le_of_ble_eq_true rfl) rfl rfl ?_
    refine k_al dX7_init_83 rfl (place := 1) rfl ?_
    refine k_ic dX7_init_84 (v := 0) (by decide) ?_
    refine k_putI dX7_init_85 fp_X7_42 fl_X7_42 (by decide) fe_eq (Nat.le_of_ble_eq_true rfl) rfl rfl ?_
    refine k_ret dX7_init_88 (by decide) (by decide) ?_ rfl
    intro j hj
    unfold fe TN
    by_cases h1 : j = 0
    · rw [if_pos h1, h1, xe_top]
      rfl
    · rw [if_neg h1, if_neg h1, if_neg h1]
      by_cases h2 : j = 389
      · rw [h2, if_pos (by decide), xe_bo kd_389 (by decide +kernel : xln 389 = 2)]
      · rw [if_neg (by show ¬ j = 197 + 96 * 2; omega)]
        by_cases h3 : j = 196
        · rw [if_pos h3, h3, xE_wo ⟨by decide, kd_196⟩]
          have : (fun j => some (G.1 (xrf 196 j))) = fun j => some (G.1 (197 + 96 * j)) := by
            funext j
            simp [xrf, kd_196]
          rw [this]
          rfl
        · rw [if_neg h3, if_neg h1, if_neg h3]
  | succ d ih =>
    intro c hc
    have ck := isB_im (c := c) (by omega)
    refine k_il dX7_init_47 rfl (place := 0) rfl ?_
    refine k_ic dX7_init_48 (v := nI 2) (by decide) ?_
    refine k_ge (tgt := 71) dX7_init_49 (by decide) (fun q => absurd q (by rw [nI_leI (by omega) (by omega)]; omega)) (fun _ => ?_)
    refine k_al dX7_init_52 rfl (place := 1) rfl ?_
    refine k_get dX7_init_53 fg_X7_28 (by omega) TN_eq (v := .ref (G.1 196)) rfl ?_
    refine k_il dX7_init_56 rfl (place := 0) rfl ?_
    refine k_new dX7_init_57 nw_X7_21 (by omega) (by show 6275 + 3031 * c + 5 ≤ 12339; omega) ?_
    refine k_dup dX7_init_60 rfl ?_
    refine k_call (k := 197 + 96 * c) dX7_init_61 mc_X6 lkC_X7_23 (s_world (b := 197 + 96 * c) ck fe_eq) (by omega) (by decide) rfl rfl (Nat.le_of_ble_eq_true rfl) (by omega) (by show 6275 + 3031 * c + 5 + 3026 ≤ 12339; omega) ?_
    refine k_cgr (blk_id (E0 := TN G [.ref (G.1 2), .ref (G.1 1), .ref (G.1 100), .ref (G.1 196), .null, .int 0, .int 0] c) (fun j h1 h2 => TN_hi (by omega))) ?_
    refine k_ast (a := 196) (k := 197 + 96 * c) (t0 := 3) (ci := 5) (r := (RX6, TX6, 5)) dX7_init_64 (by omega) TN_1 rfl (by omega) ((TN_hi (by omega)).trans (xe_wd (wkc_all ck).1)) rfl (vp_in_nI (by omega) (by omega)) ?_
    refine k_cgr (TN_up (by omega)) ?_
    refine k_inc (v := nI (c + 1)) dX7_init_65 (place := 0) rfl (by rw [show Int32.ofInt 1 = nI 1 from rfl, nI_add]) (by decide) rfl ?_
    refine k_go (tgt := 47) dX7_init_68 (by decide) ?_
    have z := ih (c + 1) (by omega)
    rw [show 196 + 96 * (c + 1) = 196 + 96 * c + 1 + 95 by omega, show 6275 + 3031 * (c + 1) = 6275 + 3031 * c + bl_X6.length + 3026 by (show 6275 + 3031 * (c + 1) = 6275 + 3031 * c + 5 + 3026); omega, show 197 + 96 * (c + 1) = 197 + 96 * c + 96 by omega] at z
    exact z
set_option maxHeartbeats 4000000 in
theorem s_top {G : xG} {E : Nat → va_E} (e : E 0 = .inr (6, bl_X7)) : Sk G 5 389 12339 yX7_init FX7_init [.ref (G.1 0)] 1 E 390 (fun j => xE G h0 j) := by
  refine Sk.of pn_X7 rfl rfl rfl (Nat.le_of_ble_eq_true rfl) rfl (fun hz => ?_)
  refine k_al dX7_init_0 rfl (place := 0) rfl ?_
  refine k_obj dX7_init_1 ob_X7 (by decide) (Nat.zero_le _) ?_
  refine k_cgr (E' := TN G bl_X7 0) (fun k hk => by rw [show k = 0 by omega, TN_eq, e]) ?_
  refine k_al dX7_init_4 rfl (place := 0) rfl ?_
  refine k_new dX7_init_5 nw_X7_9 (by decide) (by decide) ?_
  refine k_dup dX7_init_8 rfl ?_
  refine k_call (k := 1) dX7_init_9 mc_X2 lkC_X7_11 (s_reader fe_eq) (by omega) (by decide) rfl rfl (Nat.le_of_ble_eq_true rfl) (by decide) (by decide) ?_
  refine k_cgr (blk_id (E0 := TN G bl_X7 0) (fun j h1 h2 => TN_hi (by omega))) ?_
  refine k_putF dX7_init_12 fq_X7_12 (by decide) TN_eq (Nat.le_of_ble_eq_true rfl) rfl rfl ?_
  refine k_cgr (TN_put (fs' := [.null, .ref (G.1 1), .null, .null, .null, .int 0, .int 0]) rfl) ?_
  refine k_al dX7_init_15 rfl (place := 0) rfl ?_
  refine k_al dX7_init_16 rfl (place := 0) rfl ?_
  refine k_get dX7_init_17 fg_X7_12 (by decide) TN_eq (v := .ref (G.1 1)) rfl ?_
  refine k_get (k := 1) dX7_init_20 fg_X7_16 (by decide) ((TN_hi (by decide)).trans xe_rd) (v := .ref (G.1 2)) rfl ?_
  refine k_putF dX7_init_23 fq_X7_20 (by decide) TN_eq (Nat.le_of_ble_eq_true rfl) rfl rfl ?_
  refine k_cgr (TN_put (fs' := [.ref (G.1 2), .ref (G.1 1), .null, .null, .null, .int 0, .int 0]) rfl) ?_
  refine k_al dX7_init_26 rfl (place := 0) rfl ?_
  refine k_new dX7_init_27 nw_X7_21 (by decide) (by decide) ?_
  refine k_dup dX7_init_30 rfl ?_
  refine k_call (k := 100) dX7_init_31 mc_X6 lkC_X7_23 (s_world (b := 100) (Or.inr (Or.inl rfl)) fe_eq) (by omega) (by decide) rfl rfl (Nat.le_of_ble_eq_true rfl) (by decide) (by decide) ?_
  refine k_cgr (blk_id (E0 := TN G [.ref (G.1 2), .ref (G.1 1), .null, .null, .null, .int 0, .int 0] 0) (fun j h1 h2 => TN_hi (by omega))) ?_
  refine k_putF dX7_init_34 fq_X7_24 (by decide) TN_eq (Nat.le_of_ble_eq_true rfl) rfl rfl ?_
  refine k_cgr (TN_put (fs' := [.ref (G.1 2), .ref (G.1 1), .ref (G.1 100), .null, .null, .int 0, .int 0]) rfl) ?_
  refine k_al dX7_init_37 rfl (place := 0) rfl ?_
  refine k_ic dX7_init_38 (v := nI 2) (by decide) ?_
  refine k_anew (N := 2) (t0 := 3) dX7_init_39 cl_X7_21 (fun U h => h.2) rfl (by decide) (by decide) (by decide) (by decide) (by decide) ?_
  refine k_cgr (one_id (E0 := TN G [.ref (G.1 2), .ref (G.1 1), .ref (G.1 100), .null, .null, .int 0, .int 0] 0) (by
    show TN G _ 0 196 = _
    rw [TN_1]
    have w : tf G 0 = fun _ => none := by
      funext j
      unfold tf
      rw [if_neg (by omega)]
    rw [w])) ?_
  refine k_putF dX7_init_42 fq_X7_28 (by decide) TN_eq (Nat.le_of_ble_eq_true rfl) rfl rfl ?_
  refine k_cgr (TN_put (fs' := [.ref (G.1 2), .ref (G.1 1), .ref (G.1 100), .ref (G.1 196), .null, .int 0, .int 0]) rfl) ?_
  refine k_ic dX7_init_45 (v := nI 0) (by decide) ?_
  refine k_ist dX7_init_46 rfl (by decide) rfl ?_
  exact t_loop 2 0 rfl
