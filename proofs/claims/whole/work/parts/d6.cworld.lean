/-! constructors: a world -/
theorem k_arr {G : xG} {d mc ms n1 ce sl pc n : Nat} {F : xF} {E E1 : Nat → va_E} {ls : List (Nat × Value)} {st : List Value} {a N : Nat} {cA : ClassId} {f f' : Nat → Option Nat} (ha : E a = .inl (cA, N, .inr (.inr (.inr (.inr f))))) (hf : ∀ j, j < N → f j = f' j) (K : Rk G d mc ms F n1 E1 ce sl pc ls st n (fe E a (.inl (cA, N, .inr (.inr (.inr (.inr f'))))))) : Rk G d mc ms F n1 E1 ce sl pc ls st n E := by
  intro p l e s m args below meth c H locs lsA C hP hS hv
  refine K p l e s m args below meth c H locs lsA C ⟨hP.1, fun k hk => ?_⟩ hS hv
  have q := hP.2 k hk
  by_cases h : k = a
  · subst h
    rw [fe_eq]
    rw [ha] at q
    have q' : H[G.1 0 + k]? = some (vp_cell cA (N, .inr (.inr (.inr (.inr f))))) := q
    show H[G.1 0 + k]? = some (vp_cell cA (N, .inr (.inr (.inr (.inr f')))))
    rw [q', vp_cell_q, vp_cell_q]
    unfold arrV
    congr 2
    have : (fun j : Fin N => va_rf (f j.val)) = fun j : Fin N => va_rf (f' j.val) := by
      funext j
      rw [hf j.val j.isLt]
    first | (simp only [this]) | (congr 1)
  · rw [fe_ne h]
    exact q
def wkc (b : Nat) : Bool := xkd b == 5 && xkd (b + 1) == 10 && xkd (b + 2) == 2 && xkd (b + 3) == 8 && xkd (b + 4) == 2 && xkd (b + 5) == 8 && xln (b + 1) == 6 && xln (b + 3) == 48 && xln (b + 5) == 72
theorem wkc_all {b : Nat} (hb : isB b) : xkd b = 5 ∧ xkd (b + 1) = 10 ∧ xkd (b + 2) = 2 ∧ xkd (b + 3) = 8 ∧ xkd (b + 4) = 2 ∧ xkd (b + 5) = 8 ∧ xln (b + 1) = 6 ∧ xln (b + 3) = 48 ∧ xln (b + 5) = 72 ∧ b + 96 ≤ 390 := by
  have key : wkc 4 = true ∧ wkc 100 = true ∧ wkc 197 = true ∧ wkc 293 = true := by decide +kernel
  have q : wkc b = true := by
    rcases hb with rfl | rfl | rfl | rfl
    · exact key.1
    · exact key.2.1
    · exact key.2.2.1
    · exact key.2.2.2
  have l : b + 96 ≤ 390 := by rcases hb with rfl | rfl | rfl | rfl <;> decide
  unfold wkc at q
  simp only [Bool.and_eq_true, beq_iff_eq] at q
  simp only [q, l, and_self, true_and]
def wf (G : xG) (b c : Nat) : Nat → Option Nat := fun j => if j < c then some (G.1 (b + 6 + 15 * j)) else none
def WN (G : xG) (b : Nat) (fs : List Value) (c : Nat) (E : Nat → va_E) : Nat → va_E := fun j => if j = b then .inr (5, fs) else if j = b + 1 then .inl (G.2.2.1 2, 6, .inr (.inr (.inr (.inr (wf G b c))))) else if b < j then xE G h0 j else E j
theorem WN_eq {G : xG} {b c : Nat} {fs : List Value} {E : Nat → va_E} : WN G b fs c E b = .inr (5, fs) := if_pos rfl
theorem WN_1 {G : xG} {b c : Nat} {fs : List Value} {E : Nat → va_E} : WN G b fs c E (b + 1) = .inl (G.2.2.1 2, 6, .inr (.inr (.inr (.inr (wf G b c))))) := by
  unfold WN
  rw [if_neg (by omega), if_pos rfl]
theorem WN_hi {G : xG} {b c j : Nat} {fs : List Value} {E : Nat → va_E} (h : b + 1 < j) : WN G b fs c E j = xE G h0 j := by
  unfold WN
  rw [if_neg (by omega), if_neg (by omega), if_pos (by omega)]
theorem WN_put {G : xG} {b c n : Nat} {fs fs' fs'' : List Value} {E : Nat → va_E} (e : fs' = fs) : ∀ k, k < n → WN G b fs' c E k = fe (WN G b fs'' c E) b (.inr (5, fs)) k := by
  intro k _
  subst e
  unfold fe WN
  by_cases h : k = b <;> simp [h]
theorem WN_up {G : xG} {b c n : Nat} (hc : c < 6) {fs : List Value} {E : Nat → va_E} : ∀ k, k < n → WN G b fs (c + 1) E k = fe (WN G b fs c E) (b + 1) (.inl (G.2.2.1 2, 6, .inr (.inr (.inr (.inr (va_up (wf G b c) (nI c).toNatClampNeg (some (G.1 (b + 6 + 15 * c))))))))) k := by
  intro k _
  have e : va_up (wf G b c) (nI c).toNatClampNeg (some (G.1 (b + 6 + 15 * c))) = wf G b (c + 1) := by
    rw [nI_clamp (by omega)]
    funext j
    unfold va_up wf
    by_cases h : j = c
    · subst h
      simp
    · rw [if_neg h]
      by_cases h2 : j < c
      · rw [if_pos h2, if_pos (by omega)]
      · rw [if_neg h2, if_neg (by omega)]
  rw [e]
  unfold fe WN
  by_cases h1 : k = b
  · subst h1
    rw [if_pos rfl, if_neg (by omega), if_pos rfl]
  · rw [if_neg h1, if_neg h1]
    by_cases h2 : k = b + 1
    · rw [if_pos h2, if_pos h2]
    · rw [if_neg h2, if_neg h2, if_neg h2]
set_option maxHeartbeats 4000000 in
theorem w_loop {G : xG} {b : Nat} (hb : isB b) {fs : List Value} (hfs : fs = [.ref (G.1 (b + 1)), .ref (G.1 (b + 2)), .ref (G.1 (b + 4)), .int 0, .int 0]) {E : Nat → va_E} : ∀ (d c : Nat), c + d = 6 → Rk G 3 95 3026 FX6_init (b + 96) (fun j => if b ≤ j then xE G h0 j else E j) (5 + 15 * c) (134 + 482 * c) 43 [(1, .int (nI c)), (0, .ref (G.1 b))] [] (b + 6 + 15 * c) (WN G b fs c E) := by
  obtain ⟨t0, t1, t2, t3, t4, t5, l1, l3, l5, hl⟩ := wkc_all hb
  intro d
  induction d with
  | zero =>
    intro c hc
    have hc6 : c = 6 := by omega
    subst hc6
    refine k_il dX6_init_43 rfl (place := 0) rfl ?_
    refine k_bi dX6_init_44 (v := nI 6) (by decide) ?_
    refine k_ge (tgt := 68) dX6_init_46 (by decide) (fun _ => ?_) (fun q => absurd (by decide) q)
    refine k_arr (f' := fun j => some (G.1 (b + 6 + 15 * j))) WN_1 (fun j hj => if_pos hj) ?_
    refine k_ret dX6_init_68 (by decide) (by decide) ?_ rfl
    intro j hj
    unfold fe WN
    by_cases h1 : j = b + 1
    · rw [if_pos h1, h1, if_pos (by omega), xE_cl ⟨by show b + 1 < 405; omega, t1⟩, l1]
      have : (fun j => some (G.1 (xrf (b + 1) j))) = fun j => some (G.1 (b + 6 + 15 * j)) := by
        funext j
        simp [xrf, t1]
      rw [this]
    · rw [if_neg h1]
      by_cases h2 : j = b
      · rw [if_pos h2, if_pos (by omega), h2, xe_wd t0, hfs]
      · rw [if_neg h2, if_neg h1]
        by_cases h3 : b < j
        · rw [if_pos h3, if_pos (by omega)]
        · rw [if_neg h3, if_neg (by omega)]
  | succ d ih =>
    intro c hc
    have ck := ckc_of hb (c := c) (by omega)
    refine k_il dX6_init_43 rfl (place := 0) rfl ?_
    refine k_bi dX6_init_44 (v := nI 6) (by decide) ?_
    refine k_ge (tgt := 68) dX6_init_46 (by decide) (fun q => absurd q (by rw [nI_leI (by omega) (by omega)]; omega)) (fun _ => ?_)
    refine k_al dX6_init_49 rfl (place := 1) rfl ?_
    refine k_get dX6_init_50 fg_X6_11 (by omega) WN_eq (v := .ref (G.1 (b + 1))) (by rw [hfs]; rfl) ?_
    refine k_il dX6_init_53 rfl (place := 0) rfl ?_
    refine k_new dX6_init_54 nw_X6_9 (by omega) (by show 134 + 482 * c + 17 ≤ 3026; omega) ?_
    refine k_dup dX6_init_57 rfl ?_
    refine k_call (k := b + 6 + 15 * c) dX6_init_58 mc_X0 lkC_X6_29 (s_client (K := b + 6 + 15 * c) fe_eq ck) (by omega) (by decide) rfl rfl (Nat.le_of_ble_eq_true rfl) (by omega) (by show 134 + 482 * c + 17 + 465 ≤ 3026; omega) ?_
    refine k_cgr (blk_id (E0 := WN G b fs c E) (fun j h1 h2 => WN_hi (by omega))) ?_
    refine k_ast (a := b + 1) (k := b + 6 + 15 * c) (t0 := 2) (ci := 0) (r := (RX0, TX0, 17)) dX6_init_61 (by omega) WN_1 rfl (by omega) ((WN_hi (by omega)).trans (xe_cl (k := b + 6 + 15 * c) (ck_0 ck))) rfl (vp_in_nI (by omega) (by omega)) ?_
    refine k_cgr (WN_up (by omega)) ?_
    refine k_inc (v := nI (c + 1)) dX6_init_62 (place := 0) rfl (by rw [show Int32.ofInt 1 = nI 1 from rfl, nI_add]) (by decide) rfl ?_
    refine k_go (tgt := 43) dX6_init_65 (by decide) ?_
    have z := ih (c + 1) (by omega)
    rw [show 5 + 15 * (c + 1) = 5 + 15 * c + 1 + 14 by omega, show 134 + 482 * (c + 1) = 134 + 482 * c + bl_X0.length + 465 by (show 134 + 482 * (c + 1) = 134 + 482 * c + 17 + 465); omega, show b + 6 + 15 * (c + 1) = b + 6 + 15 * c + 15 by omega] at z
    exact z
theorem WN_ini {G : xG} {b : Nat} {E : Nat → va_E} {fs fs' : List Value} (e : fs = fs') : ∀ k, k < b + 2 → WN G b fs' 0 E k = fe (fe E (b + 1) (.inl (G.2.2.1 2, 6, .inr (.inr (.inr (.inr (fun _ => none))))))) b (.inr (5, fs)) k := by
  intro k hk
  subst e
  have w : wf G b 0 = fun _ => none := by
    funext j
    unfold wf
    rw [if_neg (by omega)]
  unfold fe WN
  rw [w]
  by_cases h1 : k = b
  · rw [if_pos h1, if_pos h1]
  · rw [if_neg h1, if_neg h1]
    by_cases h2 : k = b + 1
    · rw [if_pos h2, if_pos h2]
    · rw [if_neg h2, if_neg h2, if_neg (by omega)]
set_option maxHeartbeats 4000000 in
theorem s_world {G : xG} {b : Nat} {E : Nat → va_E} (hb : isB b) (e : E b = .inr (5, bl_X6)) : Sk G 3 95 3026 yX6_init FX6_init [.ref (G.1 b)] (b + 1) E (b + 96) (fun j => if b ≤ j then xE G h0 j else E j) := by
  obtain ⟨t0, t1, t2, t3, t4, t5, l1, l3, l5, hl⟩ := wkc_all hb
  refine Sk.of pn_X6 rfl rfl rfl (Nat.le_of_ble_eq_true rfl) rfl (fun hz => ?_)
  refine k_al dX6_init_0 rfl (place := 0) rfl ?_
  refine k_obj dX6_init_1 ob_X6 (by decide) (Nat.zero_le _) ?_
  refine k_al dX6_init_4 rfl (place := 0) rfl ?_
  refine k_bi dX6_init_5 (v := nI 6) (by decide) ?_
  refine k_anew (N := 6) (t0 := 2) dX6_init_7 cl_X6_9 (fun U h => h.1) rfl (by decide) (by decide) (by decide) (by decide) (by decide) ?_
  refine k_putF dX6_init_10 fq_X6_11 (by omega) ((fe_ne (by omega)).trans e) (Nat.le_of_ble_eq_true rfl) rfl rfl ?_
  refine k_cgr (WN_ini (fs' := [.ref (G.1 (b + 1)), .null, .null, .int 0, .int 0]) rfl) ?_
  refine k_al dX6_init_13 rfl (place := 0) rfl ?_
  refine k_new dX6_init_14 nw_X6_17 (by decide) (by decide) ?_
  refine k_dup dX6_init_17 rfl ?_
  refine k_bi dX6_init_18 (v := nI 12) (by decide) ?_
  refine k_ic dX6_init_20 (v := nI 4) (by decide) ?_
  refine k_call (k := b + 2) dX6_init_21 mc_X3 lkC_X6_19 (s_rows (k := b + 2) (a := 12) (b := 4) fe_eq t2 t3 (by rw [l3]; rfl) (by rw [l3]) (by decide) (by decide) (by decide) (by decide)) (by omega) (by decide) rfl rfl (Nat.le_of_ble_eq_true rfl) (by decide) (by decide) ?_
  refine k_cgr (row_id (E0 := WN G b [.ref (G.1 (b + 1)), .null, .null, .int 0, .int 0] 0 E) (WN_hi (by omega)) (WN_hi (by omega))) ?_
  refine k_putF dX6_init_24 fq_X6_22 (by omega) WN_eq (Nat.le_of_ble_eq_true rfl) rfl rfl ?_
  refine k_cgr (WN_put (fs' := [.ref (G.1 (b + 1)), .ref (G.1 (b + 2)), .null, .int 0, .int 0]) rfl) ?_
  refine k_al dX6_init_27 rfl (place := 0) rfl ?_
  refine k_new dX6_init_28 nw_X6_17 (by decide) (by decide) ?_
  refine k_dup dX6_init_31 rfl ?_
  refine k_bi dX6_init_32 (v := nI 36) (by decide) ?_
  refine k_ic dX6_init_34 (v := nI 2) (by decide) ?_
  refine k_call (k := b + 4) dX6_init_35 mc_X3 lkC_X6_19 (s_rows (k := b + 4) (a := 36) (b := 2) fe_eq t4 t5 (by rw [l5]; rfl) (by rw [l5]) (by decide) (by decide) (by decide) (by decide)) (by omega) (by decide) rfl rfl (Nat.le_of_ble_eq_true rfl) (by decide) (by decide) ?_
  refine k_cgr (row_id (E0 := WN G b [.ref (G.1 (b + 1)), .ref (G.1 (b + 2)), .null, .int 0, .int 0] 0 E) (WN_hi (by omega)) (WN_hi (by omega))) ?_
  refine k_putF dX6_init_38 fq_X6_26 (by omega) WN_eq (Nat.le_of_ble_eq_true rfl) rfl rfl ?_
  refine k_cgr (WN_put (fs' := [.ref (G.1 (b + 1)), .ref (G.1 (b + 2)), .ref (G.1 (b + 4)), .int 0, .int 0]) rfl) ?_
  refine k_ic dX6_init_41 (v := nI 0) (by decide) ?_
  refine k_ist dX6_init_42 rfl (by decide) rfl ?_
  exact w_loop hb rfl 6 0 rfl
