def f_X3_clear (a0 : Nat) (h : Mem) : Option (Unit × Mem) :=
  mlet (mu h a0 3 (0 : Int32)) fun h1 =>
  some ((), h1)
set_option maxRecDepth 20000 in
theorem c_X3_clear {G : xG} (a0 : Nat) (ta0 : xTy a0 2) (h : Mem) : Sm G 0 yX3_clear FX3_clear xcV [.ref (G.1 a0)] h (f_X3_clear a0 h) := by
  refine Sm.of pn_X3 rfl (Nat.le_of_ble_eq_true rfl) (ls := [(0, .ref (G.1 a0))]) rfl ?_
  unfold f_X3_clear
  refine r_aload_n (place := 0) dX3_clear_0 rfl rfl ?_
  refine r_iconst dX3_clear_1 xc_0 ?_
  refine r_putI dX3_clear_2 fp_X3_26 ta0 ?_
  refine r_mem (fun h1 => ?_)
  exact r_ret dX3_clear_5 rfl
def f_X0_clearLines (a0 : Nat) (h : Mem) : Option (Unit × Mem) :=
  b2 (f_X3_clear (xrf a0 3) h) fun _ h1 =>
  b2 (f_X3_clear (xrf a0 4) h1) fun _ h2 =>
  some ((), h2)
set_option maxRecDepth 20000 in
theorem c_X0_clearLines {G : xG} (a0 : Nat) (ta0 : xTy a0 0) (h : Mem) : Sm G 1 yX0_clearLines FX0_clearLines xcV [.ref (G.1 a0)] h (f_X0_clearLines a0 h) := by
  refine Sm.of pn_X0 rfl (Nat.le_of_ble_eq_true rfl) (ls := [(0, .ref (G.1 a0))]) rfl ?_
  unfold f_X0_clearLines
  refine r_aload_n (place := 0) dX0_clearLines_0 rfl rfl ?_
  refine r_getR dX0_clearLines_1 fg_X0_27 ta0 ?_
  refine r_callVV (rest := []) dX0_clearLines_4 m_X3_clear lk_X0_52 rfl (by decide) (xt_0_3 ta0) (c_X3_clear (xrf a0 3) (xt_0_3 ta0) h) (by decide) rfl rfl (Nat.le_of_ble_eq_true rfl) (fun h1 => ?_)
  refine r_aload_n (place := 0) dX0_clearLines_7 rfl rfl ?_
  refine r_getR dX0_clearLines_8 fg_X0_30 ta0 ?_
  refine r_callVV (rest := []) dX0_clearLines_11 m_X3_clear lk_X0_52 rfl (by decide) (xt_0_4 ta0) (c_X3_clear (xrf a0 4) (xt_0_4 ta0) h1) (by decide) rfl rfl (Nat.le_of_ble_eq_true rfl) (fun h2 => ?_)
  exact r_ret dX0_clearLines_14 rfl
def f_X0_clearSession_34  : Nat → Nat → Int32 → Mem → Option (Unit × Mem)
  | 0, _, _, _ => none
  | n + 1, a0, a1, h =>
    if (4 : Int32) ≤ a1 then
        b2 (f_X3_clear (xrf a0 2) h) fun _ h1 =>
        b2 (f_X0_clearLines a0 h1) fun _ h2 =>
        b2 (f_X3_clear (xrf a0 5) h2) fun _ h3 =>
        some ((), h3)
    else
        ast h (xrf a0 1) a1 (0 : Int32) fun h4 =>
        (f_X0_clearSession_34 n) a0 (a1 + (1 : Int32)) h4
set_option maxRecDepth 20000 in
theorem t_X0_clearSession_34 {G : xG}  : ∀ (n : Nat) (a0 : Nat) (a1 : Int32) (ta0 : xTy a0 0) (h : Mem), Rn G 2 FX0_clearSession xcV 34 [(0, .ref (G.1 a0)), (1, .int a1)] [] h (f_X0_clearSession_34 n a0 a1 h) := by
  intro n
  induction n with
  | zero => intros; intro r hr; cases hr
  | succ n ih =>
    intro a0 a1 ta0 h
    unfold f_X0_clearSession_34
    refine r_iload_n (place := 1) dX0_clearSession_34 rfl rfl ?_
    refine r_iconst dX0_clearSession_35 xc_4 ?_
    refine r_ic_ge (tgt := 52) dX0_clearSession_36 (by decide) ?_ ?_
    · refine r_aload_n (place := 0) dX0_clearSession_52 rfl rfl ?_
      refine r_getR dX0_clearSession_53 fg_X0_24 ta0 ?_
      refine r_callVV (rest := []) dX0_clearSession_56 m_X3_clear lk_X0_52 rfl (by decide) (xt_0_2 ta0) (c_X3_clear (xrf a0 2) (xt_0_2 ta0) h) (by decide) rfl rfl (Nat.le_of_ble_eq_true rfl) (fun h1 => ?_)
      refine r_aload_n (place := 0) dX0_clearSession_59 rfl rfl ?_
      refine r_callVV (rest := []) dX0_clearSession_60 m_X0_clearLines lk_X0_85 rfl (by decide) ta0 (c_X0_clearLines a0 ta0 h1) (by decide) rfl rfl (Nat.le_of_ble_eq_true rfl) (fun h2 => ?_)
      refine r_aload_n (place := 0) dX0_clearSession_63 rfl rfl ?_
      refine r_getR dX0_clearSession_64 fg_X0_33 ta0 ?_
      refine r_callVV (rest := []) dX0_clearSession_67 m_X3_clear lk_X0_52 rfl (by decide) (xt_0_5 ta0) (c_X3_clear (xrf a0 5) (xt_0_5 ta0) h2) (by decide) rfl rfl (Nat.le_of_ble_eq_true rfl) (fun h3 => ?_)
      exact r_ret dX0_clearSession_70 rfl
    · refine r_aload_n (place := 0) dX0_clearSession_39 rfl rfl ?_
      refine r_getR dX0_clearSession_40 fg_X0_20 ta0 ?_
      refine r_iload_n (place := 1) dX0_clearSession_43 rfl rfl ?_
      refine r_iconst dX0_clearSession_44 xc_0 ?_
      refine r_iast dX0_clearSession_45 (xt_0_1 ta0) (fun h4 => ?_)
      refine r_iincC (place := 1) (ls' := [(1, .int (a1 + (1 : Int32))), (0, .ref (G.1 a0))]) dX0_clearSession_46 rfl xc_1 (by decide) rfl ?_
      refine r_goto (tgt := 34) dX0_clearSession_49 (by decide) ?_
      exact r_sub [1, 0] rfl (ih a0 (a1 + (1 : Int32)) ta0 h4)
def f_X0_clearSession (a0 : Nat) (h : Mem) : Option (Unit × Mem) :=
  mlet (mu h a0 8 (0 : Int32)) fun h1 =>
  mlet (mu h1 a0 9 (0 : Int32)) fun h2 =>
  mlet (mu h2 a0 10 (0 : Int32)) fun h3 =>
  mlet (mu h3 a0 11 (0 : Int32)) fun h4 =>
  mlet (mu h4 a0 12 (0 : Int32)) fun h5 =>
  b2 (f_X3_clear (xrf a0 0) h5) fun _ h6 =>
  f_X0_clearSession_34 xFU a0 (0 : Int32) h6
set_option maxRecDepth 20000 in
theorem c_X0_clearSession {G : xG} (a0 : Nat) (ta0 : xTy a0 0) (h : Mem) : Sm G 2 yX0_clearSession FX0_clearSession xcV [.ref (G.1 a0)] h (f_X0_clearSession a0 h) := by
  refine Sm.of pn_X0 rfl (Nat.le_of_ble_eq_true rfl) (ls := [(0, .ref (G.1 a0))]) rfl ?_
  unfold f_X0_clearSession
  refine r_aload_n (place := 0) dX0_clearSession_0 rfl rfl ?_
  refine r_iconst dX0_clearSession_1 xc_0 ?_
  refine r_putI dX0_clearSession_2 fp_X0_68 ta0 ?_
  refine r_mem (fun h1 => ?_)
  refine r_aload_n (place := 0) dX0_clearSession_5 rfl rfl ?_
  refine r_iconst dX0_clearSession_6 xc_0 ?_
  refine r_putI dX0_clearSession_7 fp_X0_71 ta0 ?_
  refine r_mem (fun h2 => ?_)
  refine r_aload_n (place := 0) dX0_clearSession_10 rfl rfl ?_
  refine r_iconst dX0_clearSession_11 xc_0 ?_
  refine r_putI dX0_clearSession_12 fp_X0_74 ta0 ?_
  refine r_mem (fun h3 => ?_)
  refine r_aload_n (place := 0) dX0_clearSession_15 rfl rfl ?_
  refine r_iconst dX0_clearSession_16 xc_0 ?_
  refine r_putI dX0_clearSession_17 fp_X0_77 ta0 ?_
  refine r_mem (fun h4 => ?_)
  refine r_aload_n (place := 0) dX0_clearSession_20 rfl rfl ?_
  refine r_iconst dX0_clearSession_21 xc_0 ?_
  refine r_putI dX0_clearSession_22 fp_X0_80 ta0 ?_
  refine r_mem (fun h5 => ?_)
  refine r_aload_n (place := 0) dX0_clearSession_25 rfl rfl ?_
  refine r_getR dX0_clearSession_26 fg_X0_14 ta0 ?_
  refine r_callVV (rest := []) dX0_clearSession_29 m_X3_clear lk_X0_52 rfl (by decide) (xt_0_0 ta0) (c_X3_clear (xrf a0 0) (xt_0_0 ta0) h5) (by decide) rfl rfl (Nat.le_of_ble_eq_true rfl) (fun h6 => ?_)
  refine r_iconst dX0_clearSession_32 xc_0 ?_
  refine r_istore_n (ls' := [(1, .int (0 : Int32)), (0, .ref (G.1 a0))]) dX0_clearSession_33 rfl (by decide) rfl ?_
  exact r_sub [1, 0] rfl (t_X0_clearSession_34 xFU a0 (0 : Int32) ta0 h6)
def f_X5_drop (a0 : Nat) (h : Mem) : Option (Unit × Mem) :=
  mlet (mu h a0 0 (0 : Int32)) fun h1 =>
  some ((), h1)
set_option maxRecDepth 20000 in
theorem c_X5_drop {G : xG} (a0 : Nat) (ta0 : xTy a0 4) (h : Mem) : Sm G 0 yX5_drop FX5_drop xcV [.ref (G.1 a0)] h (f_X5_drop a0 h) := by
  refine Sm.of pn_X5 rfl (Nat.le_of_ble_eq_true rfl) (ls := [(0, .ref (G.1 a0))]) rfl ?_
  unfold f_X5_drop
  refine r_aload_n (place := 0) dX5_drop_0 rfl rfl ?_
  refine r_iconst dX5_drop_1 xc_0 ?_
  refine r_putI dX5_drop_2 fp_X5_11 ta0 ?_
  refine r_mem (fun h1 => ?_)
  exact r_ret dX5_drop_5 rfl
def f_X0_clear (a0 : Nat) (h : Mem) : Option (Unit × Mem) :=
  b2 (f_X0_clearSession a0 h) fun _ h1 =>
  b2 (f_X5_drop (xrf a0 7) h1) fun _ h2 =>
  b2 (f_X3_clear (xrf a0 6) h2) fun _ h3 =>
  mlet (mu h3 a0 13 (0 : Int32)) fun h4 =>
  mlet (mu h4 a0 14 (0 : Int32)) fun h5 =>
  mlet (mu h5 a0 15 (0 : Int32)) fun h6 =>
  mlet (mu h6 a0 16 (0 : Int32)) fun h7 =>
  some ((), h7)
set_option maxRecDepth 20000 in
theorem c_X0_clear {G : xG} (a0 : Nat) (ta0 : xTy a0 0) (h : Mem) : Sm G 3 yX0_clear FX0_clear xcV [.ref (G.1 a0)] h (f_X0_clear a0 h) := by
  refine Sm.of pn_X0 rfl (Nat.le_of_ble_eq_true rfl) (ls := [(0, .ref (G.1 a0))]) rfl ?_
  unfold f_X0_clear
  refine r_aload_n (place := 0) dX0_clear_0 rfl rfl ?_
  refine r_callVV (rest := []) dX0_clear_1 m_X0_clearSession lk_X0_46 rfl (by decide) ta0 (c_X0_clearSession a0 ta0 h) (by decide) rfl rfl (Nat.le_of_ble_eq_true rfl) (fun h1 => ?_)
  refine r_aload_n (place := 0) dX0_clear_4 rfl rfl ?_
  refine r_getR dX0_clear_5 fg_X0_42 ta0 ?_
  refine r_callVV (rest := []) dX0_clear_8 m_X5_drop lk_X0_49 rfl (by decide) (xt_0_7 ta0) (c_X5_drop (xrf a0 7) (xt_0_7 ta0) h1) (by decide) rfl rfl (Nat.le_of_ble_eq_true rfl) (fun h2 => ?_)
  refine r_aload_n (place := 0) dX0_clear_11 rfl rfl ?_
  refine r_getR dX0_clear_12 fg_X0_36 ta0 ?_
  refine r_callVV (rest := []) dX0_clear_15 m_X3_clear lk_X0_52 rfl (by decide) (xt_0_6 ta0) (c_X3_clear (xrf a0 6) (xt_0_6 ta0) h2) (by decide) rfl rfl (Nat.le_of_ble_eq_true rfl) (fun h3 => ?_)
  refine r_aload_n (place := 0) dX0_clear_18 rfl rfl ?_
  refine r_iconst dX0_clear_19 xc_0 ?_
  refine r_putI dX0_clear_20 fp_X0_55 ta0 ?_
  refine r_mem (fun h4 => ?_)
  refine r_aload_n (place := 0) dX0_clear_23 rfl rfl ?_
  refine r_iconst dX0_clear_24 xc_0 ?_
  refine r_putI dX0_clear_25 fp_X0_59 ta0 ?_
  refine r_mem (fun h5 => ?_)
  refine r_aload_n (place := 0) dX0_clear_28 rfl rfl ?_
  refine r_iconst dX0_clear_29 xc_0 ?_
  refine r_putI dX0_clear_30 fp_X0_62 ta0 ?_
  refine r_mem (fun h6 => ?_)
  refine r_aload_n (place := 0) dX0_clear_33 rfl rfl ?_
  refine r_iconst dX0_clear_34 xc_0 ?_
  refine r_putI dX0_clear_35 fp_X0_65 ta0 ?_
  refine r_mem (fun h7 => ?_)
  exact r_ret dX0_clear_38 rfl
def f_X3_cell (a0 : Nat) (a1 : Int32) (a2 : Int32) (h : Mem) : Option (Int32 × Mem) :=
  if a1 < 0 then
      some ((0 : Int32), h)
  else
      if (h a0 3) ≤ a1 then
          some ((0 : Int32), h)
      else
          if a2 < 0 then
              some ((0 : Int32), h)
          else
              if a2 < (h a0 1) then
                  ald h (xrf a0 2) ((a1 * (h a0 1)) + a2) fun v1 =>
                  some (v1, h)
              else
                  some ((0 : Int32), h)
set_option maxRecDepth 20000 in
theorem c_X3_cell {G : xG} (a0 : Nat) (ta0 : xTy a0 2) (a1 : Int32) (a2 : Int32) (h : Mem) : Sm G 0 yX3_cell FX3_cell xcI [.ref (G.1 a0), .int a1, .int a2] h (f_X3_cell a0 a1 a2 h) := by
  refine Sm.of pn_X3 rfl (Nat.le_of_ble_eq_true rfl) (ls := [(0, .ref (G.1 a0)), (1, .int a1), (2, .int a2)]) rfl ?_
  unfold f_X3_cell
  refine r_iload_n (place := 1) dX3_cell_0 rfl rfl ?_
  refine r_if_lt (tgt := 24) dX3_cell_1 (by decide) ?_ ?_
  · refine r_iconst dX3_cell_24 xc_0 ?_
    exact r_iret dX3_cell_25 rfl
  · refine r_iload_n (place := 1) dX3_cell_4 rfl rfl ?_
    refine r_aload_n (place := 0) dX3_cell_5 rfl rfl ?_
    refine r_getI dX3_cell_6 fg_X3_26 ta0 ?_
    refine r_ic_ge (tgt := 24) dX3_cell_9 (by decide) ?_ ?_
    · refine r_iconst dX3_cell_24 xc_0 ?_
      exact r_iret dX3_cell_25 rfl
    · refine r_iload_n (place := 2) dX3_cell_12 rfl rfl ?_
      refine r_if_lt (tgt := 24) dX3_cell_13 (by decide) ?_ ?_
      · refine r_iconst dX3_cell_24 xc_0 ?_
        exact r_iret dX3_cell_25 rfl
      · refine r_iload_n (place := 2) dX3_cell_16 rfl rfl ?_
        refine r_aload_n (place := 0) dX3_cell_17 rfl rfl ?_
        refine r_getI dX3_cell_18 fg_X3_19 ta0 ?_
        refine r_ic_lt (tgt := 26) dX3_cell_21 (by decide) ?_ ?_
        · refine r_aload_n (place := 0) dX3_cell_26 rfl rfl ?_
          refine r_getR dX3_cell_27 fg_X3_22 ta0 ?_
          refine r_iload_n (place := 1) dX3_cell_30 rfl rfl ?_
          refine r_aload_n (place := 0) dX3_cell_31 rfl rfl ?_
          refine r_getI dX3_cell_32 fg_X3_19 ta0 ?_
          refine r_imul dX3_cell_35 ?_
          refine r_iload_n (place := 2) dX3_cell_36 rfl rfl ?_
          refine r_iadd dX3_cell_37 ?_
          refine r_iald dX3_cell_38 (xt_2_2 ta0) (fun v1 => ?_)
          exact r_iret dX3_cell_39 rfl
        · refine r_iconst dX3_cell_24 xc_0 ?_
          exact r_iret dX3_cell_25 rfl
def f_X3_open_30  : Nat → Nat → Int32 → Int32 → Mem → Option (Int32 × Mem)
  | 0, _, _, _, _ => none
  | n + 1, a0, a1, a2, h =>
    if (h a0 1) ≤ a2 then
        some (a1, h)
    else
        ast h (xrf a0 2) ((a1 * (h a0 1)) + a2) (0 : Int32) fun h1 =>
        (f_X3_open_30 n) a0 a1 (a2 + (1 : Int32)) h1
set_option maxRecDepth 20000 in
theorem t_X3_open_30 {G : xG}  : ∀ (n : Nat) (a0 : Nat) (a1 : Int32) (a2 : Int32) (ta0 : xTy a0 2) (h : Mem), Rn G 0 FX3_open xcI 30 [(0, .ref (G.1 a0)), (1, .int a1), (2, .int a2)] [] h (f_X3_open_30 n a0 a1 a2 h) := by
  intro n
  induction n with
  | zero => intros; intro r hr; cases hr
  | succ n ih =>
    intro a0 a1 a2 ta0 h
    unfold f_X3_open_30
    refine r_iload_n (place := 2) dX3_open_30 rfl rfl ?_
    refine r_aload_n (place := 0) dX3_open_31 rfl rfl ?_
    refine r_getI dX3_open_32 fg_X3_19 ta0 ?_
    refine r_ic_ge (tgt := 58) dX3_open_35 (by decide) ?_ ?_
    · refine r_iload_n (place := 1) dX3_open_58 rfl rfl ?_
      exact r_iret dX3_open_59 rfl
    · refine r_aload_n (place := 0) dX3_open_38 rfl rfl ?_
      refine r_getR dX3_open_39 fg_X3_22 ta0 ?_
      refine r_iload_n (place := 1) dX3_open_42 rfl rfl ?_
      refine r_aload_n (place := 0) dX3_open_43 rfl rfl ?_
      refine r_getI dX3_open_44 fg_X3_19 ta0 ?_
      refine r_imul dX3_open_47 ?_
      refine r_iload_n (place := 2) dX3_open_48 rfl rfl ?_
      refine r_iadd dX3_open_49 ?_
      refine r_iconst dX3_open_50 xc_0 ?_
      refine r_iast dX3_open_51 (xt_2_2 ta0) (fun h1 => ?_)
      refine r_iincC (place := 2) (ls' := [(2, .int (a2 + (1 : Int32))), (0, .ref (G.1 a0)), (1, .int a1)]) dX3_open_52 rfl xc_1 (by decide) rfl ?_
      refine r_goto (tgt := 30) dX3_open_55 (by decide) ?_
      exact r_sub [1, 2, 0] rfl (ih a0 a1 (a2 + (1 : Int32)) ta0 h1)
def f_X3_open (a0 : Nat) (h : Mem) : Option (Int32 × Mem) :=
  if (h a0 3) < (h a0 0) then
      mlet (mu h a0 3 ((h a0 3) + (1 : Int32))) fun h1 =>
      f_X3_open_30 xFU a0 (h a0 3) (0 : Int32) h1
  else
      some ((-1 : Int32), h)
set_option maxRecDepth 20000 in
theorem c_X3_open {G : xG} (a0 : Nat) (ta0 : xTy a0 2) (h : Mem) : Sm G 0 yX3_open FX3_open xcI [.ref (G.1 a0)] h (f_X3_open a0 h) := by
  refine Sm.of pn_X3 rfl (Nat.le_of_ble_eq_true rfl) (ls := [(0, .ref (G.1 a0))]) rfl ?_
  unfold f_X3_open
  refine r_aload_n (place := 0) dX3_open_0 rfl rfl ?_
  refine r_getI dX3_open_1 fg_X3_26 ta0 ?_
  refine r_aload_n (place := 0) dX3_open_4 rfl rfl ?_
  refine r_getI dX3_open_5 fg_X3_13 ta0 ?_
  refine r_ic_lt (tgt := 13) dX3_open_8 (by decide) ?_ ?_
  · refine r_aload_n (place := 0) dX3_open_13 rfl rfl ?_
    refine r_getI dX3_open_14 fg_X3_26 ta0 ?_
    refine r_istore_n (ls' := [(1, .int (h a0 3)), (0, .ref (G.1 a0))]) dX3_open_17 rfl (by decide) rfl ?_
    refine r_aload_n (place := 1) dX3_open_18 rfl rfl ?_
    refine r_dup dX3_open_19 rfl ?_
    refine r_getI dX3_open_20 fg_X3_26 ta0 ?_
    refine r_iconst dX3_open_23 xc_1 ?_
    refine r_iadd dX3_open_24 ?_
    refine r_putI dX3_open_25 fp_X3_26 ta0 ?_
    refine r_mem (fun h1 => ?_)
    refine r_iconst dX3_open_28 xc_0 ?_
    refine r_istore_n (ls' := [(2, .int (0 : Int32)), (1, .int (h a0 3)), (0, .ref (G.1 a0))]) dX3_open_29 rfl (by decide) rfl ?_
    exact r_sub [2, 1, 0] rfl (t_X3_open_30 xFU a0 (h a0 3) (0 : Int32) ta0 h1)
  · refine r_iconst dX3_open_11 xc_m1 ?_
    exact r_iret dX3_open_12 rfl
def f_X3_put (a0 : Nat) (a1 : Int32) (a2 : Int32) (a3 : Int32) (h : Mem) : Option (Unit × Mem) :=
  if a1 < 0 then
      some ((), h)
  else
      if (h a0 3) ≤ a1 then
          some ((), h)
      else
          if a2 < 0 then
              some ((), h)
          else
              if (h a0 1) ≤ a2 then
                  some ((), h)
              else
                  ast h (xrf a0 2) ((a1 * (h a0 1)) + a2) a3 fun h1 =>
                  some ((), h1)
set_option maxRecDepth 20000 in
theorem c_X3_put {G : xG} (a0 : Nat) (ta0 : xTy a0 2) (a1 : Int32) (a2 : Int32) (a3 : Int32) (h : Mem) : Sm G 0 yX3_put FX3_put xcV [.ref (G.1 a0), .int a1, .int a2, .int a3] h (f_X3_put a0 a1 a2 a3 h) := by
  refine Sm.of pn_X3 rfl (Nat.le_of_ble_eq_true rfl) (ls := [(0, .ref (G.1 a0)), (1, .int a1), (2, .int a2), (3, .int a3)]) rfl ?_
  unfold f_X3_put
  refine r_iload_n (place := 1) dX3_put_0 rfl rfl ?_
  refine r_if_lt (tgt := 38) dX3_put_1 (by decide) ?_ ?_
  · exact r_ret dX3_put_38 rfl
  · refine r_iload_n (place := 1) dX3_put_4 rfl rfl ?_
    refine r_aload_n (place := 0) dX3_put_5 rfl rfl ?_
    refine r_getI dX3_put_6 fg_X3_26 ta0 ?_
    refine r_ic_ge (tgt := 38) dX3_put_9 (by decide) ?_ ?_
    · exact r_ret dX3_put_38 rfl
    · refine r_iload_n (place := 2) dX3_put_12 rfl rfl ?_
      refine r_if_lt (tgt := 38) dX3_put_13 (by decide) ?_ ?_
      · exact r_ret dX3_put_38 rfl
      · refine r_iload_n (place := 2) dX3_put_16 rfl rfl ?_
        refine r_aload_n (place := 0) dX3_put_17 rfl rfl ?_
        refine r_getI dX3_put_18 fg_X3_19 ta0 ?_
        refine r_ic_ge (tgt := 38) dX3_put_21 (by decide) ?_ ?_
        · exact r_ret dX3_put_38 rfl
        · refine r_aload_n (place := 0) dX3_put_24 rfl rfl ?_
          refine r_getR dX3_put_25 fg_X3_22 ta0 ?_
          refine r_iload_n (place := 1) dX3_put_28 rfl rfl ?_
          refine r_aload_n (place := 0) dX3_put_29 rfl rfl ?_
          refine r_getI dX3_put_30 fg_X3_19 ta0 ?_
          refine r_imul dX3_put_33 ?_
          refine r_iload_n (place := 2) dX3_put_34 rfl rfl ?_
          refine r_iadd dX3_put_35 ?_
          refine r_iload_n (place := 3) dX3_put_36 rfl rfl ?_
          refine r_iast dX3_put_37 (xt_2_2 ta0) (fun h1 => ?_)
          exact r_ret dX3_put_38 rfl
def f_X0_sendBare (a0 : Nat) (a1 : Nat) (a2 : Int32) (a3 : Int32) (h : Mem) : Option (Unit × Mem) :=
  b2 (f_X3_open a1 h) fun v2 h1 =>
  b2 (f_X3_put a1 v2 (0 : Int32) a2 h1) fun _ h3 =>
  b2 (f_X3_put a1 v2 (1 : Int32) a3 h3) fun _ h4 =>
  b2 (f_X3_put a1 v2 (2 : Int32) (-4 : Int32) h4) fun _ h5 =>
  b2 (f_X3_put a1 v2 (3 : Int32) (-4 : Int32) h5) fun _ h6 =>
  b2 (f_X3_put a1 v2 (4 : Int32) (-4 : Int32) h6) fun _ h7 =>
  some ((), h7)
set_option maxRecDepth 20000 in
theorem c_X0_sendBare {G : xG} (a0 : Nat) (ta0 : xTy a0 0) (a1 : Nat) (ta1 : xTy a1 2) (a2 : Int32) (a3 : Int32) (h : Mem) : Sm G 1 yX0_sendBare FX0_sendBare xcV [.ref (G.1 a0), .ref (G.1 a1), .int a2, .int a3] h (f_X0_sendBare a0 a1 a2 a3 h) := by
  refine Sm.of pn_X0 rfl (Nat.le_of_ble_eq_true rfl) (ls := [(0, .ref (G.1 a0)), (1, .ref (G.1 a1)), (2, .int a2), (3, .int a3)]) rfl ?_
  unfold f_X0_sendBare
  refine r_aload_n (place := 1) dX0_sendBare_0 rfl rfl ?_
  refine r_callVI (rest := []) dX0_sendBare_1 m_X3_open lk_X0_105 rfl (by decide) ta1 (c_X3_open a1 ta1 h) (by decide) rfl rfl (Nat.le_of_ble_eq_true rfl) (fun v2 h1 => ?_)
  refine r_istore (ls' := [(4, .int v2), (0, .ref (G.1 a0)), (1, .ref (G.1 a1)), (2, .int a2), (3, .int a3)]) dX0_sendBare_4 (by decide) rfl ?_
  refine r_aload_n (place := 2) dX0_sendBare_6 rfl rfl ?_
  refine r_iload (place := 0) dX0_sendBare_7 rfl ?_
  refine r_iconst dX0_sendBare_9 xc_0 ?_
  refine r_iload_n (place := 3) dX0_sendBare_10 rfl rfl ?_
  refine r_callVV (rest := []) dX0_sendBare_11 m_X3_put lk_X0_108 rfl (by decide) ta1 (c_X3_put a1 ta1 v2 (0 : Int32) a2 h1) (by decide) rfl rfl (Nat.le_of_ble_eq_true rfl) (fun h3 => ?_)
  refine r_aload_n (place := 2) dX0_sendBare_14 rfl rfl ?_
  refine r_iload (place := 0) dX0_sendBare_15 rfl ?_
  refine r_iconst dX0_sendBare_17 xc_1 ?_
  refine r_iload_n (place := 4) dX0_sendBare_18 rfl rfl ?_
  refine r_callVV (rest := []) dX0_sendBare_19 m_X3_put lk_X0_108 rfl (by decide) ta1 (c_X3_put a1 ta1 v2 (1 : Int32) a3 h3) (by decide) rfl rfl (Nat.le_of_ble_eq_true rfl) (fun h4 => ?_)
  refine r_aload_n (place := 2) dX0_sendBare_22 rfl rfl ?_
  refine r_iload (place := 0) dX0_sendBare_23 rfl ?_
  refine r_iconst dX0_sendBare_25 xc_2 ?_
  refine r_bipush dX0_sendBare_26 xb_m4 ?_
  refine r_callVV (rest := []) dX0_sendBare_28 m_X3_put lk_X0_108 rfl (by decide) ta1 (c_X3_put a1 ta1 v2 (2 : Int32) (-4 : Int32) h4) (by decide) rfl rfl (Nat.le_of_ble_eq_true rfl) (fun h5 => ?_)
  refine r_aload_n (place := 2) dX0_sendBare_31 rfl rfl ?_
  refine r_iload (place := 0) dX0_sendBare_32 rfl ?_
  refine r_iconst dX0_sendBare_34 xc_3 ?_
  refine r_bipush dX0_sendBare_35 xb_m4 ?_
  refine r_callVV (rest := []) dX0_sendBare_37 m_X3_put lk_X0_108 rfl (by decide) ta1 (c_X3_put a1 ta1 v2 (3 : Int32) (-4 : Int32) h5) (by decide) rfl rfl (Nat.le_of_ble_eq_true rfl) (fun h6 => ?_)
  refine r_aload_n (place := 2) dX0_sendBare_40 rfl rfl ?_
  refine r_iload (place := 0) dX0_sendBare_41 rfl ?_
  refine r_iconst dX0_sendBare_43 xc_4 ?_
  refine r_bipush dX0_sendBare_44 xb_m4 ?_
  refine r_callVV (rest := []) dX0_sendBare_46 m_X3_put lk_X0_108 rfl (by decide) ta1 (c_X3_put a1 ta1 v2 (4 : Int32) (-4 : Int32) h6) (by decide) rfl rfl (Nat.le_of_ble_eq_true rfl) (fun h7 => ?_)
  exact r_ret dX0_sendBare_49 rfl
def f_X0_sendMail (a0 : Nat) (a1 : Int32) (h : Mem) : Option (Unit × Mem) :=
  b2 (f_X3_open (xrf a0 3) h) fun v2 h1 =>
  b2 (f_X3_put (xrf a0 3) v2 (0 : Int32) (0 : Int32) h1) fun _ h3 =>
  b2 (f_X3_cell (xrf a0 2) a1 (0 : Int32) h3) fun v5 h4 =>
  b2 (f_X3_put (xrf a0 3) v2 (1 : Int32) v5 h4) fun _ h6 =>
  b2 (f_X3_cell (xrf a0 2) a1 (1 : Int32) h6) fun v8 h7 =>
  b2 (f_X3_put (xrf a0 3) v2 (2 : Int32) v8 h7) fun _ h9 =>
  b2 (f_X3_cell (xrf a0 2) a1 (2 : Int32) h9) fun v11 h10 =>
  b2 (f_X3_put (xrf a0 3) v2 (3 : Int32) v11 h10) fun _ h12 =>
  b2 (f_X3_cell (xrf a0 2) a1 (3 : Int32) h12) fun v14 h13 =>
  b2 (f_X3_put (xrf a0 3) v2 (4 : Int32) v14 h13) fun _ h15 =>
  b2 (f_X3_cell (xrf a0 2) a1 (5 : Int32) h15) fun v17 h16 =>
  b2 (f_X3_put (xrf a0 3) v2 (5 : Int32) v17 h16) fun _ h18 =>
  some ((), h18)
set_option maxRecDepth 20000 in
theorem c_X0_sendMail {G : xG} (a0 : Nat) (ta0 : xTy a0 0) (a1 : Int32) (h : Mem) : Sm G 1 yX0_sendMail FX0_sendMail xcV [.ref (G.1 a0), .int a1] h (f_X0_sendMail a0 a1 h) := by
  refine Sm.of pn_X0 rfl (Nat.le_of_ble_eq_true rfl) (ls := [(0, .ref (G.1 a0)), (1, .int a1)]) rfl ?_
  unfold f_X0_sendMail
  refine r_aload_n (place := 0) dX0_sendMail_0 rfl rfl ?_
  refine r_getR dX0_sendMail_1 fg_X0_27 ta0 ?_
  refine r_callVI (rest := []) dX0_sendMail_4 m_X3_open lk_X0_105 rfl (by decide) (xt_0_3 ta0) (c_X3_open (xrf a0 3) (xt_0_3 ta0) h) (by decide) rfl rfl (Nat.le_of_ble_eq_true rfl) (fun v2 h1 => ?_)
  refine r_istore_n (ls' := [(2, .int v2), (0, .ref (G.1 a0)), (1, .int a1)]) dX0_sendMail_7 rfl (by decide) rfl ?_
  refine r_aload_n (place := 1) dX0_sendMail_8 rfl rfl ?_
  refine r_getR dX0_sendMail_9 fg_X0_27 ta0 ?_
  refine r_iload_n (place := 0) dX0_sendMail_12 rfl rfl ?_
  refine r_iconst dX0_sendMail_13 xc_0 ?_
  refine r_iconst dX0_sendMail_14 xc_0 ?_
  refine r_callVV (rest := []) dX0_sendMail_15 m_X3_put lk_X0_108 rfl (by decide) (xt_0_3 ta0) (c_X3_put (xrf a0 3) (xt_0_3 ta0) v2 (0 : Int32) (0 : Int32) h1) (by decide) rfl rfl (Nat.le_of_ble_eq_true rfl) (fun h3 => ?_)
  refine r_aload_n (place := 1) dX0_sendMail_18 rfl rfl ?_
  refine r_getR dX0_sendMail_19 fg_X0_27 ta0 ?_
  refine r_iload_n (place := 0) dX0_sendMail_22 rfl rfl ?_
  refine r_iconst dX0_sendMail_23 xc_1 ?_
  refine r_aload_n (place := 1) dX0_sendMail_24 rfl rfl ?_
  refine r_getR dX0_sendMail_25 fg_X0_24 ta0 ?_
  refine r_iload_n (place := 2) dX0_sendMail_28 rfl rfl ?_
  refine r_iconst dX0_sendMail_29 xc_0 ?_
  refine r_callVI (rest := [.int (1 : Int32), .int v2, .ref (G.1 (xrf a0 3))]) dX0_sendMail_30 m_X3_cell lk_X0_98 rfl (by decide) (xt_0_2 ta0) (c_X3_cell (xrf a0 2) (xt_0_2 ta0) a1 (0 : Int32) h3) (by decide) rfl rfl (Nat.le_of_ble_eq_true rfl) (fun v5 h4 => ?_)
  refine r_callVV (rest := []) dX0_sendMail_33 m_X3_put lk_X0_108 rfl (by decide) (xt_0_3 ta0) (c_X3_put (xrf a0 3) (xt_0_3 ta0) v2 (1 : Int32) v5 h4) (by decide) rfl rfl (Nat.le_of_ble_eq_true rfl) (fun h6 => ?_)
  refine r_aload_n (place := 1) dX0_sendMail_36 rfl rfl ?_
  refine r_getR dX0_sendMail_37 fg_X0_27 ta0 ?_
  refine r_iload_n (place := 0) dX0_sendMail_40 rfl rfl ?_
  refine r_iconst dX0_sendMail_41 xc_2 ?_
  refine r_aload_n (place := 1) dX0_sendMail_42 rfl rfl ?_
  refine r_getR dX0_sendMail_43 fg_X0_24 ta0 ?_
  refine r_iload_n (place := 2) dX0_sendMail_46 rfl rfl ?_
  refine r_iconst dX0_sendMail_47 xc_1 ?_
  refine r_callVI (rest := [.int (2 : Int32), .int v2, .ref (G.1 (xrf a0 3))]) dX0_sendMail_48 m_X3_cell lk_X0_98 rfl (by decide) (xt_0_2 ta0) (c_X3_cell (xrf a0 2) (xt_0_2 ta0) a1 (1 : Int32) h6) (by decide) rfl rfl (Nat.le_of_ble_eq_true rfl) (fun v8 h7 => ?_)
  refine r_callVV (rest := []) dX0_sendMail_51 m_X3_put lk_X0_108 rfl (by decide) (xt_0_3 ta0) (c_X3_put (xrf a0 3) (xt_0_3 ta0) v2 (2 : Int32) v8 h7) (by decide) rfl rfl (Nat.le_of_ble_eq_true rfl) (fun h9 => ?_)
  refine r_aload_n (place := 1) dX0_sendMail_54 rfl rfl ?_
  refine r_getR dX0_sendMail_55 fg_X0_27 ta0 ?_
  refine r_iload_n (place := 0) dX0_sendMail_58 rfl rfl ?_
  refine r_iconst dX0_sendMail_59 xc_3 ?_
  refine r_aload_n (place := 1) dX0_sendMail_60 rfl rfl ?_
  refine r_getR dX0_sendMail_61 fg_X0_24 ta0 ?_
  refine r_iload_n (place := 2) dX0_sendMail_64 rfl rfl ?_
  refine r_iconst dX0_sendMail_65 xc_2 ?_
  refine r_callVI (rest := [.int (3 : Int32), .int v2, .ref (G.1 (xrf a0 3))]) dX0_sendMail_66 m_X3_cell lk_X0_98 rfl (by decide) (xt_0_2 ta0) (c_X3_cell (xrf a0 2) (xt_0_2 ta0) a1 (2 : Int32) h9) (by decide) rfl rfl (Nat.le_of_ble_eq_true rfl) (fun v11 h10 => ?_)
  refine r_callVV (rest := []) dX0_sendMail_69 m_X3_put lk_X0_108 rfl (by decide) (xt_0_3 ta0) (c_X3_put (xrf a0 3) (xt_0_3 ta0) v2 (3 : Int32) v11 h10) (by decide) rfl rfl (Nat.le_of_ble_eq_true rfl) (fun h12 => ?_)
  refine r_aload_n (place := 1) dX0_sendMail_72 rfl rfl ?_
  refine r_getR dX0_sendMail_73 fg_X0_27 ta0 ?_
  refine r_iload_n (place := 0) dX0_sendMail_76 rfl rfl ?_
  refine r_iconst dX0_sendMail_77 xc_4 ?_
  refine r_aload_n (place := 1) dX0_sendMail_78 rfl rfl ?_
  refine r_getR dX0_sendMail_79 fg_X0_24 ta0 ?_
  refine r_iload_n (place := 2) dX0_sendMail_82 rfl rfl ?_
  refine r_iconst dX0_sendMail_83 xc_3 ?_
  refine r_callVI (rest := [.int (4 : Int32), .int v2, .ref (G.1 (xrf a0 3))]) dX0_sendMail_84 m_X3_cell lk_X0_98 rfl (by decide) (xt_0_2 ta0) (c_X3_cell (xrf a0 2) (xt_0_2 ta0) a1 (3 : Int32) h12) (by decide) rfl rfl (Nat.le_of_ble_eq_true rfl) (fun v14 h13 => ?_)
  refine r_callVV (rest := []) dX0_sendMail_87 m_X3_put lk_X0_108 rfl (by decide) (xt_0_3 ta0) (c_X3_put (xrf a0 3) (xt_0_3 ta0) v2 (4 : Int32) v14 h13) (by decide) rfl rfl (Nat.le_of_ble_eq_true rfl) (fun h15 => ?_)
  refine r_aload_n (place := 1) dX0_sendMail_90 rfl rfl ?_
  refine r_getR dX0_sendMail_91 fg_X0_27 ta0 ?_
  refine r_iload_n (place := 0) dX0_sendMail_94 rfl rfl ?_
  refine r_iconst dX0_sendMail_95 xc_5 ?_
  refine r_aload_n (place := 1) dX0_sendMail_96 rfl rfl ?_
  refine r_getR dX0_sendMail_97 fg_X0_24 ta0 ?_
  refine r_iload_n (place := 2) dX0_sendMail_100 rfl rfl ?_
  refine r_iconst dX0_sendMail_101 xc_5 ?_
  refine r_callVI (rest := [.int (5 : Int32), .int v2, .ref (G.1 (xrf a0 3))]) dX0_sendMail_102 m_X3_cell lk_X0_98 rfl (by decide) (xt_0_2 ta0) (c_X3_cell (xrf a0 2) (xt_0_2 ta0) a1 (5 : Int32) h15) (by decide) rfl rfl (Nat.le_of_ble_eq_true rfl) (fun v17 h16 => ?_)
  refine r_callVV (rest := []) dX0_sendMail_105 m_X3_put lk_X0_108 rfl (by decide) (xt_0_3 ta0) (c_X3_put (xrf a0 3) (xt_0_3 ta0) v2 (5 : Int32) v17 h16) (by decide) rfl rfl (Nat.le_of_ble_eq_true rfl) (fun h18 => ?_)
  exact r_ret dX0_sendMail_108 rfl
def f_X0_sendAgain_49 (kk2 : Nat → Int32 → Mem → Option (Int32 × Mem)) (a0 : Nat) (a1 : Int32) (h : Mem) : Option (Int32 × Mem) :=
  kk2 a0 (a1 + (1 : Int32)) h
set_option maxRecDepth 20000 in
theorem t_X0_sendAgain_49 {G : xG} (kk2 : Nat → Int32 → Mem → Option (Int32 × Mem)) (hk2 : ∀ (a0 : Nat) (a1 : Int32) (ta0 : xTy a0 0) (h : Mem), Rn G 2 FX0_sendAgain xcI 2 [(0, .ref (G.1 a0)), (1, .int a1)] [] h (kk2 a0 a1 h)) (a0 : Nat) (a1 : Int32) (ta0 : xTy a0 0) (h : Mem) : Rn G 2 FX0_sendAgain xcI 49 [(0, .ref (G.1 a0)), (1, .int a1)] [] h (f_X0_sendAgain_49 kk2 a0 a1 h) := by
  unfold f_X0_sendAgain_49
  refine r_iincC (place := 1) (ls' := [(1, .int (a1 + (1 : Int32))), (0, .ref (G.1 a0))]) dX0_sendAgain_49 rfl xc_1 (by decide) rfl ?_
  refine r_goto (tgt := 2) dX0_sendAgain_52 (by decide) ?_
  exact r_sub [1, 0] rfl (hk2 a0 (a1 + (1 : Int32)) ta0 h)
def f_X0_sendAgain_2  : Nat → Nat → Int32 → Mem → Option (Int32 × Mem)
  | 0, _, _, _ => none
  | n + 1, a0, a1, h =>
    if (h a0 11) ≤ a1 then
        some ((h a0 11), h)
    else
        b2 (f_X3_cell (xrf a0 2) a1 (4 : Int32) h) fun v2 h1 =>
        if v2 = (1 : Int32) then
            b2 (f_X3_cell (xrf a0 2) a1 (0 : Int32) h1) fun v5 h4 =>
            b2 (f_X0_sendBare a0 (xrf a0 3) (3 : Int32) v5 h4) fun _ h6 =>
            f_X0_sendAgain_49 (f_X0_sendAgain_2 n) a0 a1 h6
        else
            b2 (f_X0_sendMail a0 a1 h1) fun _ h3 =>
            f_X0_sendAgain_49 (f_X0_sendAgain_2 n) a0 a1 h3
set_option maxRecDepth 20000 in
theorem t_X0_sendAgain_2 {G : xG}  : ∀ (n : Nat) (a0 : Nat) (a1 : Int32) (ta0 : xTy a0 0) (h : Mem), Rn G 2 FX0_sendAgain xcI 2 [(0, .ref (G.1 a0)), (1, .int a1)] [] h (f_X0_sendAgain_2 n a0 a1 h) := by
  intro n
  induction n with
  | zero => intros; intro r hr; cases hr
  | succ n ih =>
    intro a0 a1 ta0 h
    unfold f_X0_sendAgain_2
    refine r_iload_n (place := 1) dX0_sendAgain_2 rfl rfl ?_
    refine r_aload_n (place := 0) dX0_sendAgain_3 rfl rfl ?_
    refine r_getI dX0_sendAgain_4 fg_X0_77 ta0 ?_
    refine r_ic_ge (tgt := 55) dX0_sendAgain_7 (by decide) ?_ ?_
    · refine r_aload_n (place := 0) dX0_sendAgain_55 rfl rfl ?_
      refine r_getI dX0_sendAgain_56 fg_X0_77 ta0 ?_
      exact r_iret dX0_sendAgain_59 rfl
    · refine r_aload_n (place := 0) dX0_sendAgain_10 rfl rfl ?_
      refine r_getR dX0_sendAgain_11 fg_X0_24 ta0 ?_
      refine r_iload_n (place := 1) dX0_sendAgain_14 rfl rfl ?_
      refine r_iconst dX0_sendAgain_15 xc_4 ?_
      refine r_callVI (rest := []) dX0_sendAgain_16 m_X3_cell lk_X0_98 rfl (by decide) (xt_0_2 ta0) (c_X3_cell (xrf a0 2) (xt_0_2 ta0) a1 (4 : Int32) h) (by decide) rfl rfl (Nat.le_of_ble_eq_true rfl) (fun v2 h1 => ?_)
      refine r_iconst dX0_sendAgain_19 xc_1 ?_
      refine r_ic_ne (tgt := 44) dX0_sendAgain_20 (by decide) ?_ ?_
      · refine r_aload_n (place := 0) dX0_sendAgain_44 rfl rfl ?_
        refine r_iload_n (place := 1) dX0_sendAgain_45 rfl rfl ?_
        refine r_callVV (rest := []) dX0_sendAgain_46 m_X0_sendMail lk_X0_139 rfl (by decide) ta0 (c_X0_sendMail a0 ta0 a1 h1) (by decide) rfl rfl (Nat.le_of_ble_eq_true rfl) (fun h3 => ?_)
        exact r_sub [0, 1] rfl (t_X0_sendAgain_49 (f_X0_sendAgain_2 n) ih a0 a1 ta0 h3)
      · refine r_aload_n (place := 0) dX0_sendAgain_23 rfl rfl ?_
        refine r_aload_n (place := 0) dX0_sendAgain_24 rfl rfl ?_
        refine r_getR dX0_sendAgain_25 fg_X0_27 ta0 ?_
        refine r_iconst dX0_sendAgain_28 xc_3 ?_
        refine r_aload_n (place := 0) dX0_sendAgain_29 rfl rfl ?_
        refine r_getR dX0_sendAgain_30 fg_X0_24 ta0 ?_
        refine r_iload_n (place := 1) dX0_sendAgain_33 rfl rfl ?_
        refine r_iconst dX0_sendAgain_34 xc_0 ?_
        refine r_callVI (rest := [.int (3 : Int32), .ref (G.1 (xrf a0 3)), .ref (G.1 a0)]) dX0_sendAgain_35 m_X3_cell lk_X0_98 rfl (by decide) (xt_0_2 ta0) (c_X3_cell (xrf a0 2) (xt_0_2 ta0) a1 (0 : Int32) h1) (by decide) rfl rfl (Nat.le_of_ble_eq_true rfl) (fun v5 h4 => ?_)
        refine r_callVV (rest := []) dX0_sendAgain_38 m_X0_sendBare lk_X0_143 rfl (by decide) ta0 (c_X0_sendBare a0 ta0 (xrf a0 3) (xt_0_3 ta0) (3 : Int32) v5 h4) (by decide) rfl rfl (Nat.le_of_ble_eq_true rfl) (fun h6 => ?_)
        refine r_goto (tgt := 49) dX0_sendAgain_41 (by decide) ?_
        exact r_sub [0, 1] rfl (t_X0_sendAgain_49 (f_X0_sendAgain_2 n) ih a0 a1 ta0 h6)
def f_X0_sendAgain (a0 : Nat) (h : Mem) : Option (Int32 × Mem) :=
  f_X0_sendAgain_2 xFU a0 (0 : Int32) h
set_option maxRecDepth 20000 in
theorem c_X0_sendAgain {G : xG} (a0 : Nat) (ta0 : xTy a0 0) (h : Mem) : Sm G 2 yX0_sendAgain FX0_sendAgain xcI [.ref (G.1 a0)] h (f_X0_sendAgain a0 h) := by
  refine Sm.of pn_X0 rfl (Nat.le_of_ble_eq_true rfl) (ls := [(0, .ref (G.1 a0))]) rfl ?_
  unfold f_X0_sendAgain
  refine r_iconst dX0_sendAgain_0 xc_0 ?_
  refine r_istore_n (ls' := [(1, .int (0 : Int32)), (0, .ref (G.1 a0))]) dX0_sendAgain_1 rfl (by decide) rfl ?_
  exact r_sub [1, 0] rfl (t_X0_sendAgain_2 xFU a0 (0 : Int32) ta0 h)
def f_X0_launchQueued_14  : Nat → Nat → Int32 → Mem → Option (Unit × Mem)
  | 0, _, _, _ => none
  | n + 1, a0, a1, h =>
    if (h (xrf a0 2) 3) ≤ a1 then
        some ((), h)
    else
        if (4 : Int32) ≤ a1 then
            some ((), h)
        else
            mlet (mu h a0 12 ((h a0 12) + (1 : Int32))) fun h1 =>
            mlet (mu h1 a0 11 ((h1 a0 11) + (1 : Int32))) fun h2 =>
            b2 (f_X3_put (xrf a0 2) a1 (0 : Int32) (h2 a0 12) h2) fun _ h3 =>
            b2 (f_X0_sendMail a0 a1 h3) fun _ h4 =>
            (f_X0_launchQueued_14 n) a0 (a1 + (1 : Int32)) h4
set_option maxRecDepth 20000 in
theorem t_X0_launchQueued_14 {G : xG}  : ∀ (n : Nat) (a0 : Nat) (a1 : Int32) (ta0 : xTy a0 0) (h : Mem), Rn G 2 FX0_launchQueued xcV 14 [(0, .ref (G.1 a0)), (1, .int a1)] [] h (f_X0_launchQueued_14 n a0 a1 h) := by
  intro n
  induction n with
  | zero => intros; intro r hr; cases hr
  | succ n ih =>
    intro a0 a1 ta0 h
    unfold f_X0_launchQueued_14
    refine r_iload_n (place := 1) dX0_launchQueued_14 rfl rfl ?_
    refine r_aload_n (place := 0) dX0_launchQueued_15 rfl rfl ?_
    refine r_getR dX0_launchQueued_16 fg_X0_24 ta0 ?_
    refine r_getI dX0_launchQueued_19 fg_X0_95 (xt_0_2 ta0) ?_
    refine r_ic_ge (tgt := 74) dX0_launchQueued_22 (by decide) ?_ ?_
    · exact r_ret dX0_launchQueued_74 rfl
    · refine r_iload_n (place := 1) dX0_launchQueued_25 rfl rfl ?_
      refine r_iconst dX0_launchQueued_26 xc_4 ?_
      refine r_ic_ge (tgt := 74) dX0_launchQueued_27 (by decide) ?_ ?_
      · exact r_ret dX0_launchQueued_74 rfl
      · refine r_aload_n (place := 0) dX0_launchQueued_30 rfl rfl ?_
        refine r_dup dX0_launchQueued_31 rfl ?_
        refine r_getI dX0_launchQueued_32 fg_X0_80 ta0 ?_
        refine r_iconst dX0_launchQueued_35 xc_1 ?_
        refine r_iadd dX0_launchQueued_36 ?_
        refine r_putI dX0_launchQueued_37 fp_X0_80 ta0 ?_
        refine r_mem (fun h1 => ?_)
        refine r_aload_n (place := 0) dX0_launchQueued_40 rfl rfl ?_
        refine r_dup dX0_launchQueued_41 rfl ?_
        refine r_getI dX0_launchQueued_42 fg_X0_77 ta0 ?_
        refine r_iconst dX0_launchQueued_45 xc_1 ?_
        refine r_iadd dX0_launchQueued_46 ?_
        refine r_putI dX0_launchQueued_47 fp_X0_77 ta0 ?_
        refine r_mem (fun h2 => ?_)
        refine r_aload_n (place := 0) dX0_launchQueued_50 rfl rfl ?_
        refine r_getR dX0_launchQueued_51 fg_X0_24 ta0 ?_
        refine r_iload_n (place := 1) dX0_launchQueued_54 rfl rfl ?_
        refine r_iconst dX0_launchQueued_55 xc_0 ?_
        refine r_aload_n (place := 0) dX0_launchQueued_56 rfl rfl ?_
        refine r_getI dX0_launchQueued_57 fg_X0_80 ta0 ?_
        refine r_callVV (rest := []) dX0_launchQueued_60 m_X3_put lk_X0_108 rfl (by decide) (xt_0_2 ta0) (c_X3_put (xrf a0 2) (xt_0_2 ta0) a1 (0 : Int32) (h2 a0 12) h2) (by decide) rfl rfl (Nat.le_of_ble_eq_true rfl) (fun h3 => ?_)
        refine r_aload_n (place := 0) dX0_launchQueued_63 rfl rfl ?_
        refine r_iload_n (place := 1) dX0_launchQueued_64 rfl rfl ?_
        refine r_callVV (rest := []) dX0_launchQueued_65 m_X0_sendMail lk_X0_139 rfl (by decide) ta0 (c_X0_sendMail a0 ta0 a1 h3) (by decide) rfl rfl (Nat.le_of_ble_eq_true rfl) (fun h4 => ?_)
        refine r_iincC (place := 1) (ls' := [(1, .int (a1 + (1 : Int32))), (0, .ref (G.1 a0))]) dX0_launchQueued_68 rfl xc_1 (by decide) rfl ?_
        refine r_goto (tgt := 14) dX0_launchQueued_71 (by decide) ?_
        exact r_sub [1, 0] rfl (ih a0 (a1 + (1 : Int32)) ta0 h4)
def f_X0_launchQueued (a0 : Nat) (h : Mem) : Option (Unit × Mem) :=
  if (h a0 8) = (1 : Int32) then
      f_X0_launchQueued_14 xFU a0 (h a0 11) h
  else
      some ((), h)
set_option maxRecDepth 20000 in
theorem c_X0_launchQueued {G : xG} (a0 : Nat) (ta0 : xTy a0 0) (h : Mem) : Sm G 2 yX0_launchQueued FX0_launchQueued xcV [.ref (G.1 a0)] h (f_X0_launchQueued a0 h) := by
  refine Sm.of pn_X0 rfl (Nat.le_of_ble_eq_true rfl) (ls := [(0, .ref (G.1 a0))]) rfl ?_
  unfold f_X0_launchQueued
  refine r_aload_n (place := 0) dX0_launchQueued_0 rfl rfl ?_
  refine r_getI dX0_launchQueued_1 fg_X0_68 ta0 ?_
  refine r_iconst dX0_launchQueued_4 xc_1 ?_
  refine r_ic_eq (tgt := 9) dX0_launchQueued_5 (by decide) ?_ ?_
  · refine r_aload_n (place := 0) dX0_launchQueued_9 rfl rfl ?_
    refine r_getI dX0_launchQueued_10 fg_X0_77 ta0 ?_
    refine r_istore_n (ls' := [(1, .int (h a0 11)), (0, .ref (G.1 a0))]) dX0_launchQueued_13 rfl (by decide) rfl ?_
    exact r_sub [1, 0] rfl (t_X0_launchQueued_14 xFU a0 (h a0 11) ta0 h)
  · exact r_ret dX0_launchQueued_8 rfl
def f_X0_awaken (a0 : Nat) (a1 : Int32) (h : Mem) : Option (Unit × Mem) :=
  mlet (mu h a0 8 (1 : Int32)) fun h1 =>
  mlet (mu h1 a0 9 a1) fun h2 =>
  b2 (f_X0_clearLines a0 h2) fun _ h3 =>
  b2 (f_X5_drop (xrf a0 7) h3) fun _ h4 =>
  b2 (f_X0_sendAgain a0 h4) fun v6 h5 =>
  b2 (f_X0_launchQueued a0 h5) fun _ h7 =>
  some ((), h7)
set_option maxRecDepth 20000 in
theorem c_X0_awaken {G : xG} (a0 : Nat) (ta0 : xTy a0 0) (a1 : Int32) (h : Mem) : Sm G 3 yX0_awaken FX0_awaken xcV [.ref (G.1 a0), .int a1] h (f_X0_awaken a0 a1 h) := by
  refine Sm.of pn_X0 rfl (Nat.le_of_ble_eq_true rfl) (ls := [(0, .ref (G.1 a0)), (1, .int a1)]) rfl ?_
  unfold f_X0_awaken
  refine r_aload_n (place := 0) dX0_awaken_0 rfl rfl ?_
  refine r_iconst dX0_awaken_1 xc_1 ?_
  refine r_putI dX0_awaken_2 fp_X0_68 ta0 ?_
  refine r_mem (fun h1 => ?_)
  refine r_aload_n (place := 0) dX0_awaken_5 rfl rfl ?_
  refine r_iload_n (place := 1) dX0_awaken_6 rfl rfl ?_
  refine r_putI dX0_awaken_7 fp_X0_71 ta0 ?_
  refine r_mem (fun h2 => ?_)
  refine r_aload_n (place := 0) dX0_awaken_10 rfl rfl ?_
  refine r_callVV (rest := []) dX0_awaken_11 m_X0_clearLines lk_X0_85 rfl (by decide) ta0 (c_X0_clearLines a0 ta0 h2) (by decide) rfl rfl (Nat.le_of_ble_eq_true rfl) (fun h3 => ?_)
  refine r_aload_n (place := 0) dX0_awaken_14 rfl rfl ?_
  refine r_getR dX0_awaken_15 fg_X0_42 ta0 ?_
  refine r_callVV (rest := []) dX0_awaken_18 m_X5_drop lk_X0_49 rfl (by decide) (xt_0_7 ta0) (c_X5_drop (xrf a0 7) (xt_0_7 ta0) h3) (by decide) rfl rfl (Nat.le_of_ble_eq_true rfl) (fun h4 => ?_)
  refine r_aload_n (place := 0) dX0_awaken_21 rfl rfl ?_
  refine r_callVI (rest := []) dX0_awaken_22 m_X0_sendAgain lk_X0_88 rfl (by decide) ta0 (c_X0_sendAgain a0 ta0 h4) (by decide) rfl rfl (Nat.le_of_ble_eq_true rfl) (fun v6 h5 => ?_)
  refine r_pop dX0_awaken_25 rfl ?_
  refine r_aload_n (place := 0) dX0_awaken_26 rfl rfl ?_
  refine r_callVV (rest := []) dX0_awaken_27 m_X0_launchQueued lk_X0_92 rfl (by decide) ta0 (c_X0_launchQueued a0 ta0 h5) (by decide) rfl rfl (Nat.le_of_ble_eq_true rfl) (fun h7 => ?_)
  exact r_ret dX0_awaken_30 rfl
def f_X0_fallAsleep (a0 : Nat) (a1 : Int32) (h : Mem) : Option (Unit × Mem) :=
  mlet (mu h a0 8 (2 : Int32)) fun h1 =>
  mlet (mu h1 a0 10 (a1 + (h1 a0 9))) fun h2 =>
  b2 (f_X0_clearLines a0 h2) fun _ h3 =>
  some ((), h3)
set_option maxRecDepth 20000 in
theorem c_X0_fallAsleep {G : xG} (a0 : Nat) (ta0 : xTy a0 0) (a1 : Int32) (h : Mem) : Sm G 2 yX0_fallAsleep FX0_fallAsleep xcV [.ref (G.1 a0), .int a1] h (f_X0_fallAsleep a0 a1 h) := by
  refine Sm.of pn_X0 rfl (Nat.le_of_ble_eq_true rfl) (ls := [(0, .ref (G.1 a0)), (1, .int a1)]) rfl ?_
  unfold f_X0_fallAsleep
  refine r_aload_n (place := 0) dX0_fallAsleep_0 rfl rfl ?_
  refine r_iconst dX0_fallAsleep_1 xc_2 ?_
  refine r_putI dX0_fallAsleep_2 fp_X0_68 ta0 ?_
  refine r_mem (fun h1 => ?_)
  refine r_aload_n (place := 0) dX0_fallAsleep_5 rfl rfl ?_
  refine r_iload_n (place := 1) dX0_fallAsleep_6 rfl rfl ?_
  refine r_aload_n (place := 0) dX0_fallAsleep_7 rfl rfl ?_
  refine r_getI dX0_fallAsleep_8 fg_X0_71 ta0 ?_
  refine r_iadd dX0_fallAsleep_11 ?_
  refine r_putI dX0_fallAsleep_12 fp_X0_74 ta0 ?_
  refine r_mem (fun h2 => ?_)
  refine r_aload_n (place := 0) dX0_fallAsleep_15 rfl rfl ?_
  refine r_callVV (rest := []) dX0_fallAsleep_16 m_X0_clearLines lk_X0_85 rfl (by decide) ta0 (c_X0_clearLines a0 ta0 h2) (by decide) rfl rfl (Nat.le_of_ble_eq_true rfl) (fun h3 => ?_)
  exact r_ret dX0_fallAsleep_19 rfl
def f_X0_beToldAsleep (a0 : Nat) (h : Mem) : Option (Unit × Mem) :=
  mlet (mu h a0 8 (2 : Int32)) fun h1 =>
  mlet (mu h1 a0 9 (99 : Int32)) fun h2 =>
  mlet (mu h2 a0 10 (99 : Int32)) fun h3 =>
  some ((), h3)
set_option maxRecDepth 20000 in
theorem c_X0_beToldAsleep {G : xG} (a0 : Nat) (ta0 : xTy a0 0) (h : Mem) : Sm G 0 yX0_beToldAsleep FX0_beToldAsleep xcV [.ref (G.1 a0)] h (f_X0_beToldAsleep a0 h) := by
  refine Sm.of pn_X0 rfl (Nat.le_of_ble_eq_true rfl) (ls := [(0, .ref (G.1 a0))]) rfl ?_
  unfold f_X0_beToldAsleep
  refine r_aload_n (place := 0) dX0_beToldAsleep_0 rfl rfl ?_
  refine r_iconst dX0_beToldAsleep_1 xc_2 ?_
  refine r_putI dX0_beToldAsleep_2 fp_X0_68 ta0 ?_
  refine r_mem (fun h1 => ?_)
  refine r_aload_n (place := 0) dX0_beToldAsleep_5 rfl rfl ?_
  refine r_bipush dX0_beToldAsleep_6 xb_99 ?_
  refine r_putI dX0_beToldAsleep_8 fp_X0_71 ta0 ?_
  refine r_mem (fun h2 => ?_)
  refine r_aload_n (place := 0) dX0_beToldAsleep_11 rfl rfl ?_
  refine r_bipush dX0_beToldAsleep_12 xb_99 ?_
  refine r_putI dX0_beToldAsleep_14 fp_X0_74 ta0 ?_
  refine r_mem (fun h3 => ?_)
  exact r_ret dX0_beToldAsleep_17 rfl
def f_X0_packets (a0 : Nat) (a1 : Int32) (h : Mem) : Option (Nat × Mem) :=
  if a1 = 0 then
      some ((xrf a0 3), h)
  else
      some ((xrf a0 4), h)
set_option maxRecDepth 20000 in
theorem c_X0_packets {G : xG} (a0 : Nat) (ta0 : xTy a0 0) (a1 : Int32) (h : Mem) : Sm G 0 yX0_packets FX0_packets (xcR G) [.ref (G.1 a0), .int a1] h (f_X0_packets a0 a1 h) := by
  refine Sm.of pn_X0 rfl (Nat.le_of_ble_eq_true rfl) (ls := [(0, .ref (G.1 a0)), (1, .int a1)]) rfl ?_
  unfold f_X0_packets
  refine r_iload_n (place := 1) dX0_packets_0 rfl rfl ?_
  refine r_if_ne (tgt := 11) dX0_packets_1 (by decide) ?_ ?_
  · refine r_aload_n (place := 0) dX0_packets_11 rfl rfl ?_
    refine r_getR dX0_packets_12 fg_X0_30 ta0 ?_
    exact r_aret dX0_packets_15 rfl
  · refine r_aload_n (place := 0) dX0_packets_4 rfl rfl ?_
    refine r_getR dX0_packets_5 fg_X0_27 ta0 ?_
    refine r_goto (tgt := 15) dX0_packets_8 (by decide) ?_
    exact r_aret dX0_packets_15 rfl
def f_X0_findSubscription_41 (kk2 : Nat → Int32 → Int32 → Int32 → Mem → Option (Int32 × Mem)) (a0 : Nat) (a1 : Int32) (a2 : Int32) (a3 : Int32) (h : Mem) : Option (Int32 × Mem) :=
  kk2 a0 a1 a2 (a3 + (1 : Int32)) h
set_option maxRecDepth 20000 in
theorem t_X0_findSubscription_41 {G : xG} (kk2 : Nat → Int32 → Int32 → Int32 → Mem → Option (Int32 × Mem)) (hk2 : ∀ (a0 : Nat) (a1 : Int32) (a2 : Int32) (a3 : Int32) (ta0 : xTy a0 0) (h : Mem), Rn G 1 FX0_findSubscription xcI 2 [(0, .ref (G.1 a0)), (1, .int a1), (2, .int a2), (3, .int a3)] [] h (kk2 a0 a1 a2 a3 h)) (a0 : Nat) (a1 : Int32) (a2 : Int32) (a3 : Int32) (ta0 : xTy a0 0) (h : Mem) : Rn G 1 FX0_findSubscription xcI 41 [(0, .ref (G.1 a0)), (1, .int a1), (2, .int a2), (3, .int a3)] [] h (f_X0_findSubscription_41 kk2 a0 a1 a2 a3 h) := by
  unfold f_X0_findSubscription_41
  refine r_iincC (place := 3) (ls' := [(3, .int (a3 + (1 : Int32))), (0, .ref (G.1 a0)), (1, .int a1), (2, .int a2)]) dX0_findSubscription_41 rfl xc_1 (by decide) rfl ?_
  refine r_goto (tgt := 2) dX0_findSubscription_44 (by decide) ?_
  exact r_sub [1, 2, 3, 0] rfl (hk2 a0 a1 a2 (a3 + (1 : Int32)) ta0 h)
def f_X0_findSubscription_2  : Nat → Nat → Int32 → Int32 → Int32 → Mem → Option (Int32 × Mem)
  | 0, _, _, _, _, _ => none
  | n + 1, a0, a1, a2, a3, h =>
    if (h (xrf a0 0) 3) ≤ a3 then
        some ((-1 : Int32), h)
    else
        b2 (f_X3_cell (xrf a0 0) a3 (0 : Int32) h) fun v2 h1 =>
        if v2 = a1 then
            b2 (f_X3_cell (xrf a0 0) a3 (2 : Int32) h1) fun v4 h3 =>
            if v4 = a2 then
                some (a3, h3)
            else
                f_X0_findSubscription_41 (f_X0_findSubscription_2 n) a0 a1 a2 a3 h3
        else
            f_X0_findSubscription_41 (f_X0_findSubscription_2 n) a0 a1 a2 a3 h1
set_option maxRecDepth 20000 in
theorem t_X0_findSubscription_2 {G : xG}  : ∀ (n : Nat) (a0 : Nat) (a1 : Int32) (a2 : Int32) (a3 : Int32) (ta0 : xTy a0 0) (h : Mem), Rn G 1 FX0_findSubscription xcI 2 [(0, .ref (G.1 a0)), (1, .int a1), (2, .int a2), (3, .int a3)] [] h (f_X0_findSubscription_2 n a0 a1 a2 a3 h) := by
  intro n
  induction n with
  | zero => intros; intro r hr; cases hr
  | succ n ih =>
    intro a0 a1 a2 a3 ta0 h
    unfold f_X0_findSubscription_2
    refine r_iload_n (place := 3) dX0_findSubscription_2 rfl rfl ?_
    refine r_aload_n (place := 0) dX0_findSubscription_3 rfl rfl ?_
    refine r_getR dX0_findSubscription_4 fg_X0_14 ta0 ?_
    refine r_getI dX0_findSubscription_7 fg_X0_95 (xt_0_0 ta0) ?_
    refine r_ic_ge (tgt := 47) dX0_findSubscription_10 (by decide) ?_ ?_
    · refine r_iconst dX0_findSubscription_47 xc_m1 ?_
      exact r_iret dX0_findSubscription_48 rfl
    · refine r_aload_n (place := 0) dX0_findSubscription_13 rfl rfl ?_
      refine r_getR dX0_findSubscription_14 fg_X0_14 ta0 ?_
      refine r_iload_n (place := 3) dX0_findSubscription_17 rfl rfl ?_
      refine r_iconst dX0_findSubscription_18 xc_0 ?_
      refine r_callVI (rest := []) dX0_findSubscription_19 m_X3_cell lk_X0_98 rfl (by decide) (xt_0_0 ta0) (c_X3_cell (xrf a0 0) (xt_0_0 ta0) a3 (0 : Int32) h) (by decide) rfl rfl (Nat.le_of_ble_eq_true rfl) (fun v2 h1 => ?_)
      refine r_iload_n (place := 1) dX0_findSubscription_22 rfl rfl ?_
      refine r_ic_ne (tgt := 41) dX0_findSubscription_23 (by decide) ?_ ?_
      · exact r_sub [0, 1, 2, 3] rfl (t_X0_findSubscription_41 (f_X0_findSubscription_2 n) ih a0 a1 a2 a3 ta0 h1)
      · refine r_aload_n (place := 0) dX0_findSubscription_26 rfl rfl ?_
        refine r_getR dX0_findSubscription_27 fg_X0_14 ta0 ?_
        refine r_iload_n (place := 3) dX0_findSubscription_30 rfl rfl ?_
        refine r_iconst dX0_findSubscription_31 xc_2 ?_
        refine r_callVI (rest := []) dX0_findSubscription_32 m_X3_cell lk_X0_98 rfl (by decide) (xt_0_0 ta0) (c_X3_cell (xrf a0 0) (xt_0_0 ta0) a3 (2 : Int32) h1) (by decide) rfl rfl (Nat.le_of_ble_eq_true rfl) (fun v4 h3 => ?_)
        refine r_iload_n (place := 2) dX0_findSubscription_35 rfl rfl ?_
        refine r_ic_ne (tgt := 41) dX0_findSubscription_36 (by decide) ?_ ?_
        · exact r_sub [0, 1, 2, 3] rfl (t_X0_findSubscription_41 (f_X0_findSubscription_2 n) ih a0 a1 a2 a3 ta0 h3)
        · refine r_iload_n (place := 3) dX0_findSubscription_39 rfl rfl ?_
          exact r_iret dX0_findSubscription_40 rfl
def f_X0_findSubscription (a0 : Nat) (a1 : Int32) (a2 : Int32) (h : Mem) : Option (Int32 × Mem) :=
  f_X0_findSubscription_2 xFU a0 a1 a2 (0 : Int32) h
set_option maxRecDepth 20000 in
theorem c_X0_findSubscription {G : xG} (a0 : Nat) (ta0 : xTy a0 0) (a1 : Int32) (a2 : Int32) (h : Mem) : Sm G 1 yX0_findSubscription FX0_findSubscription xcI [.ref (G.1 a0), .int a1, .int a2] h (f_X0_findSubscription a0 a1 a2 h) := by
  refine Sm.of pn_X0 rfl (Nat.le_of_ble_eq_true rfl) (ls := [(0, .ref (G.1 a0)), (1, .int a1), (2, .int a2)]) rfl ?_
  unfold f_X0_findSubscription
  refine r_iconst dX0_findSubscription_0 xc_0 ?_
  refine r_istore_n (ls' := [(3, .int (0 : Int32)), (0, .ref (G.1 a0)), (1, .int a1), (2, .int a2)]) dX0_findSubscription_1 rfl (by decide) rfl ?_
  exact r_sub [1, 2, 3, 0] rfl (t_X0_findSubscription_2 xFU a0 a1 a2 (0 : Int32) ta0 h)
def f_X0_addSubscription_44  (a0 : Nat) (a2 : Int32) (a4 : Int32) (h : Mem) : Option (Int32 × Mem) :=
  b2 (f_X3_put (xrf a0 0) a4 (1 : Int32) a2 h) fun _ h1 =>
  if a4 < 0 then
      some ((0 : Int32), h1)
  else
      some ((1 : Int32), h1)
set_option maxRecDepth 20000 in
theorem t_X0_addSubscription_44 {G : xG}  (a0 : Nat) (a2 : Int32) (a4 : Int32) (ta0 : xTy a0 0) (h : Mem) : Rn G 2 FX0_addSubscription xcI 44 [(0, .ref (G.1 a0)), (2, .int a2), (4, .int a4)] [] h (f_X0_addSubscription_44 a0 a2 a4 h) := by
  unfold f_X0_addSubscription_44
  refine r_aload_n (place := 0) dX0_addSubscription_44 rfl rfl ?_
  refine r_getR dX0_addSubscription_45 fg_X0_14 ta0 ?_
  refine r_iload (place := 2) dX0_addSubscription_48 rfl ?_
  refine r_iconst dX0_addSubscription_50 xc_1 ?_
  refine r_iload_n (place := 1) dX0_addSubscription_51 rfl rfl ?_
  refine r_callVV (rest := []) dX0_addSubscription_52 m_X3_put lk_X0_108 rfl (by decide) (xt_0_0 ta0) (c_X3_put (xrf a0 0) (xt_0_0 ta0) a4 (1 : Int32) a2 h) (by decide) rfl rfl (Nat.le_of_ble_eq_true rfl) (fun h1 => ?_)
  refine r_iload (place := 2) dX0_addSubscription_55 rfl ?_
  refine r_if_lt (tgt := 64) dX0_addSubscription_57 (by decide) ?_ ?_
  · refine r_iconst dX0_addSubscription_64 xc_0 ?_
    exact r_zret1 dX0_addSubscription_65 rfl (by decide)
  · refine r_iconst dX0_addSubscription_60 xc_1 ?_
    refine r_goto (tgt := 65) dX0_addSubscription_61 (by decide) ?_
    exact r_zret1 dX0_addSubscription_65 rfl (by decide)
def f_X0_addSubscription (a0 : Nat) (a1 : Int32) (a2 : Int32) (a3 : Int32) (h : Mem) : Option (Int32 × Mem) :=
  b2 (f_X0_findSubscription a0 a1 a3 h) fun v2 h1 =>
  if 0 ≤ v2 then
      f_X0_addSubscription_44 a0 a2 v2 h1
  else
      b2 (f_X3_open (xrf a0 0) h1) fun v4 h3 =>
      b2 (f_X3_put (xrf a0 0) v4 (0 : Int32) a1 h3) fun _ h5 =>
      b2 (f_X3_put (xrf a0 0) v4 (2 : Int32) a3 h5) fun _ h6 =>
      f_X0_addSubscription_44 a0 a2 v4 h6
set_option maxRecDepth 20000 in
theorem c_X0_addSubscription {G : xG} (a0 : Nat) (ta0 : xTy a0 0) (a1 : Int32) (a2 : Int32) (a3 : Int32) (h : Mem) : Sm G 2 yX0_addSubscription FX0_addSubscription xcI [.ref (G.1 a0), .int a1, .int a2, .int a3] h (f_X0_addSubscription a0 a1 a2 a3 h) := by
  refine Sm.of pn_X0 rfl (Nat.le_of_ble_eq_true rfl) (ls := [(0, .ref (G.1 a0)), (1, .int a1), (2, .int a2), (3, .int a3)]) rfl ?_
  unfold f_X0_addSubscription
  refine r_aload_n (place := 0) dX0_addSubscription_0 rfl rfl ?_
  refine r_iload_n (place := 1) dX0_addSubscription_1 rfl rfl ?_
  refine r_iload_n (place := 3) dX0_addSubscription_2 rfl rfl ?_
  refine r_callVI (rest := []) dX0_addSubscription_3 m_X0_findSubscription lk_X0_102 rfl (by decide) ta0 (c_X0_findSubscription a0 ta0 a1 a3 h) (by decide) rfl rfl (Nat.le_of_ble_eq_true rfl) (fun v2 h1 => ?_)
  refine r_istore (ls' := [(4, .int v2), (0, .ref (G.1 a0)), (1, .int a1), (2, .int a2), (3, .int a3)]) dX0_addSubscription_6 (by decide) rfl ?_
  refine r_iload (place := 0) dX0_addSubscription_8 rfl ?_
  refine r_if_ge (tgt := 44) dX0_addSubscription_10 (by decide) ?_ ?_
  · exact r_sub [1, 3, 0] rfl (t_X0_addSubscription_44 a0 a2 v2 ta0 h1)
  · refine r_aload_n (place := 1) dX0_addSubscription_13 rfl rfl ?_
    refine r_getR dX0_addSubscription_14 fg_X0_14 ta0 ?_
    refine r_callVI (rest := []) dX0_addSubscription_17 m_X3_open lk_X0_105 rfl (by decide) (xt_0_0 ta0) (c_X3_open (xrf a0 0) (xt_0_0 ta0) h1) (by decide) rfl rfl (Nat.le_of_ble_eq_true rfl) (fun v4 h3 => ?_)
    refine r_istore (ls' := [(4, .int v4), (0, .ref (G.1 a0)), (1, .int a1), (2, .int a2), (3, .int a3)]) dX0_addSubscription_20 (by decide) rfl ?_
    refine r_aload_n (place := 1) dX0_addSubscription_22 rfl rfl ?_
    refine r_getR dX0_addSubscription_23 fg_X0_14 ta0 ?_
    refine r_iload (place := 0) dX0_addSubscription_26 rfl ?_
    refine r_iconst dX0_addSubscription_28 xc_0 ?_
    refine r_iload_n (place := 2) dX0_addSubscription_29 rfl rfl ?_
    refine r_callVV (rest := []) dX0_addSubscription_30 m_X3_put lk_X0_108 rfl (by decide) (xt_0_0 ta0) (c_X3_put (xrf a0 0) (xt_0_0 ta0) v4 (0 : Int32) a1 h3) (by decide) rfl rfl (Nat.le_of_ble_eq_true rfl) (fun h5 => ?_)
    refine r_aload_n (place := 1) dX0_addSubscription_33 rfl rfl ?_
    refine r_getR dX0_addSubscription_34 fg_X0_14 ta0 ?_
    refine r_iload (place := 0) dX0_addSubscription_37 rfl ?_
    refine r_iconst dX0_addSubscription_39 xc_2 ?_
    refine r_iload_n (place := 4) dX0_addSubscription_40 rfl rfl ?_
    refine r_callVV (rest := []) dX0_addSubscription_41 m_X3_put lk_X0_108 rfl (by decide) (xt_0_0 ta0) (c_X3_put (xrf a0 0) (xt_0_0 ta0) v4 (2 : Int32) a3 h5) (by decide) rfl rfl (Nat.le_of_ble_eq_true rfl) (fun h6 => ?_)
    exact r_sub [1, 3, 0] rfl (t_X0_addSubscription_44 a0 a2 v4 ta0 h6)
def f_X1_shiftOf (a0 : Int32) (h : Mem) : Option (Int32 × Mem) :=
  some (((5 : Int32) * ((3 : Int32) - a0)), h)
set_option maxRecDepth 20000 in
theorem c_X1_shiftOf {G : xG} (a0 : Int32) (h : Mem) : Sm G 0 yX1_shiftOf FX1_shiftOf xcI [.int a0] h (f_X1_shiftOf a0 h) := by
  refine Sm.of pn_X1 rfl (Nat.le_of_ble_eq_true rfl) (ls := [(0, .int a0)]) rfl ?_
  unfold f_X1_shiftOf
  refine r_iconst dX1_shiftOf_0 xc_5 ?_
  refine r_iconst dX1_shiftOf_1 xc_3 ?_
  refine r_iload_n (place := 0) dX1_shiftOf_2 rfl rfl ?_
  refine r_isub dX1_shiftOf_3 ?_
  refine r_imul dX1_shiftOf_4 ?_
  exact r_iret dX1_shiftOf_5 rfl
def f_X1_levelAt (a0 : Int32) (a1 : Int32) (h : Mem) : Option (Int32 × Mem) :=
  if a1 < 0 then
      some ((0 : Int32), h)
  else
      if a1 < (4 : Int32) then
          b2 (f_X1_shiftOf a1 h) fun v2 h1 =>
          some (((a0 >>> (v2 &&& 31)) &&& (31 : Int32)), h1)
      else
          some ((0 : Int32), h)
set_option maxRecDepth 20000 in
theorem c_X1_levelAt {G : xG} (a0 : Int32) (a1 : Int32) (h : Mem) : Sm G 1 yX1_levelAt FX1_levelAt xcI [.int a0, .int a1] h (f_X1_levelAt a0 a1 h) := by
  refine Sm.of pn_X1 rfl (Nat.le_of_ble_eq_true rfl) (ls := [(0, .int a0), (1, .int a1)]) rfl ?_
  unfold f_X1_levelAt
  refine r_iload_n (place := 1) dX1_levelAt_0 rfl rfl ?_
  refine r_if_lt (tgt := 9) dX1_levelAt_1 (by decide) ?_ ?_
  · refine r_iconst dX1_levelAt_9 xc_0 ?_
    exact r_iret dX1_levelAt_10 rfl
  · refine r_iload_n (place := 1) dX1_levelAt_4 rfl rfl ?_
    refine r_iconst dX1_levelAt_5 xc_4 ?_
    refine r_ic_lt (tgt := 11) dX1_levelAt_6 (by decide) ?_ ?_
    · refine r_iload_n (place := 0) dX1_levelAt_11 rfl rfl ?_
      refine r_iload_n (place := 1) dX1_levelAt_12 rfl rfl ?_
      refine r_callSI (rest := [.int a0]) dX1_levelAt_13 m_X1_shiftOf lk_X1_11 (c_X1_shiftOf a1 h) (by decide) rfl rfl (Nat.le_of_ble_eq_true rfl) (fun v2 h1 => ?_)
      refine r_ishr dX1_levelAt_16 ?_
      refine r_bipush dX1_levelAt_17 xb_31 ?_
      refine r_iand dX1_levelAt_19 ?_
      exact r_iret dX1_levelAt_20 rfl
    · refine r_iconst dX1_levelAt_9 xc_0 ?_
      exact r_iret dX1_levelAt_10 rfl
def f_X1_matches_37  (a3 : Int32) (a4 : Int32) (h : Mem) : Option (Int32 × Mem) :=
  if a3 = a4 then
      some ((1 : Int32), h)
  else
      some ((0 : Int32), h)
set_option maxRecDepth 20000 in
theorem t_X1_matches_37 {G : xG}  (a3 : Int32) (a4 : Int32)  (h : Mem) : Rn G 2 FX1_matches xcI 37 [(3, .int a3), (4, .int a4)] [] h (f_X1_matches_37 a3 a4 h) := by
  unfold f_X1_matches_37
  refine r_iload_n (place := 0) dX1_matches_37 rfl rfl ?_
  refine r_iload (place := 1) dX1_matches_38 rfl ?_
  refine r_ic_ne (tgt := 47) dX1_matches_40 (by decide) ?_ ?_
  · refine r_iconst dX1_matches_47 xc_0 ?_
    exact r_zret1 dX1_matches_48 rfl (by decide)
  · refine r_iconst dX1_matches_43 xc_1 ?_
    refine r_goto (tgt := 48) dX1_matches_44 (by decide) ?_
    exact r_zret1 dX1_matches_48 rfl (by decide)
def f_X1_matches_63 (kk2 : Int32 → Int32 → Int32 → Mem → Option (Int32 × Mem)) (a0 : Int32) (a1 : Int32) (a2 : Int32) (h : Mem) : Option (Int32 × Mem) :=
  kk2 a0 a1 (a2 + (1 : Int32)) h
set_option maxRecDepth 20000 in
theorem t_X1_matches_63 {G : xG} (kk2 : Int32 → Int32 → Int32 → Mem → Option (Int32 × Mem)) (hk2 : ∀ (a0 : Int32) (a1 : Int32) (a2 : Int32)  (h : Mem), Rn G 2 FX1_matches xcI 2 [(0, .int a0), (1, .int a1), (2, .int a2)] [] h (kk2 a0 a1 a2 h)) (a0 : Int32) (a1 : Int32) (a2 : Int32)  (h : Mem) : Rn G 2 FX1_matches xcI 63 [(0, .int a0), (1, .int a1), (2, .int a2)] [] h (f_X1_matches_63 kk2 a0 a1 a2 h) := by
  unfold f_X1_matches_63
  refine r_iincC (place := 2) (ls' := [(2, .int (a2 + (1 : Int32))), (0, .int a0), (1, .int a1)]) dX1_matches_63 rfl xc_1 (by decide) rfl ?_
  refine r_goto (tgt := 2) dX1_matches_66 (by decide) ?_
  exact r_sub [1, 2, 0] rfl (hk2 a0 a1 (a2 + (1 : Int32)) h)
def f_X1_matches_2  : Nat → Int32 → Int32 → Int32 → Mem → Option (Int32 × Mem)
  | 0, _, _, _, _ => none
  | n + 1, a0, a1, a2, h =>
    if (4 : Int32) ≤ a2 then
        some ((1 : Int32), h)
    else
        b2 (f_X1_levelAt a0 a2 h) fun v2 h1 =>
        b2 (f_X1_levelAt a1 a2 h1) fun v4 h3 =>
        if v2 = (28 : Int32) then
            some ((1 : Int32), h3)
        else
            if v2 = 0 then
                f_X1_matches_37 v2 v4 h3
            else
                if v4 = 0 then
                    f_X1_matches_37 v2 v4 h3
                else
                    if v2 = (27 : Int32) then
                        f_X1_matches_63 (f_X1_matches_2 n) a0 a1 a2 h3
                    else
                        if v2 = v4 then
                            f_X1_matches_63 (f_X1_matches_2 n) a0 a1 a2 h3
                        else
                            some ((0 : Int32), h3)
set_option maxRecDepth 20000 in
theorem t_X1_matches_2 {G : xG}  : ∀ (n : Nat) (a0 : Int32) (a1 : Int32) (a2 : Int32)  (h : Mem), Rn G 2 FX1_matches xcI 2 [(0, .int a0), (1, .int a1), (2, .int a2)] [] h (f_X1_matches_2 n a0 a1 a2 h) := by
  intro n
  induction n with
  | zero => intros; intro r hr; cases hr
  | succ n ih =>
    intro a0 a1 a2 h
    unfold f_X1_matches_2
    refine r_iload_n (place := 2) dX1_matches_2 rfl rfl ?_
    refine r_iconst dX1_matches_3 xc_4 ?_
    refine r_ic_ge (tgt := 69) dX1_matches_4 (by decide) ?_ ?_
    · refine r_iconst dX1_matches_69 xc_1 ?_
      exact r_zret1 dX1_matches_70 rfl (by decide)
    · refine r_iload_n (place := 0) dX1_matches_7 rfl rfl ?_
      refine r_iload_n (place := 2) dX1_matches_8 rfl rfl ?_
      refine r_callSI (rest := []) dX1_matches_9 m_X1_levelAt lk_X1_15 (c_X1_levelAt a0 a2 h) (by decide) rfl rfl (Nat.le_of_ble_eq_true rfl) (fun v2 h1 => ?_)
      refine r_istore_n (ls' := [(3, .int v2), (0, .int a0), (1, .int a1), (2, .int a2)]) dX1_matches_12 rfl (by decide) rfl ?_
      refine r_iload_n (place := 2) dX1_matches_13 rfl rfl ?_
      refine r_iload_n (place := 3) dX1_matches_14 rfl rfl ?_
      refine r_callSI (rest := []) dX1_matches_15 m_X1_levelAt lk_X1_15 (c_X1_levelAt a1 a2 h1) (by decide) rfl rfl (Nat.le_of_ble_eq_true rfl) (fun v4 h3 => ?_)
      refine r_istore (ls' := [(4, .int v4), (3, .int v2), (0, .int a0), (1, .int a1), (2, .int a2)]) dX1_matches_18 (by decide) rfl ?_
      refine r_iload_n (place := 1) dX1_matches_20 rfl rfl ?_
      refine r_bipush dX1_matches_21 xb_28 ?_
      refine r_ic_ne (tgt := 28) dX1_matches_23 (by decide) ?_ ?_
      · refine r_iload_n (place := 1) dX1_matches_28 rfl rfl ?_
        refine r_if_eq (tgt := 37) dX1_matches_29 (by decide) ?_ ?_
        · exact r_sub [1, 0] rfl (t_X1_matches_37 v2 v4 h3)
        · refine r_iload (place := 0) dX1_matches_32 rfl ?_
          refine r_if_ne (tgt := 49) dX1_matches_34 (by decide) ?_ ?_
          · refine r_iload_n (place := 1) dX1_matches_49 rfl rfl ?_
            refine r_bipush dX1_matches_50 xb_27 ?_
            refine r_ic_eq (tgt := 63) dX1_matches_52 (by decide) ?_ ?_
            · exact r_sub [2, 3, 4] rfl (t_X1_matches_63 (f_X1_matches_2 n) ih a0 a1 a2 h3)
            · refine r_iload_n (place := 1) dX1_matches_55 rfl rfl ?_
              refine r_iload (place := 0) dX1_matches_56 rfl ?_
              refine r_ic_eq (tgt := 63) dX1_matches_58 (by decide) ?_ ?_
              · exact r_sub [2, 3, 4] rfl (t_X1_matches_63 (f_X1_matches_2 n) ih a0 a1 a2 h3)
              · refine r_iconst dX1_matches_61 xc_0 ?_
                exact r_zret1 dX1_matches_62 rfl (by decide)
          · exact r_sub [1, 0] rfl (t_X1_matches_37 v2 v4 h3)
      · refine r_iconst dX1_matches_26 xc_1 ?_
        exact r_zret1 dX1_matches_27 rfl (by decide)
def f_X1_matches (a0 : Int32) (a1 : Int32) (h : Mem) : Option (Int32 × Mem) :=
  f_X1_matches_2 xFU a0 a1 (0 : Int32) h
set_option maxRecDepth 20000 in
theorem c_X1_matches {G : xG} (a0 : Int32) (a1 : Int32) (h : Mem) : Sm G 2 yX1_matches FX1_matches xcI [.int a0, .int a1] h (f_X1_matches a0 a1 h) := by
  refine Sm.of pn_X1 rfl (Nat.le_of_ble_eq_true rfl) (ls := [(0, .int a0), (1, .int a1)]) rfl ?_
  unfold f_X1_matches
  refine r_iconst dX1_matches_0 xc_0 ?_
  refine r_istore_n (ls' := [(2, .int (0 : Int32)), (0, .int a0), (1, .int a1)]) dX1_matches_1 rfl (by decide) rfl ?_
  exact r_sub [1, 2, 0] rfl (t_X1_matches_2 xFU a0 a1 (0 : Int32) h)
def f_X0_greatestPromise_57 (kk4 : Nat → Int32 → Int32 → Int32 → Mem → Option (Int32 × Mem)) (a0 : Nat) (a1 : Int32) (a2 : Int32) (a3 : Int32) (h : Mem) : Option (Int32 × Mem) :=
  kk4 a0 a1 a2 (a3 + (1 : Int32)) h
set_option maxRecDepth 20000 in
theorem t_X0_greatestPromise_57 {G : xG} (kk4 : Nat → Int32 → Int32 → Int32 → Mem → Option (Int32 × Mem)) (hk4 : ∀ (a0 : Nat) (a1 : Int32) (a2 : Int32) (a3 : Int32) (ta0 : xTy a0 0) (h : Mem), Rn G 3 FX0_greatestPromise xcI 4 [(0, .ref (G.1 a0)), (1, .int a1), (2, .int a2), (3, .int a3)] [] h (kk4 a0 a1 a2 a3 h)) (a0 : Nat) (a1 : Int32) (a2 : Int32) (a3 : Int32) (ta0 : xTy a0 0) (h : Mem) : Rn G 3 FX0_greatestPromise xcI 57 [(0, .ref (G.1 a0)), (1, .int a1), (2, .int a2), (3, .int a3)] [] h (f_X0_greatestPromise_57 kk4 a0 a1 a2 a3 h) := by
  unfold f_X0_greatestPromise_57
  refine r_iincC (place := 3) (ls' := [(3, .int (a3 + (1 : Int32))), (0, .ref (G.1 a0)), (1, .int a1), (2, .int a2)]) dX0_greatestPromise_57 rfl xc_1 (by decide) rfl ?_
  refine r_goto (tgt := 4) dX0_greatestPromise_60 (by decide) ?_
  exact r_sub [1, 2, 3, 0] rfl (hk4 a0 a1 a2 (a3 + (1 : Int32)) ta0 h)
def f_X0_greatestPromise_4  : Nat → Nat → Int32 → Int32 → Int32 → Mem → Option (Int32 × Mem)
  | 0, _, _, _, _, _ => none
  | n + 1, a0, a1, a2, a3, h =>
    if (h (xrf a0 0) 3) ≤ a3 then
        some (a2, h)
    else
        b2 (f_X3_cell (xrf a0 0) a3 (2 : Int32) h) fun v2 h1 =>
        if v2 = 0 then
            b2 (f_X3_cell (xrf a0 0) a3 (0 : Int32) h1) fun v4 h3 =>
            b2 (f_X1_matches v4 a1 h3) fun v6 h5 =>
            if v6 = 0 then
                f_X0_greatestPromise_57 (f_X0_greatestPromise_4 n) a0 a1 a2 a3 h5
            else
                b2 (f_X3_cell (xrf a0 0) a3 (1 : Int32) h5) fun v8 h7 =>
                f_X0_greatestPromise_57 (f_X0_greatestPromise_4 n) a0 a1 (xmax a2 v8) a3 h7
        else
            f_X0_greatestPromise_57 (f_X0_greatestPromise_4 n) a0 a1 a2 a3 h1
set_option maxRecDepth 20000 in
theorem t_X0_greatestPromise_4 {G : xG}  : ∀ (n : Nat) (a0 : Nat) (a1 : Int32) (a2 : Int32) (a3 : Int32) (ta0 : xTy a0 0) (h : Mem), Rn G 3 FX0_greatestPromise xcI 4 [(0, .ref (G.1 a0)), (1, .int a1), (2, .int a2), (3, .int a3)] [] h (f_X0_greatestPromise_4 n a0 a1 a2 a3 h) := by
  intro n
  induction n with
  | zero => intros; intro r hr; cases hr
  | succ n ih =>
    intro a0 a1 a2 a3 ta0 h
    unfold f_X0_greatestPromise_4
    refine r_iload_n (place := 3) dX0_greatestPromise_4 rfl rfl ?_
    refine r_aload_n (place := 0) dX0_greatestPromise_5 rfl rfl ?_
    refine r_getR dX0_greatestPromise_6 fg_X0_14 ta0 ?_
    refine r_getI dX0_greatestPromise_9 fg_X0_95 (xt_0_0 ta0) ?_
    refine r_ic_ge (tgt := 63) dX0_greatestPromise_12 (by decide) ?_ ?_
    · refine r_iload_n (place := 2) dX0_greatestPromise_63 rfl rfl ?_
      exact r_iret dX0_greatestPromise_64 rfl
    · refine r_aload_n (place := 0) dX0_greatestPromise_15 rfl rfl ?_
      refine r_getR dX0_greatestPromise_16 fg_X0_14 ta0 ?_
      refine r_iload_n (place := 3) dX0_greatestPromise_19 rfl rfl ?_
      refine r_iconst dX0_greatestPromise_20 xc_2 ?_
      refine r_callVI (rest := []) dX0_greatestPromise_21 m_X3_cell lk_X0_98 rfl (by decide) (xt_0_0 ta0) (c_X3_cell (xrf a0 0) (xt_0_0 ta0) a3 (2 : Int32) h) (by decide) rfl rfl (Nat.le_of_ble_eq_true rfl) (fun v2 h1 => ?_)
      refine r_if_ne (tgt := 57) dX0_greatestPromise_24 (by decide) ?_ ?_
      · exact r_sub [0, 1, 2, 3] rfl (t_X0_greatestPromise_57 (f_X0_greatestPromise_4 n) ih a0 a1 a2 a3 ta0 h1)
      · refine r_aload_n (place := 0) dX0_greatestPromise_27 rfl rfl ?_
        refine r_getR dX0_greatestPromise_28 fg_X0_14 ta0 ?_
        refine r_iload_n (place := 3) dX0_greatestPromise_31 rfl rfl ?_
        refine r_iconst dX0_greatestPromise_32 xc_0 ?_
        refine r_callVI (rest := []) dX0_greatestPromise_33 m_X3_cell lk_X0_98 rfl (by decide) (xt_0_0 ta0) (c_X3_cell (xrf a0 0) (xt_0_0 ta0) a3 (0 : Int32) h1) (by decide) rfl rfl (Nat.le_of_ble_eq_true rfl) (fun v4 h3 => ?_)
        refine r_iload_n (place := 1) dX0_greatestPromise_36 rfl rfl ?_
        refine r_callSI (rest := []) dX0_greatestPromise_37 m_X1_matches lk_X0_112 (c_X1_matches v4 a1 h3) (by decide) rfl rfl (Nat.le_of_ble_eq_true rfl) (fun v6 h5 => ?_)
        refine r_if_eq (tgt := 57) dX0_greatestPromise_40 (by decide) ?_ ?_
        · exact r_sub [0, 1, 2, 3] rfl (t_X0_greatestPromise_57 (f_X0_greatestPromise_4 n) ih a0 a1 a2 a3 ta0 h5)
        · refine r_iload_n (place := 2) dX0_greatestPromise_43 rfl rfl ?_
          refine r_aload_n (place := 0) dX0_greatestPromise_44 rfl rfl ?_
          refine r_getR dX0_greatestPromise_45 fg_X0_14 ta0 ?_
          refine r_iload_n (place := 3) dX0_greatestPromise_48 rfl rfl ?_
          refine r_iconst dX0_greatestPromise_49 xc_1 ?_
          refine r_callVI (rest := [.int a2]) dX0_greatestPromise_50 m_X3_cell lk_X0_98 rfl (by decide) (xt_0_0 ta0) (c_X3_cell (xrf a0 0) (xt_0_0 ta0) a3 (1 : Int32) h5) (by decide) rfl rfl (Nat.le_of_ble_eq_true rfl) (fun v8 h7 => ?_)
          refine r_mmax dX0_greatestPromise_53 sp_X0_116 (by decide) (Nat.le_of_ble_eq_true rfl) ?_
          refine r_istore_n (ls' := [(2, .int (xmax a2 v8)), (0, .ref (G.1 a0)), (1, .int a1), (3, .int a3)]) dX0_greatestPromise_56 rfl (by decide) rfl ?_
          exact r_sub [1, 2, 0, 3] rfl (t_X0_greatestPromise_57 (f_X0_greatestPromise_4 n) ih a0 a1 (xmax a2 v8) a3 ta0 h7)
def f_X0_greatestPromise (a0 : Nat) (a1 : Int32) (h : Mem) : Option (Int32 × Mem) :=
  f_X0_greatestPromise_4 xFU a0 a1 (-1 : Int32) (0 : Int32) h
set_option maxRecDepth 20000 in
theorem c_X0_greatestPromise {G : xG} (a0 : Nat) (ta0 : xTy a0 0) (a1 : Int32) (h : Mem) : Sm G 3 yX0_greatestPromise FX0_greatestPromise xcI [.ref (G.1 a0), .int a1] h (f_X0_greatestPromise a0 a1 h) := by
  refine Sm.of pn_X0 rfl (Nat.le_of_ble_eq_true rfl) (ls := [(0, .ref (G.1 a0)), (1, .int a1)]) rfl ?_
  unfold f_X0_greatestPromise
  refine r_iconst dX0_greatestPromise_0 xc_m1 ?_
  refine r_istore_n (ls' := [(2, .int (-1 : Int32)), (0, .ref (G.1 a0)), (1, .int a1)]) dX0_greatestPromise_1 rfl (by decide) rfl ?_
  refine r_iconst dX0_greatestPromise_2 xc_0 ?_
  refine r_istore_n (ls' := [(3, .int (0 : Int32)), (2, .int (-1 : Int32)), (0, .ref (G.1 a0)), (1, .int a1)]) dX0_greatestPromise_3 rfl (by decide) rfl ?_
  exact r_sub [2, 3, 1, 0] rfl (t_X0_greatestPromise_4 xFU a0 a1 (-1 : Int32) (0 : Int32) ta0 h)
def f_X1_filterOf (a0 : Int32) (h : Mem) : Option (Int32 × Mem) :=
  some ((a0 &&& (1048575 : Int32)), h)
set_option maxRecDepth 20000 in
theorem c_X1_filterOf {G : xG} (a0 : Int32) (h : Mem) : Sm G 0 yX1_filterOf FX1_filterOf xcI [.int a0] h (f_X1_filterOf a0 h) := by
  refine Sm.of pn_X1 rfl (Nat.le_of_ble_eq_true rfl) (ls := [(0, .int a0)]) rfl ?_
  unfold f_X1_filterOf
  refine r_iload_n (place := 0) dX1_filterOf_0 rfl rfl ?_
  refine r_ldc dX1_filterOf_1 li_X1_22 ?_
  refine r_iand dX1_filterOf_3 ?_
  exact r_iret dX1_filterOf_4 rfl
def f_X1_groupOf (a0 : Int32) (h : Mem) : Option (Int32 × Mem) :=
  some ((a0 >>> ((20 : Int32) &&& 31)), h)
set_option maxRecDepth 20000 in
theorem c_X1_groupOf {G : xG} (a0 : Int32) (h : Mem) : Sm G 0 yX1_groupOf FX1_groupOf xcI [.int a0] h (f_X1_groupOf a0 h) := by
  refine Sm.of pn_X1 rfl (Nat.le_of_ble_eq_true rfl) (ls := [(0, .int a0)]) rfl ?_
  unfold f_X1_groupOf
  refine r_iload_n (place := 0) dX1_groupOf_0 rfl rfl ?_
  refine r_bipush dX1_groupOf_1 xb_20 ?_
  refine r_ishr dX1_groupOf_3 ?_
  exact r_iret dX1_groupOf_4 rfl
def f_X0_findShare (a0 : Nat) (a1 : Int32) (h : Mem) : Option (Int32 × Mem) :=
  b2 (f_X1_filterOf a1 h) fun v2 h1 =>
  b2 (f_X1_groupOf a1 h1) fun v4 h3 =>
  b2 (f_X0_findSubscription a0 v2 v4 h3) fun v6 h5 =>
  some (v6, h5)
set_option maxRecDepth 20000 in
theorem c_X0_findShare {G : xG} (a0 : Nat) (ta0 : xTy a0 0) (a1 : Int32) (h : Mem) : Sm G 2 yX0_findShare FX0_findShare xcI [.ref (G.1 a0), .int a1] h (f_X0_findShare a0 a1 h) := by
  refine Sm.of pn_X0 rfl (Nat.le_of_ble_eq_true rfl) (ls := [(0, .ref (G.1 a0)), (1, .int a1)]) rfl ?_
  unfold f_X0_findShare
  refine r_aload_n (place := 0) dX0_findShare_0 rfl rfl ?_
  refine r_iload_n (place := 1) dX0_findShare_1 rfl rfl ?_
  refine r_callSI (rest := [.ref (G.1 a0)]) dX0_findShare_2 m_X1_filterOf lk_X0_121 (c_X1_filterOf a1 h) (by decide) rfl rfl (Nat.le_of_ble_eq_true rfl) (fun v2 h1 => ?_)
  refine r_iload_n (place := 1) dX0_findShare_5 rfl rfl ?_
  refine r_callSI (rest := [.int v2, .ref (G.1 a0)]) dX0_findShare_6 m_X1_groupOf lk_X0_125 (c_X1_groupOf a1 h1) (by decide) rfl rfl (Nat.le_of_ble_eq_true rfl) (fun v4 h3 => ?_)
  refine r_callVI (rest := []) dX0_findShare_9 m_X0_findSubscription lk_X0_102 rfl (by decide) ta0 (c_X0_findSubscription a0 ta0 v2 v4 h3) (by decide) rfl rfl (Nat.le_of_ble_eq_true rfl) (fun v6 h5 => ?_)
  exact r_iret dX0_findShare_12 rfl
def f_X0_queued (a0 : Nat) (h : Mem) : Option (Int32 × Mem) :=
  some (((h (xrf a0 2) 3) - (h a0 11)), h)
set_option maxRecDepth 20000 in
theorem c_X0_queued {G : xG} (a0 : Nat) (ta0 : xTy a0 0) (h : Mem) : Sm G 0 yX0_queued FX0_queued xcI [.ref (G.1 a0)] h (f_X0_queued a0 h) := by
  refine Sm.of pn_X0 rfl (Nat.le_of_ble_eq_true rfl) (ls := [(0, .ref (G.1 a0))]) rfl ?_
  unfold f_X0_queued
  refine r_aload_n (place := 0) dX0_queued_0 rfl rfl ?_
  refine r_getR dX0_queued_1 fg_X0_24 ta0 ?_
  refine r_getI dX0_queued_4 fg_X0_95 (xt_0_2 ta0) ?_
  refine r_aload_n (place := 0) dX0_queued_7 rfl rfl ?_
  refine r_getI dX0_queued_8 fg_X0_77 ta0 ?_
  refine r_isub dX0_queued_11 ?_
  exact r_iret dX0_queued_12 rfl
def f_X7_flag (a0 : Int32) (h : Mem) : Option (Int32 × Mem) :=
  if a0 = 0 then
      some ((0 : Int32), h)
  else
      some ((1 : Int32), h)
set_option maxRecDepth 20000 in
theorem c_X7_flag {G : xG} (a0 : Int32) (h : Mem) : Sm G 0 yX7_flag FX7_flag xcI [.int a0] h (f_X7_flag a0 h) := by
  refine Sm.of pn_X7 rfl (Nat.le_of_ble_eq_true rfl) (ls := [(0, .int a0)]) rfl ?_
  unfold f_X7_flag
  refine r_iload_n (place := 0) dX7_flag_0 rfl rfl ?_
  refine r_if_eq (tgt := 8) dX7_flag_1 (by decide) ?_ ?_
  · refine r_iconst dX7_flag_8 xc_0 ?_
    exact r_iret dX7_flag_9 rfl
  · refine r_iconst dX7_flag_4 xc_1 ?_
    refine r_goto (tgt := 9) dX7_flag_5 (by decide) ?_
    exact r_iret dX7_flag_9 rfl
def f_X0_receiveAtMostOnce (a0 : Nat) (a1 : Int32) (a2 : Int32) (a3 : Int32) (h : Mem) : Option (Unit × Mem) :=
  if (h a0 8) = (1 : Int32) then
      b2 (f_X3_open (xrf a0 3) h) fun v2 h1 =>
      b2 (f_X3_put (xrf a0 3) v2 (0 : Int32) (0 : Int32) h1) fun _ h3 =>
      b2 (f_X3_put (xrf a0 3) v2 (2 : Int32) a1 h3) fun _ h4 =>
      b2 (f_X3_put (xrf a0 3) v2 (4 : Int32) a2 h4) fun _ h5 =>
      b2 (f_X7_flag a3 h5) fun v7 h6 =>
      b2 (f_X3_put (xrf a0 3) v2 (5 : Int32) v7 h6) fun _ h8 =>
      some ((), h8)
  else
      mlet (mu h a0 14 ((h a0 14) + (1 : Int32))) fun h9 =>
      some ((), h9)
set_option maxRecDepth 20000 in
theorem c_X0_receiveAtMostOnce {G : xG} (a0 : Nat) (ta0 : xTy a0 0) (a1 : Int32) (a2 : Int32) (a3 : Int32) (h : Mem) : Sm G 1 yX0_receiveAtMostOnce FX0_receiveAtMostOnce xcV [.ref (G.1 a0), .int a1, .int a2, .int a3] h (f_X0_receiveAtMostOnce a0 a1 a2 a3 h) := by
  refine Sm.of pn_X0 rfl (Nat.le_of_ble_eq_true rfl) (ls := [(0, .ref (G.1 a0)), (1, .int a1), (2, .int a2), (3, .int a3)]) rfl ?_
  unfold f_X0_receiveAtMostOnce
  refine r_aload_n (place := 0) dX0_receiveAtMostOnce_0 rfl rfl ?_
  refine r_getI dX0_receiveAtMostOnce_1 fg_X0_68 ta0 ?_
  refine r_iconst dX0_receiveAtMostOnce_4 xc_1 ?_
  refine r_ic_eq (tgt := 19) dX0_receiveAtMostOnce_5 (by decide) ?_ ?_
  · refine r_aload_n (place := 0) dX0_receiveAtMostOnce_19 rfl rfl ?_
    refine r_getR dX0_receiveAtMostOnce_20 fg_X0_27 ta0 ?_
    refine r_callVI (rest := []) dX0_receiveAtMostOnce_23 m_X3_open lk_X0_105 rfl (by decide) (xt_0_3 ta0) (c_X3_open (xrf a0 3) (xt_0_3 ta0) h) (by decide) rfl rfl (Nat.le_of_ble_eq_true rfl) (fun v2 h1 => ?_)
    refine r_istore (ls' := [(4, .int v2), (0, .ref (G.1 a0)), (1, .int a1), (2, .int a2), (3, .int a3)]) dX0_receiveAtMostOnce_26 (by decide) rfl ?_
    refine r_aload_n (place := 1) dX0_receiveAtMostOnce_28 rfl rfl ?_
    refine r_getR dX0_receiveAtMostOnce_29 fg_X0_27 ta0 ?_
    refine r_iload (place := 0) dX0_receiveAtMostOnce_32 rfl ?_
    refine r_iconst dX0_receiveAtMostOnce_34 xc_0 ?_
    refine r_iconst dX0_receiveAtMostOnce_35 xc_0 ?_
    refine r_callVV (rest := []) dX0_receiveAtMostOnce_36 m_X3_put lk_X0_108 rfl (by decide) (xt_0_3 ta0) (c_X3_put (xrf a0 3) (xt_0_3 ta0) v2 (0 : Int32) (0 : Int32) h1) (by decide) rfl rfl (Nat.le_of_ble_eq_true rfl) (fun h3 => ?_)
    refine r_aload_n (place := 1) dX0_receiveAtMostOnce_39 rfl rfl ?_
    refine r_getR dX0_receiveAtMostOnce_40 fg_X0_27 ta0 ?_
    refine r_iload (place := 0) dX0_receiveAtMostOnce_43 rfl ?_
    refine r_iconst dX0_receiveAtMostOnce_45 xc_2 ?_
    refine r_iload_n (place := 2) dX0_receiveAtMostOnce_46 rfl rfl ?_
    refine r_callVV (rest := []) dX0_receiveAtMostOnce_47 m_X3_put lk_X0_108 rfl (by decide) (xt_0_3 ta0) (c_X3_put (xrf a0 3) (xt_0_3 ta0) v2 (2 : Int32) a1 h3) (by decide) rfl rfl (Nat.le_of_ble_eq_true rfl) (fun h4 => ?_)
    refine r_aload_n (place := 1) dX0_receiveAtMostOnce_50 rfl rfl ?_
    refine r_getR dX0_receiveAtMostOnce_51 fg_X0_27 ta0 ?_
    refine r_iload (place := 0) dX0_receiveAtMostOnce_54 rfl ?_
    refine r_iconst dX0_receiveAtMostOnce_56 xc_4 ?_
    refine r_iload_n (place := 3) dX0_receiveAtMostOnce_57 rfl rfl ?_
    refine r_callVV (rest := []) dX0_receiveAtMostOnce_58 m_X3_put lk_X0_108 rfl (by decide) (xt_0_3 ta0) (c_X3_put (xrf a0 3) (xt_0_3 ta0) v2 (4 : Int32) a2 h4) (by decide) rfl rfl (Nat.le_of_ble_eq_true rfl) (fun h5 => ?_)
    refine r_aload_n (place := 1) dX0_receiveAtMostOnce_61 rfl rfl ?_
    refine r_getR dX0_receiveAtMostOnce_62 fg_X0_27 ta0 ?_
    refine r_iload (place := 0) dX0_receiveAtMostOnce_65 rfl ?_
    refine r_iconst dX0_receiveAtMostOnce_67 xc_5 ?_
    refine r_iload_n (place := 4) dX0_receiveAtMostOnce_68 rfl rfl ?_
    refine r_callSI (rest := [.int (5 : Int32), .int v2, .ref (G.1 (xrf a0 3))]) dX0_receiveAtMostOnce_69 m_X7_flag lk_X0_135 (c_X7_flag a3 h5) (by decide) rfl rfl (Nat.le_of_ble_eq_true rfl) (fun v7 h6 => ?_)
    refine r_callVV (rest := []) dX0_receiveAtMostOnce_72 m_X3_put lk_X0_108 rfl (by decide) (xt_0_3 ta0) (c_X3_put (xrf a0 3) (xt_0_3 ta0) v2 (5 : Int32) v7 h6) (by decide) rfl rfl (Nat.le_of_ble_eq_true rfl) (fun h8 => ?_)
    exact r_ret dX0_receiveAtMostOnce_75 rfl
  · refine r_aload_n (place := 0) dX0_receiveAtMostOnce_8 rfl rfl ?_
    refine r_dup dX0_receiveAtMostOnce_9 rfl ?_
    refine r_getI dX0_receiveAtMostOnce_10 fg_X0_59 ta0 ?_
    refine r_iconst dX0_receiveAtMostOnce_13 xc_1 ?_
    refine r_iadd dX0_receiveAtMostOnce_14 ?_
    refine r_putI dX0_receiveAtMostOnce_15 fp_X0_59 ta0 ?_
    refine r_mem (fun h9 => ?_)
    exact r_ret dX0_receiveAtMostOnce_18 rfl
def f_X0_receive (a0 : Nat) (a1 : Int32) (a2 : Int32) (a3 : Int32) (a4 : Int32) (h : Mem) : Option (Unit × Mem) :=
  mlet (mu h a0 13 ((h a0 13) + (1 : Int32))) fun h1 =>
  if a3 = 0 then
      b2 (f_X0_receiveAtMostOnce a0 a1 a2 a4 h1) fun _ h14 =>
      some ((), h14)
  else
      b2 (f_X0_queued a0 h1) fun v3 h2 =>
      if v3 < (12 : Int32) then
          b2 (f_X3_open (xrf a0 2) h2) fun v5 h4 =>
          b2 (f_X3_put (xrf a0 2) v5 (1 : Int32) a1 h4) fun _ h6 =>
          b2 (f_X3_put (xrf a0 2) v5 (2 : Int32) a3 h6) fun _ h7 =>
          b2 (f_X3_put (xrf a0 2) v5 (3 : Int32) a2 h7) fun _ h8 =>
          b2 (f_X7_flag a4 h8) fun v10 h9 =>
          b2 (f_X3_put (xrf a0 2) v5 (5 : Int32) v10 h9) fun _ h11 =>
          b2 (f_X0_launchQueued a0 h11) fun _ h12 =>
          some ((), h12)
      else
          mlet (mu h2 a0 14 ((h2 a0 14) + (1 : Int32))) fun h13 =>
          some ((), h13)
set_option maxRecDepth 20000 in
theorem c_X0_receive {G : xG} (a0 : Nat) (ta0 : xTy a0 0) (a1 : Int32) (a2 : Int32) (a3 : Int32) (a4 : Int32) (h : Mem) : Sm G 3 yX0_receive FX0_receive xcV [.ref (G.1 a0), .int a1, .int a2, .int a3, .int a4] h (f_X0_receive a0 a1 a2 a3 a4 h) := by
  refine Sm.of pn_X0 rfl (Nat.le_of_ble_eq_true rfl) (ls := [(0, .ref (G.1 a0)), (1, .int a1), (2, .int a2), (3, .int a3), (4, .int a4)]) rfl ?_
  unfold f_X0_receive
  refine r_aload_n (place := 0) dX0_receive_0 rfl rfl ?_
  refine r_dup dX0_receive_1 rfl ?_
  refine r_getI dX0_receive_2 fg_X0_55 ta0 ?_
  refine r_iconst dX0_receive_5 xc_1 ?_
  refine r_iadd dX0_receive_6 ?_
  refine r_putI dX0_receive_7 fp_X0_55 ta0 ?_
  refine r_mem (fun h1 => ?_)
  refine r_iload_n (place := 3) dX0_receive_10 rfl rfl ?_
  refine r_if_ne (tgt := 25) dX0_receive_11 (by decide) ?_ ?_
  · refine r_aload_n (place := 0) dX0_receive_25 rfl rfl ?_
    refine r_callVI (rest := []) dX0_receive_26 m_X0_queued lk_X0_132 rfl (by decide) ta0 (c_X0_queued a0 ta0 h1) (by decide) rfl rfl (Nat.le_of_ble_eq_true rfl) (fun v3 h2 => ?_)
    refine r_bipush dX0_receive_29 xb_12 ?_
    refine r_ic_lt (tgt := 47) dX0_receive_31 (by decide) ?_ ?_
    · refine r_aload_n (place := 0) dX0_receive_47 rfl rfl ?_
      refine r_getR dX0_receive_48 fg_X0_24 ta0 ?_
      refine r_callVI (rest := []) dX0_receive_51 m_X3_open lk_X0_105 rfl (by decide) (xt_0_2 ta0) (c_X3_open (xrf a0 2) (xt_0_2 ta0) h2) (by decide) rfl rfl (Nat.le_of_ble_eq_true rfl) (fun v5 h4 => ?_)
      refine r_istore (ls' := [(5, .int v5), (0, .ref (G.1 a0)), (1, .int a1), (2, .int a2), (3, .int a3), (4, .int a4)]) dX0_receive_54 (by decide) rfl ?_
      refine r_aload_n (place := 1) dX0_receive_56 rfl rfl ?_
      refine r_getR dX0_receive_57 fg_X0_24 ta0 ?_
      refine r_iload (place := 0) dX0_receive_60 rfl ?_
      refine r_iconst dX0_receive_62 xc_1 ?_
      refine r_iload_n (place := 2) dX0_receive_63 rfl rfl ?_
      refine r_callVV (rest := []) dX0_receive_64 m_X3_put lk_X0_108 rfl (by decide) (xt_0_2 ta0) (c_X3_put (xrf a0 2) (xt_0_2 ta0) v5 (1 : Int32) a1 h4) (by decide) rfl rfl (Nat.le_of_ble_eq_true rfl) (fun h6 => ?_)
      refine r_aload_n (place := 1) dX0_receive_67 rfl rfl ?_
      refine r_getR dX0_receive_68 fg_X0_24 ta0 ?_
      refine r_iload (place := 0) dX0_receive_71 rfl ?_
      refine r_iconst dX0_receive_73 xc_2 ?_
      refine r_iload_n (place := 4) dX0_receive_74 rfl rfl ?_
      refine r_callVV (rest := []) dX0_receive_75 m_X3_put lk_X0_108 rfl (by decide) (xt_0_2 ta0) (c_X3_put (xrf a0 2) (xt_0_2 ta0) v5 (2 : Int32) a3 h6) (by decide) rfl rfl (Nat.le_of_ble_eq_true rfl) (fun h7 => ?_)
      refine r_aload_n (place := 1) dX0_receive_78 rfl rfl ?_
      refine r_getR dX0_receive_79 fg_X0_24 ta0 ?_
      refine r_iload (place := 0) dX0_receive_82 rfl ?_
      refine r_iconst dX0_receive_84 xc_3 ?_
      refine r_iload_n (place := 3) dX0_receive_85 rfl rfl ?_
      refine r_callVV (rest := []) dX0_receive_86 m_X3_put lk_X0_108 rfl (by decide) (xt_0_2 ta0) (c_X3_put (xrf a0 2) (xt_0_2 ta0) v5 (3 : Int32) a2 h7) (by decide) rfl rfl (Nat.le_of_ble_eq_true rfl) (fun h8 => ?_)
      refine r_aload_n (place := 1) dX0_receive_89 rfl rfl ?_
      refine r_getR dX0_receive_90 fg_X0_24 ta0 ?_
      refine r_iload (place := 0) dX0_receive_93 rfl ?_
      refine r_iconst dX0_receive_95 xc_5 ?_
      refine r_iload (place := 5) dX0_receive_96 rfl ?_
      refine r_callSI (rest := [.int (5 : Int32), .int v5, .ref (G.1 (xrf a0 2))]) dX0_receive_98 m_X7_flag lk_X0_135 (c_X7_flag a4 h8) (by decide) rfl rfl (Nat.le_of_ble_eq_true rfl) (fun v10 h9 => ?_)
      refine r_callVV (rest := []) dX0_receive_101 m_X3_put lk_X0_108 rfl (by decide) (xt_0_2 ta0) (c_X3_put (xrf a0 2) (xt_0_2 ta0) v5 (5 : Int32) v10 h9) (by decide) rfl rfl (Nat.le_of_ble_eq_true rfl) (fun h11 => ?_)
      refine r_aload_n (place := 1) dX0_receive_104 rfl rfl ?_
      refine r_callVV (rest := []) dX0_receive_105 m_X0_launchQueued lk_X0_92 rfl (by decide) ta0 (c_X0_launchQueued a0 ta0 h11) (by decide) rfl rfl (Nat.le_of_ble_eq_true rfl) (fun h12 => ?_)
      exact r_ret dX0_receive_108 rfl
    · refine r_aload_n (place := 0) dX0_receive_34 rfl rfl ?_
      refine r_dup dX0_receive_35 rfl ?_
      refine r_getI dX0_receive_36 fg_X0_59 ta0 ?_
      refine r_iconst dX0_receive_39 xc_1 ?_
      refine r_iadd dX0_receive_40 ?_
      refine r_putI dX0_receive_41 fp_X0_59 ta0 ?_
      refine r_mem (fun h13 => ?_)
      refine r_goto (tgt := 108) dX0_receive_44 (by decide) ?_
      exact r_ret dX0_receive_108 rfl
  · refine r_aload_n (place := 0) dX0_receive_14 rfl rfl ?_
    refine r_iload_n (place := 1) dX0_receive_15 rfl rfl ?_
    refine r_iload_n (place := 2) dX0_receive_16 rfl rfl ?_
    refine r_iload (place := 4) dX0_receive_17 rfl ?_
    refine r_callVV (rest := []) dX0_receive_19 m_X0_receiveAtMostOnce lk_X0_128 rfl (by decide) ta0 (c_X0_receiveAtMostOnce a0 ta0 a1 a2 a4 h1) (by decide) rfl rfl (Nat.le_of_ble_eq_true rfl) (fun h14 => ?_)
    refine r_goto (tgt := 108) dX0_receive_22 (by decide) ?_
    exact r_ret dX0_receive_108 rfl
def f_X3_find_16  : Nat → Nat → Int32 → Int32 → Int32 → Mem → Option (Int32 × Mem)
  | 0, _, _, _, _, _ => none
  | n + 1, a0, a1, a2, a3, h =>
    if (h a0 3) ≤ a3 then
        some ((-1 : Int32), h)
    else
        ald h (xrf a0 2) ((a3 * (h a0 1)) + a1) fun v1 =>
        if v1 = a2 then
            some (a3, h)
        else
            (f_X3_find_16 n) a0 a1 a2 (a3 + (1 : Int32)) h
set_option maxRecDepth 20000 in
theorem t_X3_find_16 {G : xG}  : ∀ (n : Nat) (a0 : Nat) (a1 : Int32) (a2 : Int32) (a3 : Int32) (ta0 : xTy a0 2) (h : Mem), Rn G 0 FX3_find xcI 16 [(0, .ref (G.1 a0)), (1, .int a1), (2, .int a2), (3, .int a3)] [] h (f_X3_find_16 n a0 a1 a2 a3 h) := by
  intro n
  induction n with
  | zero => intros; intro r hr; cases hr
  | succ n ih =>
    intro a0 a1 a2 a3 ta0 h
    unfold f_X3_find_16
    refine r_iload_n (place := 3) dX3_find_16 rfl rfl ?_
    refine r_aload_n (place := 0) dX3_find_17 rfl rfl ?_
    refine r_getI dX3_find_18 fg_X3_26 ta0 ?_
    refine r_ic_ge (tgt := 49) dX3_find_21 (by decide) ?_ ?_
    · refine r_iconst dX3_find_49 xc_m1 ?_
      exact r_iret dX3_find_50 rfl
    · refine r_aload_n (place := 0) dX3_find_24 rfl rfl ?_
      refine r_getR dX3_find_25 fg_X3_22 ta0 ?_
      refine r_iload_n (place := 3) dX3_find_28 rfl rfl ?_
      refine r_aload_n (place := 0) dX3_find_29 rfl rfl ?_
      refine r_getI dX3_find_30 fg_X3_19 ta0 ?_
      refine r_imul dX3_find_33 ?_
      refine r_iload_n (place := 1) dX3_find_34 rfl rfl ?_
      refine r_iadd dX3_find_35 ?_
      refine r_iald dX3_find_36 (xt_2_2 ta0) (fun v1 => ?_)
      refine r_iload_n (place := 2) dX3_find_37 rfl rfl ?_
      refine r_ic_ne (tgt := 43) dX3_find_38 (by decide) ?_ ?_
      · refine r_iincC (place := 3) (ls' := [(3, .int (a3 + (1 : Int32))), (0, .ref (G.1 a0)), (1, .int a1), (2, .int a2)]) dX3_find_43 rfl xc_1 (by decide) rfl ?_
        refine r_goto (tgt := 16) dX3_find_46 (by decide) ?_
        exact r_sub [1, 2, 3, 0] rfl (ih a0 a1 a2 (a3 + (1 : Int32)) ta0 h)
      · refine r_iload_n (place := 3) dX3_find_41 rfl rfl ?_
        exact r_iret dX3_find_42 rfl
def f_X3_find (a0 : Nat) (a1 : Int32) (a2 : Int32) (h : Mem) : Option (Int32 × Mem) :=
  if a1 < 0 then
      some ((-1 : Int32), h)
  else
      if a1 < (h a0 1) then
          f_X3_find_16 xFU a0 a1 a2 (0 : Int32) h
      else
          some ((-1 : Int32), h)
set_option maxRecDepth 20000 in
theorem c_X3_find {G : xG} (a0 : Nat) (ta0 : xTy a0 2) (a1 : Int32) (a2 : Int32) (h : Mem) : Sm G 0 yX3_find FX3_find xcI [.ref (G.1 a0), .int a1, .int a2] h (f_X3_find a0 a1 a2 h) := by
  refine Sm.of pn_X3 rfl (Nat.le_of_ble_eq_true rfl) (ls := [(0, .ref (G.1 a0)), (1, .int a1), (2, .int a2)]) rfl ?_
  unfold f_X3_find
  refine r_iload_n (place := 1) dX3_find_0 rfl rfl ?_
  refine r_if_lt (tgt := 12) dX3_find_1 (by decide) ?_ ?_
  · refine r_iconst dX3_find_12 xc_m1 ?_
    exact r_iret dX3_find_13 rfl
  · refine r_iload_n (place := 1) dX3_find_4 rfl rfl ?_
    refine r_aload_n (place := 0) dX3_find_5 rfl rfl ?_
    refine r_getI dX3_find_6 fg_X3_19 ta0 ?_
    refine r_ic_lt (tgt := 14) dX3_find_9 (by decide) ?_ ?_
    · refine r_iconst dX3_find_14 xc_0 ?_
      refine r_istore_n (ls' := [(3, .int (0 : Int32)), (0, .ref (G.1 a0)), (1, .int a1), (2, .int a2)]) dX3_find_15 rfl (by decide) rfl ?_
      exact r_sub [1, 2, 3, 0] rfl (t_X3_find_16 xFU a0 a1 a2 (0 : Int32) ta0 h)
    · refine r_iconst dX3_find_12 xc_m1 ?_
      exact r_iret dX3_find_13 rfl
def f_X3_remove (a0 : Nat) (a1 : Int32) (h : Mem) : Option (Unit × Mem) :=
  if a1 < 0 then
      some ((), h)
  else
      if a1 < (h a0 3) then
          acp h (xrf a0 2) ((a1 + (1 : Int32)) * (h a0 1)) (xrf a0 2) (a1 * (h a0 1)) ((((h a0 3) - (1 : Int32)) - a1) * (h a0 1)) fun h1 =>
          mlet (mu h1 a0 3 ((h1 a0 3) - (1 : Int32))) fun h2 =>
          some ((), h2)
      else
          some ((), h)
set_option maxRecDepth 20000 in
theorem c_X3_remove {G : xG} (a0 : Nat) (ta0 : xTy a0 2) (a1 : Int32) (h : Mem) : Sm G 1 yX3_remove FX3_remove xcV [.ref (G.1 a0), .int a1] h (f_X3_remove a0 a1 h) := by
  refine Sm.of pn_X3 rfl (Nat.le_of_ble_eq_true rfl) (ls := [(0, .ref (G.1 a0)), (1, .int a1)]) rfl ?_
  unfold f_X3_remove
  refine r_iload_n (place := 1) dX3_remove_0 rfl rfl ?_
  refine r_if_lt (tgt := 12) dX3_remove_1 (by decide) ?_ ?_
  · exact r_ret dX3_remove_12 rfl
  · refine r_iload_n (place := 1) dX3_remove_4 rfl rfl ?_
    refine r_aload_n (place := 0) dX3_remove_5 rfl rfl ?_
    refine r_getI dX3_remove_6 fg_X3_26 ta0 ?_
    refine r_ic_lt (tgt := 13) dX3_remove_9 (by decide) ?_ ?_
    · refine r_aload_n (place := 0) dX3_remove_13 rfl rfl ?_
      refine r_getR dX3_remove_14 fg_X3_22 ta0 ?_
      refine r_iload_n (place := 1) dX3_remove_17 rfl rfl ?_
      refine r_iconst dX3_remove_18 xc_1 ?_
      refine r_iadd dX3_remove_19 ?_
      refine r_aload_n (place := 0) dX3_remove_20 rfl rfl ?_
      refine r_getI dX3_remove_21 fg_X3_19 ta0 ?_
      refine r_imul dX3_remove_24 ?_
      refine r_aload_n (place := 0) dX3_remove_25 rfl rfl ?_
      refine r_getR dX3_remove_26 fg_X3_22 ta0 ?_
      refine r_iload_n (place := 1) dX3_remove_29 rfl rfl ?_
      refine r_aload_n (place := 0) dX3_remove_30 rfl rfl ?_
      refine r_getI dX3_remove_31 fg_X3_19 ta0 ?_
      refine r_imul dX3_remove_34 ?_
      refine r_aload_n (place := 0) dX3_remove_35 rfl rfl ?_
      refine r_getI dX3_remove_36 fg_X3_26 ta0 ?_
      refine r_iconst dX3_remove_39 xc_1 ?_
      refine r_isub dX3_remove_40 ?_
      refine r_iload_n (place := 1) dX3_remove_41 rfl rfl ?_
      refine r_isub dX3_remove_42 ?_
      refine r_aload_n (place := 0) dX3_remove_43 rfl rfl ?_
      refine r_getI dX3_remove_44 fg_X3_19 ta0 ?_
      refine r_imul dX3_remove_47 ?_
      refine r_acp dX3_remove_48 sp_X3_29 (xt_2_2 ta0) (xt_2_2 ta0) (by decide) (by decide) (fun h1 => ?_)
      refine r_aload_n (place := 0) dX3_remove_51 rfl rfl ?_
      refine r_dup dX3_remove_52 rfl ?_
      refine r_getI dX3_remove_53 fg_X3_26 ta0 ?_
      refine r_iconst dX3_remove_56 xc_1 ?_
      refine r_isub dX3_remove_57 ?_
      refine r_putI dX3_remove_58 fp_X3_26 ta0 ?_
      refine r_mem (fun h2 => ?_)
      exact r_ret dX3_remove_61 rfl
    · exact r_ret dX3_remove_12 rfl
def f_X0_carryUp_116  (a0 : Nat) (a3 : Int32) (h : Mem) : Option (Unit × Mem) :=
  b2 (f_X3_remove (xrf a0 2) a3 h) fun _ h1 =>
  mlet (mu h1 a0 11 ((h1 a0 11) - (1 : Int32))) fun h2 =>
  mlet (mu h2 a0 16 ((h2 a0 16) + (1 : Int32))) fun h3 =>
  b2 (f_X0_launchQueued a0 h3) fun _ h4 =>
  some ((), h4)
set_option maxRecDepth 20000 in
theorem t_X0_carryUp_116 {G : xG}  (a0 : Nat) (a3 : Int32) (ta0 : xTy a0 0) (h : Mem) : Rn G 3 FX0_carryUp xcV 116 [(0, .ref (G.1 a0)), (3, .int a3)] [] h (f_X0_carryUp_116 a0 a3 h) := by
  unfold f_X0_carryUp_116
  refine r_aload_n (place := 0) dX0_carryUp_116 rfl rfl ?_
  refine r_getR dX0_carryUp_117 fg_X0_24 ta0 ?_
  refine r_iload_n (place := 1) dX0_carryUp_120 rfl rfl ?_
  refine r_callVV (rest := []) dX0_carryUp_121 m_X3_remove lk_X0_160 rfl (by decide) (xt_0_2 ta0) (c_X3_remove (xrf a0 2) (xt_0_2 ta0) a3 h) (by decide) rfl rfl (Nat.le_of_ble_eq_true rfl) (fun h1 => ?_)
  refine r_aload_n (place := 0) dX0_carryUp_124 rfl rfl ?_
  refine r_dup dX0_carryUp_125 rfl ?_
  refine r_getI dX0_carryUp_126 fg_X0_77 ta0 ?_
  refine r_iconst dX0_carryUp_129 xc_1 ?_
  refine r_isub dX0_carryUp_130 ?_
  refine r_putI dX0_carryUp_131 fp_X0_77 ta0 ?_
  refine r_mem (fun h2 => ?_)
  refine r_aload_n (place := 0) dX0_carryUp_134 rfl rfl ?_
  refine r_dup dX0_carryUp_135 rfl ?_
  refine r_getI dX0_carryUp_136 fg_X0_65 ta0 ?_
  refine r_iconst dX0_carryUp_139 xc_1 ?_
  refine r_iadd dX0_carryUp_140 ?_
  refine r_putI dX0_carryUp_141 fp_X0_65 ta0 ?_
  refine r_mem (fun h3 => ?_)
  refine r_aload_n (place := 0) dX0_carryUp_144 rfl rfl ?_
  refine r_callVV (rest := []) dX0_carryUp_145 m_X0_launchQueued lk_X0_92 rfl (by decide) ta0 (c_X0_launchQueued a0 ta0 h3) (by decide) rfl rfl (Nat.le_of_ble_eq_true rfl) (fun h4 => ?_)
  exact r_ret dX0_carryUp_148 rfl
def f_X0_carryUp_106  (a0 : Nat) (a1 : Int32) (a3 : Int32) (a5 : Int32) (h : Mem) : Option (Unit × Mem) :=
  if a1 = (4 : Int32) then
      if a5 = 0 then
          some ((), h)
      else
          f_X0_carryUp_116 a0 a3 h
  else
      some ((), h)
set_option maxRecDepth 20000 in
theorem t_X0_carryUp_106 {G : xG}  (a0 : Nat) (a1 : Int32) (a3 : Int32) (a5 : Int32) (ta0 : xTy a0 0) (h : Mem) : Rn G 3 FX0_carryUp xcV 106 [(0, .ref (G.1 a0)), (1, .int a1), (3, .int a3), (5, .int a5)] [] h (f_X0_carryUp_106 a0 a1 a3 a5 h) := by
  unfold f_X0_carryUp_106
  refine r_iload_n (place := 1) dX0_carryUp_106 rfl rfl ?_
  refine r_iconst dX0_carryUp_107 xc_4 ?_
  refine r_ic_ne (tgt := 148) dX0_carryUp_108 (by decide) ?_ ?_
  · exact r_ret dX0_carryUp_148 rfl
  · refine r_iload (place := 3) dX0_carryUp_111 rfl ?_
    refine r_if_eq (tgt := 148) dX0_carryUp_113 (by decide) ?_ ?_
    · exact r_ret dX0_carryUp_148 rfl
    · exact r_sub [0, 2] rfl (t_X0_carryUp_116 a0 a3 ta0 h)
def f_X0_carryUp_96  (a0 : Nat) (a1 : Int32) (a3 : Int32) (a4 : Int32) (a5 : Int32) (h : Mem) : Option (Unit × Mem) :=
  if a1 = (1 : Int32) then
      if a4 = 0 then
          f_X0_carryUp_116 a0 a3 h
      else
          f_X0_carryUp_106 a0 a1 a3 a5 h
  else
      f_X0_carryUp_106 a0 a1 a3 a5 h
set_option maxRecDepth 20000 in
theorem t_X0_carryUp_96 {G : xG}  (a0 : Nat) (a1 : Int32) (a3 : Int32) (a4 : Int32) (a5 : Int32) (ta0 : xTy a0 0) (h : Mem) : Rn G 3 FX0_carryUp xcV 96 [(0, .ref (G.1 a0)), (1, .int a1), (3, .int a3), (4, .int a4), (5, .int a5)] [] h (f_X0_carryUp_96 a0 a1 a3 a4 a5 h) := by
  unfold f_X0_carryUp_96
  refine r_iload_n (place := 1) dX0_carryUp_96 rfl rfl ?_
  refine r_iconst dX0_carryUp_97 xc_1 ?_
  refine r_ic_ne (tgt := 106) dX0_carryUp_98 (by decide) ?_ ?_
  · exact r_sub [0, 1, 2, 4] rfl (t_X0_carryUp_106 a0 a1 a3 a5 ta0 h)
  · refine r_iload (place := 3) dX0_carryUp_101 rfl ?_
    refine r_if_eq (tgt := 116) dX0_carryUp_103 (by decide) ?_ ?_
    · exact r_sub [0, 2] rfl (t_X0_carryUp_116 a0 a3 ta0 h)
    · exact r_sub [0, 1, 2, 4] rfl (t_X0_carryUp_106 a0 a1 a3 a5 ta0 h)
def f_X0_carryUp_61  (a0 : Nat) (a1 : Int32) (a2 : Int32) (a3 : Int32) (a4 : Int32) (s0 : Int32) (h : Mem) : Option (Unit × Mem) :=
  if a1 = (2 : Int32) then
      if a4 = 0 then
          f_X0_carryUp_96 a0 a1 a3 a4 s0 h
      else
          b2 (f_X3_put (xrf a0 2) a3 (4 : Int32) (1 : Int32) h) fun _ h1 =>
          b2 (f_X0_sendBare a0 (xrf a0 3) (3 : Int32) a2 h1) fun _ h2 =>
          some ((), h2)
  else
      f_X0_carryUp_96 a0 a1 a3 a4 s0 h
set_option maxRecDepth 20000 in
theorem t_X0_carryUp_61 {G : xG}  (a0 : Nat) (a1 : Int32) (a2 : Int32) (a3 : Int32) (a4 : Int32) (s0 : Int32) (ta0 : xTy a0 0) (h : Mem) : Rn G 3 FX0_carryUp xcV 61 [(0, .ref (G.1 a0)), (1, .int a1), (2, .int a2), (3, .int a3), (4, .int a4)] [.int s0] h (f_X0_carryUp_61 a0 a1 a2 a3 a4 s0 h) := by
  unfold f_X0_carryUp_61
  refine r_istore (ls' := [(5, .int s0), (0, .ref (G.1 a0)), (1, .int a1), (2, .int a2), (3, .int a3), (4, .int a4)]) dX0_carryUp_61 (by decide) rfl ?_
  refine r_iload_n (place := 2) dX0_carryUp_63 rfl rfl ?_
  refine r_iconst dX0_carryUp_64 xc_2 ?_
  refine r_ic_ne (tgt := 96) dX0_carryUp_65 (by decide) ?_ ?_
  · exact r_sub [1, 2, 4, 5, 0] rfl (t_X0_carryUp_96 a0 a1 a3 a4 s0 ta0 h)
  · refine r_iload (place := 5) dX0_carryUp_68 rfl ?_
    refine r_if_eq (tgt := 96) dX0_carryUp_70 (by decide) ?_ ?_
    · exact r_sub [1, 2, 4, 5, 0] rfl (t_X0_carryUp_96 a0 a1 a3 a4 s0 ta0 h)
    · refine r_aload_n (place := 1) dX0_carryUp_73 rfl rfl ?_
      refine r_getR dX0_carryUp_74 fg_X0_24 ta0 ?_
      refine r_iload_n (place := 4) dX0_carryUp_77 rfl rfl ?_
      refine r_iconst dX0_carryUp_78 xc_4 ?_
      refine r_iconst dX0_carryUp_79 xc_1 ?_
      refine r_callVV (rest := []) dX0_carryUp_80 m_X3_put lk_X0_108 rfl (by decide) (xt_0_2 ta0) (c_X3_put (xrf a0 2) (xt_0_2 ta0) a3 (4 : Int32) (1 : Int32) h) (by decide) rfl rfl (Nat.le_of_ble_eq_true rfl) (fun h1 => ?_)
      refine r_aload_n (place := 1) dX0_carryUp_83 rfl rfl ?_
      refine r_aload_n (place := 1) dX0_carryUp_84 rfl rfl ?_
      refine r_getR dX0_carryUp_85 fg_X0_27 ta0 ?_
      refine r_iconst dX0_carryUp_88 xc_3 ?_
      refine r_iload_n (place := 3) dX0_carryUp_89 rfl rfl ?_
      refine r_callVV (rest := []) dX0_carryUp_90 m_X0_sendBare lk_X0_143 rfl (by decide) ta0 (c_X0_sendBare a0 ta0 (xrf a0 3) (xt_0_3 ta0) (3 : Int32) a2 h1) (by decide) rfl rfl (Nat.le_of_ble_eq_true rfl) (fun h2 => ?_)
      refine r_goto (tgt := 148) dX0_carryUp_93 (by decide) ?_
      exact r_ret dX0_carryUp_148 rfl
def f_X0_carryUp_41  (a0 : Nat) (a1 : Int32) (a2 : Int32) (a3 : Int32) (s0 : Int32) (h : Mem) : Option (Unit × Mem) :=
  b2 (f_X3_cell (xrf a0 2) a3 (4 : Int32) h) fun v2 h1 =>
  if v2 = (1 : Int32) then
      f_X0_carryUp_61 a0 a1 a2 a3 s0 (1 : Int32) h1
  else
      f_X0_carryUp_61 a0 a1 a2 a3 s0 (0 : Int32) h1
set_option maxRecDepth 20000 in
theorem t_X0_carryUp_41 {G : xG}  (a0 : Nat) (a1 : Int32) (a2 : Int32) (a3 : Int32) (s0 : Int32) (ta0 : xTy a0 0) (h : Mem) : Rn G 3 FX0_carryUp xcV 41 [(0, .ref (G.1 a0)), (1, .int a1), (2, .int a2), (3, .int a3)] [.int s0] h (f_X0_carryUp_41 a0 a1 a2 a3 s0 h) := by
  unfold f_X0_carryUp_41
  refine r_istore (ls' := [(4, .int s0), (0, .ref (G.1 a0)), (1, .int a1), (2, .int a2), (3, .int a3)]) dX0_carryUp_41 (by decide) rfl ?_
  refine r_aload_n (place := 1) dX0_carryUp_43 rfl rfl ?_
  refine r_getR dX0_carryUp_44 fg_X0_24 ta0 ?_
  refine r_iload_n (place := 4) dX0_carryUp_47 rfl rfl ?_
  refine r_iconst dX0_carryUp_48 xc_4 ?_
  refine r_callVI (rest := []) dX0_carryUp_49 m_X3_cell lk_X0_98 rfl (by decide) (xt_0_2 ta0) (c_X3_cell (xrf a0 2) (xt_0_2 ta0) a3 (4 : Int32) h) (by decide) rfl rfl (Nat.le_of_ble_eq_true rfl) (fun v2 h1 => ?_)
  refine r_iconst dX0_carryUp_52 xc_1 ?_
  refine r_ic_ne (tgt := 60) dX0_carryUp_53 (by decide) ?_ ?_
  · refine r_iconst dX0_carryUp_60 xc_0 ?_
    exact r_sub [1, 2, 3, 4, 0] rfl (t_X0_carryUp_61 a0 a1 a2 a3 s0 (0 : Int32) ta0 h1)
  · refine r_iconst dX0_carryUp_56 xc_1 ?_
    refine r_goto (tgt := 61) dX0_carryUp_57 (by decide) ?_
    exact r_sub [1, 2, 3, 4, 0] rfl (t_X0_carryUp_61 a0 a1 a2 a3 s0 (1 : Int32) ta0 h1)
def f_X0_carryUp (a0 : Nat) (a1 : Int32) (a2 : Int32) (h : Mem) : Option (Unit × Mem) :=
  b2 (f_X3_find (xrf a0 2) (0 : Int32) a2 h) fun v2 h1 =>
  if v2 < 0 then
      some ((), h1)
  else
      if v2 < (h1 a0 11) then
          b2 (f_X3_cell (xrf a0 2) v2 (2 : Int32) h1) fun v4 h3 =>
          if v4 = (2 : Int32) then
              f_X0_carryUp_41 a0 a1 a2 v2 (1 : Int32) h3
          else
              f_X0_carryUp_41 a0 a1 a2 v2 (0 : Int32) h3
      else
          some ((), h1)
set_option maxRecDepth 20000 in
theorem c_X0_carryUp {G : xG} (a0 : Nat) (ta0 : xTy a0 0) (a1 : Int32) (a2 : Int32) (h : Mem) : Sm G 3 yX0_carryUp FX0_carryUp xcV [.ref (G.1 a0), .int a1, .int a2] h (f_X0_carryUp a0 a1 a2 h) := by
  refine Sm.of pn_X0 rfl (Nat.le_of_ble_eq_true rfl) (ls := [(0, .ref (G.1 a0)), (1, .int a1), (2, .int a2)]) rfl ?_
  unfold f_X0_carryUp
  refine r_aload_n (place := 0) dX0_carryUp_0 rfl rfl ?_
  refine r_getR dX0_carryUp_1 fg_X0_24 ta0 ?_
  refine r_iconst dX0_carryUp_4 xc_0 ?_
  refine r_iload_n (place := 2) dX0_carryUp_5 rfl rfl ?_
  refine r_callVI (rest := []) dX0_carryUp_6 m_X3_find lk_X0_157 rfl (by decide) (xt_0_2 ta0) (c_X3_find (xrf a0 2) (xt_0_2 ta0) (0 : Int32) a2 h) (by decide) rfl rfl (Nat.le_of_ble_eq_true rfl) (fun v2 h1 => ?_)
  refine r_istore_n (ls' := [(3, .int v2), (0, .ref (G.1 a0)), (1, .int a1), (2, .int a2)]) dX0_carryUp_9 rfl (by decide) rfl ?_
  refine r_iload_n (place := 0) dX0_carryUp_10 rfl rfl ?_
  refine r_if_lt (tgt := 22) dX0_carryUp_11 (by decide) ?_ ?_
  · exact r_ret dX0_carryUp_22 rfl
  · refine r_iload_n (place := 0) dX0_carryUp_14 rfl rfl ?_
    refine r_aload_n (place := 1) dX0_carryUp_15 rfl rfl ?_
    refine r_getI dX0_carryUp_16 fg_X0_77 ta0 ?_
    refine r_ic_lt (tgt := 23) dX0_carryUp_19 (by decide) ?_ ?_
    · refine r_aload_n (place := 1) dX0_carryUp_23 rfl rfl ?_
      refine r_getR dX0_carryUp_24 fg_X0_24 ta0 ?_
      refine r_iload_n (place := 0) dX0_carryUp_27 rfl rfl ?_
      refine r_iconst dX0_carryUp_28 xc_2 ?_
      refine r_callVI (rest := []) dX0_carryUp_29 m_X3_cell lk_X0_98 rfl (by decide) (xt_0_2 ta0) (c_X3_cell (xrf a0 2) (xt_0_2 ta0) v2 (2 : Int32) h1) (by decide) rfl rfl (Nat.le_of_ble_eq_true rfl) (fun v4 h3 => ?_)
      refine r_iconst dX0_carryUp_32 xc_2 ?_
      refine r_ic_ne (tgt := 40) dX0_carryUp_33 (by decide) ?_ ?_
      · refine r_iconst dX0_carryUp_40 xc_0 ?_
        exact r_sub [1, 2, 3, 0] rfl (t_X0_carryUp_41 a0 a1 a2 v2 (0 : Int32) ta0 h3)
      · refine r_iconst dX0_carryUp_36 xc_1 ?_
        refine r_goto (tgt := 41) dX0_carryUp_37 (by decide) ?_
        exact r_sub [1, 2, 3, 0] rfl (t_X0_carryUp_41 a0 a1 a2 v2 (1 : Int32) ta0 h3)
    · exact r_ret dX0_carryUp_22 rfl
def f_X3_isFull (a0 : Nat) (h : Mem) : Option (Int32 × Mem) :=
  if (h a0 3) < (h a0 0) then
      some ((0 : Int32), h)
  else
      some ((1 : Int32), h)
set_option maxRecDepth 20000 in
theorem c_X3_isFull {G : xG} (a0 : Nat) (ta0 : xTy a0 2) (h : Mem) : Sm G 0 yX3_isFull FX3_isFull xcI [.ref (G.1 a0)] h (f_X3_isFull a0 h) := by
  refine Sm.of pn_X3 rfl (Nat.le_of_ble_eq_true rfl) (ls := [(0, .ref (G.1 a0))]) rfl ?_
  unfold f_X3_isFull
  refine r_aload_n (place := 0) dX3_isFull_0 rfl rfl ?_
  refine r_getI dX3_isFull_1 fg_X3_26 ta0 ?_
  refine r_aload_n (place := 0) dX3_isFull_4 rfl rfl ?_
  refine r_getI dX3_isFull_5 fg_X3_13 ta0 ?_
  refine r_ic_lt (tgt := 15) dX3_isFull_8 (by decide) ?_ ?_
  · refine r_iconst dX3_isFull_15 xc_0 ?_
    exact r_zret1 dX3_isFull_16 rfl (by decide)
  · refine r_iconst dX3_isFull_11 xc_1 ?_
    refine r_goto (tgt := 16) dX3_isFull_12 (by decide) ?_
    exact r_zret1 dX3_isFull_16 rfl (by decide)
def f_X0_takeFirst_28  (a0 : Nat) (h : Mem) : Option (Unit × Mem) :=
  b2 (f_X3_open (xrf a0 6) h) fun v2 h1 =>
  b2 (f_X3_cell (xrf a0 3) (0 : Int32) (2 : Int32) h1) fun v4 h3 =>
  b2 (f_X3_put (xrf a0 6) v2 (0 : Int32) v4 h3) fun _ h5 =>
  b2 (f_X3_cell (xrf a0 3) (0 : Int32) (4 : Int32) h5) fun v7 h6 =>
  b2 (f_X3_put (xrf a0 6) v2 (1 : Int32) v7 h6) fun _ h8 =>
  b2 (f_X3_cell (xrf a0 3) (0 : Int32) (3 : Int32) h8) fun v10 h9 =>
  b2 (f_X3_put (xrf a0 6) v2 (2 : Int32) v10 h9) fun _ h11 =>
  b2 (f_X3_cell (xrf a0 3) (0 : Int32) (5 : Int32) h11) fun v13 h12 =>
  b2 (f_X3_put (xrf a0 6) v2 (3 : Int32) v13 h12) fun _ h14 =>
  some ((), h14)
set_option maxRecDepth 20000 in
theorem t_X0_takeFirst_28 {G : xG}  (a0 : Nat) (ta0 : xTy a0 0) (h : Mem) : Rn G 2 FX0_takeFirst xcV 28 [(0, .ref (G.1 a0))] [] h (f_X0_takeFirst_28 a0 h) := by
  unfold f_X0_takeFirst_28
  refine r_aload_n (place := 0) dX0_takeFirst_28 rfl rfl ?_
  refine r_getR dX0_takeFirst_29 fg_X0_36 ta0 ?_
  refine r_callVI (rest := []) dX0_takeFirst_32 m_X3_open lk_X0_105 rfl (by decide) (xt_0_6 ta0) (c_X3_open (xrf a0 6) (xt_0_6 ta0) h) (by decide) rfl rfl (Nat.le_of_ble_eq_true rfl) (fun v2 h1 => ?_)
  refine r_istore_n (ls' := [(1, .int v2), (0, .ref (G.1 a0))]) dX0_takeFirst_35 rfl (by decide) rfl ?_
  refine r_aload_n (place := 1) dX0_takeFirst_36 rfl rfl ?_
  refine r_getR dX0_takeFirst_37 fg_X0_36 ta0 ?_
  refine r_iload_n (place := 0) dX0_takeFirst_40 rfl rfl ?_
  refine r_iconst dX0_takeFirst_41 xc_0 ?_
  refine r_aload_n (place := 1) dX0_takeFirst_42 rfl rfl ?_
  refine r_getR dX0_takeFirst_43 fg_X0_27 ta0 ?_
  refine r_iconst dX0_takeFirst_46 xc_0 ?_
  refine r_iconst dX0_takeFirst_47 xc_2 ?_
  refine r_callVI (rest := [.int (0 : Int32), .int v2, .ref (G.1 (xrf a0 6))]) dX0_takeFirst_48 m_X3_cell lk_X0_98 rfl (by decide) (xt_0_3 ta0) (c_X3_cell (xrf a0 3) (xt_0_3 ta0) (0 : Int32) (2 : Int32) h1) (by decide) rfl rfl (Nat.le_of_ble_eq_true rfl) (fun v4 h3 => ?_)
  refine r_callVV (rest := []) dX0_takeFirst_51 m_X3_put lk_X0_108 rfl (by decide) (xt_0_6 ta0) (c_X3_put (xrf a0 6) (xt_0_6 ta0) v2 (0 : Int32) v4 h3) (by decide) rfl rfl (Nat.le_of_ble_eq_true rfl) (fun h5 => ?_)
  refine r_aload_n (place := 1) dX0_takeFirst_54 rfl rfl ?_
  refine r_getR dX0_takeFirst_55 fg_X0_36 ta0 ?_
  refine r_iload_n (place := 0) dX0_takeFirst_58 rfl rfl ?_
  refine r_iconst dX0_takeFirst_59 xc_1 ?_
  refine r_aload_n (place := 1) dX0_takeFirst_60 rfl rfl ?_
  refine r_getR dX0_takeFirst_61 fg_X0_27 ta0 ?_
  refine r_iconst dX0_takeFirst_64 xc_0 ?_
  refine r_iconst dX0_takeFirst_65 xc_4 ?_
  refine r_callVI (rest := [.int (1 : Int32), .int v2, .ref (G.1 (xrf a0 6))]) dX0_takeFirst_66 m_X3_cell lk_X0_98 rfl (by decide) (xt_0_3 ta0) (c_X3_cell (xrf a0 3) (xt_0_3 ta0) (0 : Int32) (4 : Int32) h5) (by decide) rfl rfl (Nat.le_of_ble_eq_true rfl) (fun v7 h6 => ?_)
  refine r_callVV (rest := []) dX0_takeFirst_69 m_X3_put lk_X0_108 rfl (by decide) (xt_0_6 ta0) (c_X3_put (xrf a0 6) (xt_0_6 ta0) v2 (1 : Int32) v7 h6) (by decide) rfl rfl (Nat.le_of_ble_eq_true rfl) (fun h8 => ?_)
  refine r_aload_n (place := 1) dX0_takeFirst_72 rfl rfl ?_
  refine r_getR dX0_takeFirst_73 fg_X0_36 ta0 ?_
  refine r_iload_n (place := 0) dX0_takeFirst_76 rfl rfl ?_
  refine r_iconst dX0_takeFirst_77 xc_2 ?_
  refine r_aload_n (place := 1) dX0_takeFirst_78 rfl rfl ?_
  refine r_getR dX0_takeFirst_79 fg_X0_27 ta0 ?_
  refine r_iconst dX0_takeFirst_82 xc_0 ?_
  refine r_iconst dX0_takeFirst_83 xc_3 ?_
  refine r_callVI (rest := [.int (2 : Int32), .int v2, .ref (G.1 (xrf a0 6))]) dX0_takeFirst_84 m_X3_cell lk_X0_98 rfl (by decide) (xt_0_3 ta0) (c_X3_cell (xrf a0 3) (xt_0_3 ta0) (0 : Int32) (3 : Int32) h8) (by decide) rfl rfl (Nat.le_of_ble_eq_true rfl) (fun v10 h9 => ?_)
  refine r_callVV (rest := []) dX0_takeFirst_87 m_X3_put lk_X0_108 rfl (by decide) (xt_0_6 ta0) (c_X3_put (xrf a0 6) (xt_0_6 ta0) v2 (2 : Int32) v10 h9) (by decide) rfl rfl (Nat.le_of_ble_eq_true rfl) (fun h11 => ?_)
  refine r_aload_n (place := 1) dX0_takeFirst_90 rfl rfl ?_
  refine r_getR dX0_takeFirst_91 fg_X0_36 ta0 ?_
  refine r_iload_n (place := 0) dX0_takeFirst_94 rfl rfl ?_
  refine r_iconst dX0_takeFirst_95 xc_3 ?_
  refine r_aload_n (place := 1) dX0_takeFirst_96 rfl rfl ?_
  refine r_getR dX0_takeFirst_97 fg_X0_27 ta0 ?_
  refine r_iconst dX0_takeFirst_100 xc_0 ?_
  refine r_iconst dX0_takeFirst_101 xc_5 ?_
  refine r_callVI (rest := [.int (3 : Int32), .int v2, .ref (G.1 (xrf a0 6))]) dX0_takeFirst_102 m_X3_cell lk_X0_98 rfl (by decide) (xt_0_3 ta0) (c_X3_cell (xrf a0 3) (xt_0_3 ta0) (0 : Int32) (5 : Int32) h11) (by decide) rfl rfl (Nat.le_of_ble_eq_true rfl) (fun v13 h12 => ?_)
  refine r_callVV (rest := []) dX0_takeFirst_105 m_X3_put lk_X0_108 rfl (by decide) (xt_0_6 ta0) (c_X3_put (xrf a0 6) (xt_0_6 ta0) v2 (3 : Int32) v13 h12) (by decide) rfl rfl (Nat.le_of_ble_eq_true rfl) (fun h14 => ?_)
  exact r_ret dX0_takeFirst_108 rfl
def f_X0_takeFirst (a0 : Nat) (h : Mem) : Option (Unit × Mem) :=
  mlet (mu h a0 15 ((h a0 15) + (1 : Int32))) fun h1 =>
  b2 (f_X3_isFull (xrf a0 6) h1) fun v3 h2 =>
  if v3 = 0 then
      f_X0_takeFirst_28 a0 h2
  else
      b2 (f_X3_remove (xrf a0 6) (0 : Int32) h2) fun _ h4 =>
      f_X0_takeFirst_28 a0 h4
set_option maxRecDepth 20000 in
theorem c_X0_takeFirst {G : xG} (a0 : Nat) (ta0 : xTy a0 0) (h : Mem) : Sm G 2 yX0_takeFirst FX0_takeFirst xcV [.ref (G.1 a0)] h (f_X0_takeFirst a0 h) := by
  refine Sm.of pn_X0 rfl (Nat.le_of_ble_eq_true rfl) (ls := [(0, .ref (G.1 a0))]) rfl ?_
  unfold f_X0_takeFirst
  refine r_aload_n (place := 0) dX0_takeFirst_0 rfl rfl ?_
  refine r_dup dX0_takeFirst_1 rfl ?_
  refine r_getI dX0_takeFirst_2 fg_X0_62 ta0 ?_
  refine r_iconst dX0_takeFirst_5 xc_1 ?_
  refine r_iadd dX0_takeFirst_6 ?_
  refine r_putI dX0_takeFirst_7 fp_X0_62 ta0 ?_
  refine r_mem (fun h1 => ?_)
  refine r_aload_n (place := 0) dX0_takeFirst_10 rfl rfl ?_
  refine r_getR dX0_takeFirst_11 fg_X0_36 ta0 ?_
  refine r_callVI (rest := []) dX0_takeFirst_14 m_X3_isFull lk_X0_166 rfl (by decide) (xt_0_6 ta0) (c_X3_isFull (xrf a0 6) (xt_0_6 ta0) h1) (by decide) rfl rfl (Nat.le_of_ble_eq_true rfl) (fun v3 h2 => ?_)
  refine r_if_eq (tgt := 28) dX0_takeFirst_17 (by decide) ?_ ?_
  · exact r_sub [0] rfl (t_X0_takeFirst_28 a0 ta0 h2)
  · refine r_aload_n (place := 0) dX0_takeFirst_20 rfl rfl ?_
    refine r_getR dX0_takeFirst_21 fg_X0_36 ta0 ?_
    refine r_iconst dX0_takeFirst_24 xc_0 ?_
    refine r_callVV (rest := []) dX0_takeFirst_25 m_X3_remove lk_X0_160 rfl (by decide) (xt_0_6 ta0) (c_X3_remove (xrf a0 6) (xt_0_6 ta0) (0 : Int32) h2) (by decide) rfl rfl (Nat.le_of_ble_eq_true rfl) (fun h4 => ?_)
    exact r_sub [0] rfl (t_X0_takeFirst_28 a0 ta0 h4)
def f_X0_carryLetter_73  (a1 : Int32) (s0 : Nat) (s1 : Nat) (s2 : Int32) (h : Mem) : Option (Unit × Mem) :=
  b2 (f_X0_sendBare s0 s1 s2 a1 h) fun _ h1 =>
  some ((), h1)
set_option maxRecDepth 20000 in
theorem t_X0_carryLetter_73 {G : xG}  (a1 : Int32) (s0 : Nat) (s1 : Nat) (s2 : Int32) (ts0 : xTy s0 0) (ts1 : xTy s1 2) (h : Mem) : Rn G 3 FX0_carryLetter xcV 73 [(1, .int a1)] [.int s2, .ref (G.1 s1), .ref (G.1 s0)] h (f_X0_carryLetter_73 a1 s0 s1 s2 h) := by
  unfold f_X0_carryLetter_73
  refine r_iload_n (place := 0) dX0_carryLetter_73 rfl rfl ?_
  refine r_callVV (rest := []) dX0_carryLetter_74 m_X0_sendBare lk_X0_143 rfl (by decide) ts0 (c_X0_sendBare s0 ts0 s1 ts1 s2 a1 h) (by decide) rfl rfl (Nat.le_of_ble_eq_true rfl) (fun h1 => ?_)
  exact r_ret dX0_carryLetter_77 rfl
def f_X0_carryLetter_54  (a0 : Nat) (a1 : Int32) (a2 : Int32) (h : Mem) : Option (Unit × Mem) :=
  if a2 ≤ 0 then
      some ((), h)
  else
      if a2 = (1 : Int32) then
          f_X0_carryLetter_73 a1 a0 (xrf a0 4) (1 : Int32) h
      else
          f_X0_carryLetter_73 a1 a0 (xrf a0 4) (2 : Int32) h
set_option maxRecDepth 20000 in
theorem t_X0_carryLetter_54 {G : xG}  (a0 : Nat) (a1 : Int32) (a2 : Int32) (ta0 : xTy a0 0) (h : Mem) : Rn G 3 FX0_carryLetter xcV 54 [(0, .ref (G.1 a0)), (1, .int a1), (2, .int a2)] [] h (f_X0_carryLetter_54 a0 a1 a2 h) := by
  unfold f_X0_carryLetter_54
  refine r_iload_n (place := 2) dX0_carryLetter_54 rfl rfl ?_
  refine r_if_le (tgt := 77) dX0_carryLetter_55 (by decide) ?_ ?_
  · exact r_ret dX0_carryLetter_77 rfl
  · refine r_aload_n (place := 0) dX0_carryLetter_58 rfl rfl ?_
    refine r_aload_n (place := 0) dX0_carryLetter_59 rfl rfl ?_
    refine r_getR dX0_carryLetter_60 fg_X0_30 ta0 ?_
    refine r_iload_n (place := 2) dX0_carryLetter_63 rfl rfl ?_
    refine r_iconst dX0_carryLetter_64 xc_1 ?_
    refine r_ic_ne (tgt := 72) dX0_carryLetter_65 (by decide) ?_ ?_
    · refine r_iconst dX0_carryLetter_72 xc_2 ?_
      exact r_sub [1] rfl (t_X0_carryLetter_73 a1 a0 (xrf a0 4) (2 : Int32) ta0 (xt_0_4 ta0) h)
    · refine r_iconst dX0_carryLetter_68 xc_1 ?_
      refine r_goto (tgt := 73) dX0_carryLetter_69 (by decide) ?_
      exact r_sub [1] rfl (t_X0_carryLetter_73 a1 a0 (xrf a0 4) (1 : Int32) ta0 (xt_0_4 ta0) h)
def f_X0_carryLetter (a0 : Nat) (a1 : Int32) (h : Mem) : Option (Unit × Mem) :=
  b2 (f_X3_cell (xrf a0 3) (0 : Int32) (3 : Int32) h) fun v2 h1 =>
  if (2 : Int32) ≤ v2 then
      b2 (f_X3_find (xrf a0 5) (0 : Int32) a1 h1) fun v4 h3 =>
      if 0 ≤ v4 then
          f_X0_carryLetter_54 a0 a1 v2 h3
      else
          b2 (f_X0_takeFirst a0 h3) fun _ h5 =>
          b2 (f_X3_open (xrf a0 5) h5) fun v7 h6 =>
          b2 (f_X3_put (xrf a0 5) v7 (0 : Int32) a1 h6) fun _ h8 =>
          f_X0_carryLetter_54 a0 a1 v2 h8
  else
      b2 (f_X0_takeFirst a0 h1) fun _ h9 =>
      f_X0_carryLetter_54 a0 a1 v2 h9
set_option maxRecDepth 20000 in
theorem c_X0_carryLetter {G : xG} (a0 : Nat) (ta0 : xTy a0 0) (a1 : Int32) (h : Mem) : Sm G 3 yX0_carryLetter FX0_carryLetter xcV [.ref (G.1 a0), .int a1] h (f_X0_carryLetter a0 a1 h) := by
  refine Sm.of pn_X0 rfl (Nat.le_of_ble_eq_true rfl) (ls := [(0, .ref (G.1 a0)), (1, .int a1)]) rfl ?_
  unfold f_X0_carryLetter
  refine r_aload_n (place := 0) dX0_carryLetter_0 rfl rfl ?_
  refine r_getR dX0_carryLetter_1 fg_X0_27 ta0 ?_
  refine r_iconst dX0_carryLetter_4 xc_0 ?_
  refine r_iconst dX0_carryLetter_5 xc_3 ?_
  refine r_callVI (rest := []) dX0_carryLetter_6 m_X3_cell lk_X0_98 rfl (by decide) (xt_0_3 ta0) (c_X3_cell (xrf a0 3) (xt_0_3 ta0) (0 : Int32) (3 : Int32) h) (by decide) rfl rfl (Nat.le_of_ble_eq_true rfl) (fun v2 h1 => ?_)
  refine r_istore_n (ls' := [(2, .int v2), (0, .ref (G.1 a0)), (1, .int a1)]) dX0_carryLetter_9 rfl (by decide) rfl ?_
  refine r_iload_n (place := 0) dX0_carryLetter_10 rfl rfl ?_
  refine r_iconst dX0_carryLetter_11 xc_2 ?_
  refine r_ic_ge (tgt := 22) dX0_carryLetter_12 (by decide) ?_ ?_
  · refine r_aload_n (place := 1) dX0_carryLetter_22 rfl rfl ?_
    refine r_getR dX0_carryLetter_23 fg_X0_33 ta0 ?_
    refine r_iconst dX0_carryLetter_26 xc_0 ?_
    refine r_iload_n (place := 2) dX0_carryLetter_27 rfl rfl ?_
    refine r_callVI (rest := []) dX0_carryLetter_28 m_X3_find lk_X0_157 rfl (by decide) (xt_0_5 ta0) (c_X3_find (xrf a0 5) (xt_0_5 ta0) (0 : Int32) a1 h1) (by decide) rfl rfl (Nat.le_of_ble_eq_true rfl) (fun v4 h3 => ?_)
    refine r_if_ge (tgt := 54) dX0_carryLetter_31 (by decide) ?_ ?_
    · exact r_sub [1, 2, 0] rfl (t_X0_carryLetter_54 a0 a1 v2 ta0 h3)
    · refine r_aload_n (place := 1) dX0_carryLetter_34 rfl rfl ?_
      refine r_callVV (rest := []) dX0_carryLetter_35 m_X0_takeFirst lk_X0_163 rfl (by decide) ta0 (c_X0_takeFirst a0 ta0 h3) (by decide) rfl rfl (Nat.le_of_ble_eq_true rfl) (fun h5 => ?_)
      refine r_aload_n (place := 1) dX0_carryLetter_38 rfl rfl ?_
      refine r_getR dX0_carryLetter_39 fg_X0_33 ta0 ?_
      refine r_aload_n (place := 1) dX0_carryLetter_42 rfl rfl ?_
      refine r_getR dX0_carryLetter_43 fg_X0_33 ta0 ?_
      refine r_callVI (rest := [.ref (G.1 (xrf a0 5))]) dX0_carryLetter_46 m_X3_open lk_X0_105 rfl (by decide) (xt_0_5 ta0) (c_X3_open (xrf a0 5) (xt_0_5 ta0) h5) (by decide) rfl rfl (Nat.le_of_ble_eq_true rfl) (fun v7 h6 => ?_)
      refine r_iconst dX0_carryLetter_49 xc_0 ?_
      refine r_iload_n (place := 2) dX0_carryLetter_50 rfl rfl ?_
      refine r_callVV (rest := []) dX0_carryLetter_51 m_X3_put lk_X0_108 rfl (by decide) (xt_0_5 ta0) (c_X3_put (xrf a0 5) (xt_0_5 ta0) v7 (0 : Int32) a1 h6) (by decide) rfl rfl (Nat.le_of_ble_eq_true rfl) (fun h8 => ?_)
      exact r_sub [1, 2, 0] rfl (t_X0_carryLetter_54 a0 a1 v2 ta0 h8)
  · refine r_aload_n (place := 1) dX0_carryLetter_15 rfl rfl ?_
    refine r_callVV (rest := []) dX0_carryLetter_16 m_X0_takeFirst lk_X0_163 rfl (by decide) ta0 (c_X0_takeFirst a0 ta0 h1) (by decide) rfl rfl (Nat.le_of_ble_eq_true rfl) (fun h9 => ?_)
    refine r_goto (tgt := 54) dX0_carryLetter_19 (by decide) ?_
    exact r_sub [1, 2, 0] rfl (t_X0_carryLetter_54 a0 a1 v2 ta0 h9)
def f_X0_carryFirst (a0 : Nat) (a1 : Int32) (h : Mem) : Option (Unit × Mem) :=
  b2 (f_X0_packets a0 a1 h) fun v2 h1 =>
  tg 2 v2 <|
  b2 (f_X3_cell v2 (0 : Int32) (0 : Int32) h1) fun v4 h3 =>
  b2 (f_X3_cell v2 (0 : Int32) (1 : Int32) h3) fun v6 h5 =>
  if a1 = 0 then
      if v4 = 0 then
          b2 (f_X0_carryLetter a0 v6 h5) fun _ h11 =>
          some ((), h11)
      else
          b2 (f_X3_find (xrf a0 5) (0 : Int32) v6 h5) fun v8 h7 =>
          b2 (f_X3_remove (xrf a0 5) v8 h7) fun _ h9 =>
          b2 (f_X0_sendBare a0 (xrf a0 4) (4 : Int32) v6 h9) fun _ h10 =>
          some ((), h10)
  else
      b2 (f_X0_carryUp a0 v4 v6 h5) fun _ h12 =>
      some ((), h12)
set_option maxRecDepth 20000 in
theorem c_X0_carryFirst {G : xG} (a0 : Nat) (ta0 : xTy a0 0) (a1 : Int32) (h : Mem) : Sm G 4 yX0_carryFirst FX0_carryFirst xcV [.ref (G.1 a0), .int a1] h (f_X0_carryFirst a0 a1 h) := by
  refine Sm.of pn_X0 rfl (Nat.le_of_ble_eq_true rfl) (ls := [(0, .ref (G.1 a0)), (1, .int a1)]) rfl ?_
  unfold f_X0_carryFirst
  refine r_aload_n (place := 0) dX0_carryFirst_0 rfl rfl ?_
  refine r_iload_n (place := 1) dX0_carryFirst_1 rfl rfl ?_
  refine r_callVR (rest := []) dX0_carryFirst_2 m_X0_packets lk_X0_147 rfl (by decide) ta0 (c_X0_packets a0 ta0 a1 h) (by decide) rfl rfl (Nat.le_of_ble_eq_true rfl) (fun v2 h1 => ?_)
  refine r_tg (fun tv2 => ?_)
  refine r_astore_n (ls' := [(2, .ref (G.1 v2)), (0, .ref (G.1 a0)), (1, .int a1)]) dX0_carryFirst_5 rfl (by decide) rfl ?_
  refine r_aload_n (place := 0) dX0_carryFirst_6 rfl rfl ?_
  refine r_iconst dX0_carryFirst_7 xc_0 ?_
  refine r_iconst dX0_carryFirst_8 xc_0 ?_
  refine r_callVI (rest := []) dX0_carryFirst_9 m_X3_cell lk_X0_98 rfl (by decide) tv2 (c_X3_cell v2 tv2 (0 : Int32) (0 : Int32) h1) (by decide) rfl rfl (Nat.le_of_ble_eq_true rfl) (fun v4 h3 => ?_)
  refine r_istore_n (ls' := [(3, .int v4), (2, .ref (G.1 v2)), (0, .ref (G.1 a0)), (1, .int a1)]) dX0_carryFirst_12 rfl (by decide) rfl ?_
  refine r_aload_n (place := 1) dX0_carryFirst_13 rfl rfl ?_
  refine r_iconst dX0_carryFirst_14 xc_0 ?_
  refine r_iconst dX0_carryFirst_15 xc_1 ?_
  refine r_callVI (rest := []) dX0_carryFirst_16 m_X3_cell lk_X0_98 rfl (by decide) tv2 (c_X3_cell v2 tv2 (0 : Int32) (1 : Int32) h3) (by decide) rfl rfl (Nat.le_of_ble_eq_true rfl) (fun v6 h5 => ?_)
  refine r_istore (ls' := [(4, .int v6), (3, .int v4), (2, .ref (G.1 v2)), (0, .ref (G.1 a0)), (1, .int a1)]) dX0_carryFirst_19 (by decide) rfl ?_
  refine r_iload_n (place := 4) dX0_carryFirst_21 rfl rfl ?_
  refine r_if_eq (tgt := 35) dX0_carryFirst_22 (by decide) ?_ ?_
  · refine r_iload_n (place := 1) dX0_carryFirst_35 rfl rfl ?_
    refine r_if_ne (tgt := 48) dX0_carryFirst_36 (by decide) ?_ ?_
    · refine r_aload_n (place := 3) dX0_carryFirst_48 rfl rfl ?_
      refine r_getR dX0_carryFirst_49 fg_X0_33 ta0 ?_
      refine r_aload_n (place := 3) dX0_carryFirst_52 rfl rfl ?_
      refine r_getR dX0_carryFirst_53 fg_X0_33 ta0 ?_
      refine r_iconst dX0_carryFirst_56 xc_0 ?_
      refine r_iload (place := 0) dX0_carryFirst_57 rfl ?_
      refine r_callVI (rest := [.ref (G.1 (xrf a0 5))]) dX0_carryFirst_59 m_X3_find lk_X0_157 rfl (by decide) (xt_0_5 ta0) (c_X3_find (xrf a0 5) (xt_0_5 ta0) (0 : Int32) v6 h5) (by decide) rfl rfl (Nat.le_of_ble_eq_true rfl) (fun v8 h7 => ?_)
      refine r_callVV (rest := []) dX0_carryFirst_62 m_X3_remove lk_X0_160 rfl (by decide) (xt_0_5 ta0) (c_X3_remove (xrf a0 5) (xt_0_5 ta0) v8 h7) (by decide) rfl rfl (Nat.le_of_ble_eq_true rfl) (fun h9 => ?_)
      refine r_aload_n (place := 3) dX0_carryFirst_65 rfl rfl ?_
      refine r_aload_n (place := 3) dX0_carryFirst_66 rfl rfl ?_
      refine r_getR dX0_carryFirst_67 fg_X0_30 ta0 ?_
      refine r_iconst dX0_carryFirst_70 xc_4 ?_
      refine r_iload (place := 0) dX0_carryFirst_71 rfl ?_
      refine r_callVV (rest := []) dX0_carryFirst_73 m_X0_sendBare lk_X0_143 rfl (by decide) ta0 (c_X0_sendBare a0 ta0 (xrf a0 4) (xt_0_4 ta0) (4 : Int32) v6 h9) (by decide) rfl rfl (Nat.le_of_ble_eq_true rfl) (fun h10 => ?_)
      exact r_ret dX0_carryFirst_76 rfl
    · refine r_aload_n (place := 3) dX0_carryFirst_39 rfl rfl ?_
      refine r_iload (place := 0) dX0_carryFirst_40 rfl ?_
      refine r_callVV (rest := []) dX0_carryFirst_42 m_X0_carryLetter lk_X0_154 rfl (by decide) ta0 (c_X0_carryLetter a0 ta0 v6 h5) (by decide) rfl rfl (Nat.le_of_ble_eq_true rfl) (fun h11 => ?_)
      refine r_goto (tgt := 76) dX0_carryFirst_45 (by decide) ?_
      exact r_ret dX0_carryFirst_76 rfl
  · refine r_aload_n (place := 3) dX0_carryFirst_25 rfl rfl ?_
    refine r_iload_n (place := 1) dX0_carryFirst_26 rfl rfl ?_
    refine r_iload (place := 0) dX0_carryFirst_27 rfl ?_
    refine r_callVV (rest := []) dX0_carryFirst_29 m_X0_carryUp lk_X0_151 rfl (by decide) ta0 (c_X0_carryUp a0 ta0 v4 v6 h5) (by decide) rfl rfl (Nat.le_of_ble_eq_true rfl) (fun h12 => ?_)
    refine r_goto (tgt := 76) dX0_carryFirst_32 (by decide) ?_
    exact r_ret dX0_carryFirst_76 rfl
def f_X0_countAliases_36 (kk13 : Int32 → Nat → Int32 → Int32 → Mem → Option (Int32 × Mem)) (a2 : Nat) (a3 : Int32) (a4 : Int32) (s0 : Int32) (s1 : Int32) (h : Mem) : Option (Int32 × Mem) :=
  b2 (f_X7_flag s1 h) fun v2 h1 =>
  kk13 (s0 + v2) a2 a3 (a4 + (1 : Int32)) h1
set_option maxRecDepth 20000 in
theorem t_X0_countAliases_36 {G : xG} (kk13 : Int32 → Nat → Int32 → Int32 → Mem → Option (Int32 × Mem)) (hk13 : ∀ (a1 : Int32) (a2 : Nat) (a3 : Int32) (a4 : Int32) (ta2 : xTy a2 8) (h : Mem), Rn G 1 FX0_countAliases xcI 13 [(1, .int a1), (2, .ref (G.1 a2)), (3, .int a3), (4, .int a4)] [] h (kk13 a1 a2 a3 a4 h)) (a2 : Nat) (a3 : Int32) (a4 : Int32) (s0 : Int32) (s1 : Int32) (ta2 : xTy a2 8) (h : Mem) : Rn G 1 FX0_countAliases xcI 36 [(2, .ref (G.1 a2)), (3, .int a3), (4, .int a4)] [.int s1, .int s0] h (f_X0_countAliases_36 kk13 a2 a3 a4 s0 s1 h) := by
  unfold f_X0_countAliases_36
  refine r_callSI (rest := [.int s0]) dX0_countAliases_36 m_X7_flag lk_X0_135 (c_X7_flag s1 h) (by decide) rfl rfl (Nat.le_of_ble_eq_true rfl) (fun v2 h1 => ?_)
  refine r_iadd dX0_countAliases_39 ?_
  refine r_istore_n (ls' := [(1, .int (s0 + v2)), (2, .ref (G.1 a2)), (3, .int a3), (4, .int a4)]) dX0_countAliases_40 rfl (by decide) rfl ?_
  refine r_iincC (place := 3) (ls' := [(4, .int (a4 + (1 : Int32))), (1, .int (s0 + v2)), (2, .ref (G.1 a2)), (3, .int a3)]) dX0_countAliases_41 rfl xc_1 (by decide) rfl ?_
  refine r_goto (tgt := 13) dX0_countAliases_44 (by decide) ?_
  exact r_sub [1, 2, 3, 0] rfl (hk13 (s0 + v2) a2 a3 (a4 + (1 : Int32)) ta2 h1)
def f_X0_countAliases_13  : Nat → Int32 → Nat → Int32 → Int32 → Mem → Option (Int32 × Mem)
  | 0, _, _, _, _, _ => none
  | n + 1, a1, a2, a3, a4, h =>
    if a3 ≤ a4 then
        some (a1, h)
    else
        ald h a2 a4 fun v1 =>
        if v1 = 0 then
            f_X0_countAliases_36 (f_X0_countAliases_13 n) a2 a3 a4 a1 (0 : Int32) h
        else
            f_X0_countAliases_36 (f_X0_countAliases_13 n) a2 a3 a4 a1 (1 : Int32) h
set_option maxRecDepth 20000 in
theorem t_X0_countAliases_13 {G : xG}  : ∀ (n : Nat) (a1 : Int32) (a2 : Nat) (a3 : Int32) (a4 : Int32) (ta2 : xTy a2 8) (h : Mem), Rn G 1 FX0_countAliases xcI 13 [(1, .int a1), (2, .ref (G.1 a2)), (3, .int a3), (4, .int a4)] [] h (f_X0_countAliases_13 n a1 a2 a3 a4 h) := by
  intro n
  induction n with
  | zero => intros; intro r hr; cases hr
  | succ n ih =>
    intro a1 a2 a3 a4 ta2 h
    unfold f_X0_countAliases_13
    refine r_iload (place := 3) dX0_countAliases_13 rfl ?_
    refine r_iload_n (place := 2) dX0_countAliases_15 rfl rfl ?_
    refine r_ic_ge (tgt := 47) dX0_countAliases_16 (by decide) ?_ ?_
    · refine r_iload_n (place := 0) dX0_countAliases_47 rfl rfl ?_
      exact r_iret dX0_countAliases_48 rfl
    · refine r_aload_n (place := 1) dX0_countAliases_19 rfl rfl ?_
      refine r_iload (place := 3) dX0_countAliases_20 rfl ?_
      refine r_iald dX0_countAliases_22 ta2 (fun v1 => ?_)
      refine r_istore (ls' := [(5, .int v1), (1, .int a1), (2, .ref (G.1 a2)), (3, .int a3), (4, .int a4)]) dX0_countAliases_23 (by decide) rfl ?_
      refine r_iload_n (place := 1) dX0_countAliases_25 rfl rfl ?_
      refine r_iload (place := 0) dX0_countAliases_26 rfl ?_
      refine r_if_eq (tgt := 35) dX0_countAliases_28 (by decide) ?_ ?_
      · refine r_iconst dX0_countAliases_35 xc_0 ?_
        exact r_sub [2, 3, 4] rfl (t_X0_countAliases_36 (f_X0_countAliases_13 n) ih a2 a3 a4 a1 (0 : Int32) ta2 h)
      · refine r_iconst dX0_countAliases_31 xc_1 ?_
        refine r_goto (tgt := 36) dX0_countAliases_32 (by decide) ?_
        exact r_sub [2, 3, 4] rfl (t_X0_countAliases_36 (f_X0_countAliases_13 n) ih a2 a3 a4 a1 (1 : Int32) ta2 h)
def f_X0_countAliases (a0 : Nat) (h : Mem) : Option (Int32 × Mem) :=
  f_X0_countAliases_13 xFU (0 : Int32) (xrf a0 1) (Int32.ofNat (xln (xrf a0 1))) (0 : Int32) h
set_option maxRecDepth 20000 in
theorem c_X0_countAliases {G : xG} (a0 : Nat) (ta0 : xTy a0 0) (h : Mem) : Sm G 1 yX0_countAliases FX0_countAliases xcI [.ref (G.1 a0)] h (f_X0_countAliases a0 h) := by
  refine Sm.of pn_X0 rfl (Nat.le_of_ble_eq_true rfl) (ls := [(0, .ref (G.1 a0))]) rfl ?_
  unfold f_X0_countAliases
  refine r_iconst dX0_countAliases_0 xc_0 ?_
  refine r_istore_n (ls' := [(1, .int (0 : Int32)), (0, .ref (G.1 a0))]) dX0_countAliases_1 rfl (by decide) rfl ?_
  refine r_aload_n (place := 1) dX0_countAliases_2 rfl rfl ?_
  refine r_getR dX0_countAliases_3 fg_X0_20 ta0 ?_
  refine r_astore_n (ls' := [(2, .ref (G.1 (xrf a0 1))), (1, .int (0 : Int32)), (0, .ref (G.1 a0))]) dX0_countAliases_6 rfl (by decide) rfl ?_
  refine r_aload_n (place := 0) dX0_countAliases_7 rfl rfl ?_
  refine r_alen dX0_countAliases_8 (xt_0_1 ta0) ?_
  refine r_istore_n (ls' := [(3, .int (Int32.ofNat (xln (xrf a0 1)))), (2, .ref (G.1 (xrf a0 1))), (1, .int (0 : Int32)), (0, .ref (G.1 a0))]) dX0_countAliases_9 rfl (by decide) rfl ?_
  refine r_iconst dX0_countAliases_10 xc_0 ?_
  refine r_istore (ls' := [(4, .int (0 : Int32)), (3, .int (Int32.ofNat (xln (xrf a0 1)))), (2, .ref (G.1 (xrf a0 1))), (1, .int (0 : Int32)), (0, .ref (G.1 a0))]) dX0_countAliases_11 (by decide) rfl ?_
  exact r_sub [3, 2, 1, 0] rfl (t_X0_countAliases_13 xFU (0 : Int32) (xrf a0 1) (Int32.ofNat (xln (xrf a0 1))) (0 : Int32) (xt_0_1 ta0) h)
def f_X5_isHeld (a0 : Nat) (h : Mem) : Option (Int32 × Mem) :=
  if (h a0 0) = (1 : Int32) then
      some ((1 : Int32), h)
  else
      some ((0 : Int32), h)
set_option maxRecDepth 20000 in
theorem c_X5_isHeld {G : xG} (a0 : Nat) (ta0 : xTy a0 4) (h : Mem) : Sm G 0 yX5_isHeld FX5_isHeld xcI [.ref (G.1 a0)] h (f_X5_isHeld a0 h) := by
  refine Sm.of pn_X5 rfl (Nat.le_of_ble_eq_true rfl) (ls := [(0, .ref (G.1 a0))]) rfl ?_
  unfold f_X5_isHeld
  refine r_aload_n (place := 0) dX5_isHeld_0 rfl rfl ?_
  refine r_getI dX5_isHeld_1 fg_X5_11 ta0 ?_
  refine r_iconst dX5_isHeld_4 xc_1 ?_
  refine r_ic_ne (tgt := 12) dX5_isHeld_5 (by decide) ?_ ?_
  · refine r_iconst dX5_isHeld_12 xc_0 ?_
    exact r_zret1 dX5_isHeld_13 rfl (by decide)
  · refine r_iconst dX5_isHeld_8 xc_1 ?_
    refine r_goto (tgt := 13) dX5_isHeld_9 (by decide) ?_
    exact r_zret1 dX5_isHeld_13 rfl (by decide)
def f_X0_sessionFact (a0 : Nat) (a1 : Int32) (h : Mem) : Option (Int32 × Mem) :=
  if a1 = (1 : Int32) then
      some ((h a0 9), h)
  else
  if a1 = (2 : Int32) then
      if (h a0 8) = (1 : Int32) then
          some ((-4 : Int32), h)
      else
          some ((h a0 10), h)
  else
  if a1 = (3 : Int32) then
      some ((h (xrf a0 0) 3), h)
  else
  if a1 = (4 : Int32) then
      some ((h a0 11), h)
  else
  if a1 = (5 : Int32) then
      b2 (f_X0_queued a0 h) fun v2 h1 =>
      some (v2, h1)
  else
  if a1 = (6 : Int32) then
      some ((h (xrf a0 3) 3), h)
  else
  if a1 = (7 : Int32) then
      some ((h (xrf a0 4) 3), h)
  else
  if a1 = (8 : Int32) then
      some ((h (xrf a0 5) 3), h)
  else
  if a1 = (9 : Int32) then
      b2 (f_X0_countAliases a0 h) fun v4 h3 =>
      some (v4, h3)
  else
  b2 (f_X5_isHeld (xrf a0 7) h) fun v6 h5 =>
  b2 (f_X7_flag v6 h5) fun v8 h7 =>
  some (v8, h7)
set_option maxRecDepth 20000 in
theorem c_X0_sessionFact {G : xG} (a0 : Nat) (ta0 : xTy a0 0) (a1 : Int32) (h : Mem) : Sm G 2 yX0_sessionFact FX0_sessionFact xcI [.ref (G.1 a0), .int a1] h (f_X0_sessionFact a0 a1 h) := by
  refine Sm.of pn_X0 rfl (Nat.le_of_ble_eq_true rfl) (ls := [(0, .ref (G.1 a0)), (1, .int a1)]) rfl ?_
  unfold f_X0_sessionFact
  refine r_iload_n (place := 1) dX0_sessionFact_0 rfl rfl ?_
  refine r_tabI (tgt := 52) (off := 51) (1 : Int32) dX0_sessionFact_1 (by decide +kernel) (by decide +kernel) (by decide +kernel) (by decide) ?_ (fun n1_1 => ?_)
  · refine r_aload_n (place := 0) dX0_sessionFact_52 rfl rfl ?_
    refine r_getI dX0_sessionFact_53 fg_X0_71 ta0 ?_
    exact r_iret dX0_sessionFact_56 rfl
  refine r_tabI (tgt := 57) (off := 56) (2 : Int32) dX0_sessionFact_1 (by decide +kernel) (by decide +kernel) (by decide +kernel) (by decide) ?_ (fun n1_2 => ?_)
  · refine r_aload_n (place := 0) dX0_sessionFact_57 rfl rfl ?_
    refine r_getI dX0_sessionFact_58 fg_X0_68 ta0 ?_
    refine r_iconst dX0_sessionFact_61 xc_1 ?_
    refine r_ic_ne (tgt := 70) dX0_sessionFact_62 (by decide) ?_ ?_
    · refine r_aload_n (place := 0) dX0_sessionFact_70 rfl rfl ?_
      refine r_getI dX0_sessionFact_71 fg_X0_74 ta0 ?_
      exact r_iret dX0_sessionFact_74 rfl
    · refine r_bipush dX0_sessionFact_65 xb_m4 ?_
      refine r_goto (tgt := 74) dX0_sessionFact_67 (by decide) ?_
      exact r_iret dX0_sessionFact_74 rfl
  refine r_tabI (tgt := 75) (off := 74) (3 : Int32) dX0_sessionFact_1 (by decide +kernel) (by decide +kernel) (by decide +kernel) (by decide) ?_ (fun n1_3 => ?_)
  · refine r_aload_n (place := 0) dX0_sessionFact_75 rfl rfl ?_
    refine r_getR dX0_sessionFact_76 fg_X0_14 ta0 ?_
    refine r_getI dX0_sessionFact_79 fg_X0_95 (xt_0_0 ta0) ?_
    exact r_iret dX0_sessionFact_82 rfl
  refine r_tabI (tgt := 83) (off := 82) (4 : Int32) dX0_sessionFact_1 (by decide +kernel) (by decide +kernel) (by decide +kernel) (by decide) ?_ (fun n1_4 => ?_)
  · refine r_aload_n (place := 0) dX0_sessionFact_83 rfl rfl ?_
    refine r_getI dX0_sessionFact_84 fg_X0_77 ta0 ?_
    exact r_iret dX0_sessionFact_87 rfl
  refine r_tabI (tgt := 88) (off := 87) (5 : Int32) dX0_sessionFact_1 (by decide +kernel) (by decide +kernel) (by decide +kernel) (by decide) ?_ (fun n1_5 => ?_)
  · refine r_aload_n (place := 0) dX0_sessionFact_88 rfl rfl ?_
    refine r_callVI (rest := []) dX0_sessionFact_89 m_X0_queued lk_X0_132 rfl (by decide) ta0 (c_X0_queued a0 ta0 h) (by decide) rfl rfl (Nat.le_of_ble_eq_true rfl) (fun v2 h1 => ?_)
    exact r_iret dX0_sessionFact_92 rfl
  refine r_tabI (tgt := 93) (off := 92) (6 : Int32) dX0_sessionFact_1 (by decide +kernel) (by decide +kernel) (by decide +kernel) (by decide) ?_ (fun n1_6 => ?_)
  · refine r_aload_n (place := 0) dX0_sessionFact_93 rfl rfl ?_
    refine r_getR dX0_sessionFact_94 fg_X0_27 ta0 ?_
    refine r_getI dX0_sessionFact_97 fg_X0_95 (xt_0_3 ta0) ?_
    exact r_iret dX0_sessionFact_100 rfl
  refine r_tabI (tgt := 101) (off := 100) (7 : Int32) dX0_sessionFact_1 (by decide +kernel) (by decide +kernel) (by decide +kernel) (by decide) ?_ (fun n1_7 => ?_)
  · refine r_aload_n (place := 0) dX0_sessionFact_101 rfl rfl ?_
    refine r_getR dX0_sessionFact_102 fg_X0_30 ta0 ?_
    refine r_getI dX0_sessionFact_105 fg_X0_95 (xt_0_4 ta0) ?_
    exact r_iret dX0_sessionFact_108 rfl
  refine r_tabI (tgt := 109) (off := 108) (8 : Int32) dX0_sessionFact_1 (by decide +kernel) (by decide +kernel) (by decide +kernel) (by decide) ?_ (fun n1_8 => ?_)
  · refine r_aload_n (place := 0) dX0_sessionFact_109 rfl rfl ?_
    refine r_getR dX0_sessionFact_110 fg_X0_33 ta0 ?_
    refine r_getI dX0_sessionFact_113 fg_X0_95 (xt_0_5 ta0) ?_
    exact r_iret dX0_sessionFact_116 rfl
  refine r_tabI (tgt := 117) (off := 116) (9 : Int32) dX0_sessionFact_1 (by decide +kernel) (by decide +kernel) (by decide +kernel) (by decide) ?_ (fun n1_9 => ?_)
  · refine r_aload_n (place := 0) dX0_sessionFact_117 rfl rfl ?_
    refine r_callVI (rest := []) dX0_sessionFact_118 m_X0_countAliases lk_X0_170 rfl (by decide) ta0 (c_X0_countAliases a0 ta0 h) (by decide) rfl rfl (Nat.le_of_ble_eq_true rfl) (fun v4 h3 => ?_)
    exact r_iret dX0_sessionFact_121 rfl
  have hx_1 : a1.toInt < 1 ∨ 9 < a1.toInt := by
    have z_n1_1 := lv_neT (a := 1) n1_1 (by decide +kernel)
    have z_n1_2 := lv_neT (a := 2) n1_2 (by decide +kernel)
    have z_n1_3 := lv_neT (a := 3) n1_3 (by decide +kernel)
    have z_n1_4 := lv_neT (a := 4) n1_4 (by decide +kernel)
    have z_n1_5 := lv_neT (a := 5) n1_5 (by decide +kernel)
    have z_n1_6 := lv_neT (a := 6) n1_6 (by decide +kernel)
    have z_n1_7 := lv_neT (a := 7) n1_7 (by decide +kernel)
    have z_n1_8 := lv_neT (a := 8) n1_8 (by decide +kernel)
    have z_n1_9 := lv_neT (a := 9) n1_9 (by decide +kernel)
    omega
  refine r_tabD (tgt := 122) dX0_sessionFact_1 hx_1 (by decide) ?_
  refine r_aload_n (place := 0) dX0_sessionFact_122 rfl rfl ?_
  refine r_getR dX0_sessionFact_123 fg_X0_42 ta0 ?_
  refine r_callVI (rest := []) dX0_sessionFact_126 m_X5_isHeld lk_X0_173 rfl (by decide) (xt_0_7 ta0) (c_X5_isHeld (xrf a0 7) (xt_0_7 ta0) h) (by decide) rfl rfl (Nat.le_of_ble_eq_true rfl) (fun v6 h5 => ?_)
  refine r_callSI (rest := []) dX0_sessionFact_129 m_X7_flag lk_X0_135 (c_X7_flag v6 h5) (by decide) rfl rfl (Nat.le_of_ble_eq_true rfl) (fun v8 h7 => ?_)
  exact r_iret dX0_sessionFact_132 rfl
def f_X3_copyFrom (a0 : Nat) (a1 : Nat) (h : Mem) : Option (Unit × Mem) :=
  if (h a1 1) = (h a0 1) then
      if (h a1 3) ≤ (h a0 0) then
          acp h (xrf a1 2) (0 : Int32) (xrf a0 2) (0 : Int32) ((h a1 3) * (h a0 1)) fun h1 =>
          mlet (mu h1 a0 3 (h1 a1 3)) fun h2 =>
          some ((), h2)
      else
          some ((), h)
  else
      some ((), h)
set_option maxRecDepth 20000 in
theorem c_X3_copyFrom {G : xG} (a0 : Nat) (ta0 : xTy a0 2) (a1 : Nat) (ta1 : xTy a1 2) (h : Mem) : Sm G 1 yX3_copyFrom FX3_copyFrom xcV [.ref (G.1 a0), .ref (G.1 a1)] h (f_X3_copyFrom a0 a1 h) := by
  refine Sm.of pn_X3 rfl (Nat.le_of_ble_eq_true rfl) (ls := [(0, .ref (G.1 a0)), (1, .ref (G.1 a1))]) rfl ?_
  unfold f_X3_copyFrom
  refine r_aload_n (place := 1) dX3_copyFrom_0 rfl rfl ?_
  refine r_getI dX3_copyFrom_1 fg_X3_19 ta1 ?_
  refine r_aload_n (place := 0) dX3_copyFrom_4 rfl rfl ?_
  refine r_getI dX3_copyFrom_5 fg_X3_19 ta0 ?_
  refine r_ic_ne (tgt := 22) dX3_copyFrom_8 (by decide) ?_ ?_
  · exact r_ret dX3_copyFrom_22 rfl
  · refine r_aload_n (place := 1) dX3_copyFrom_11 rfl rfl ?_
    refine r_getI dX3_copyFrom_12 fg_X3_26 ta1 ?_
    refine r_aload_n (place := 0) dX3_copyFrom_15 rfl rfl ?_
    refine r_getI dX3_copyFrom_16 fg_X3_13 ta0 ?_
    refine r_ic_le (tgt := 23) dX3_copyFrom_19 (by decide) ?_ ?_
    · refine r_aload_n (place := 1) dX3_copyFrom_23 rfl rfl ?_
      refine r_getR dX3_copyFrom_24 fg_X3_22 ta1 ?_
      refine r_iconst dX3_copyFrom_27 xc_0 ?_
      refine r_aload_n (place := 0) dX3_copyFrom_28 rfl rfl ?_
      refine r_getR dX3_copyFrom_29 fg_X3_22 ta0 ?_
      refine r_iconst dX3_copyFrom_32 xc_0 ?_
      refine r_aload_n (place := 1) dX3_copyFrom_33 rfl rfl ?_
      refine r_getI dX3_copyFrom_34 fg_X3_26 ta1 ?_
      refine r_aload_n (place := 0) dX3_copyFrom_37 rfl rfl ?_
      refine r_getI dX3_copyFrom_38 fg_X3_19 ta0 ?_
      refine r_imul dX3_copyFrom_41 ?_
      refine r_acp dX3_copyFrom_42 sp_X3_29 (xt_2_2 ta1) (xt_2_2 ta0) (by decide) (by decide) (fun h1 => ?_)
      refine r_aload_n (place := 0) dX3_copyFrom_45 rfl rfl ?_
      refine r_aload_n (place := 1) dX3_copyFrom_46 rfl rfl ?_
      refine r_getI dX3_copyFrom_47 fg_X3_26 ta1 ?_
      refine r_putI dX3_copyFrom_50 fp_X3_26 ta0 ?_
      refine r_mem (fun h2 => ?_)
      exact r_ret dX3_copyFrom_53 rfl
    · exact r_ret dX3_copyFrom_22 rfl
def f_X5_copyFrom (a0 : Nat) (a1 : Nat) (h : Mem) : Option (Unit × Mem) :=
  mlet (mu h a0 0 (h a1 0)) fun h1 =>
  mlet (mu h1 a0 1 (h1 a1 1)) fun h2 =>
  mlet (mu h2 a0 2 (h2 a1 2)) fun h3 =>
  mlet (mu h3 a0 3 (h3 a1 3)) fun h4 =>
  zg (h4 a1 4) <|
  mlet (mu (mu h4 a0 4 (h4 a1 4)) a0 5 ((mu h4 a0 4 (h4 a1 4)) a1 5)) fun h5 =>
  mlet (mu h5 a0 6 (h5 a1 6)) fun h6 =>
  some ((), h6)
set_option maxRecDepth 20000 in
theorem c_X5_copyFrom {G : xG} (a0 : Nat) (ta0 : xTy a0 4) (a1 : Nat) (ta1 : xTy a1 4) (h : Mem) : Sm G 0 yX5_copyFrom FX5_copyFrom xcV [.ref (G.1 a0), .ref (G.1 a1)] h (f_X5_copyFrom a0 a1 h) := by
  refine Sm.of pn_X5 rfl (Nat.le_of_ble_eq_true rfl) (ls := [(0, .ref (G.1 a0)), (1, .ref (G.1 a1))]) rfl ?_
  unfold f_X5_copyFrom
  refine r_aload_n (place := 0) dX5_copyFrom_0 rfl rfl ?_
  refine r_aload_n (place := 1) dX5_copyFrom_1 rfl rfl ?_
  refine r_getI dX5_copyFrom_2 fg_X5_11 ta1 ?_
  refine r_putI dX5_copyFrom_5 fp_X5_11 ta0 ?_
  refine r_mem (fun h1 => ?_)
  refine r_aload_n (place := 0) dX5_copyFrom_8 rfl rfl ?_
  refine r_aload_n (place := 1) dX5_copyFrom_9 rfl rfl ?_
  refine r_getI dX5_copyFrom_10 fg_X5_15 ta1 ?_
  refine r_putI dX5_copyFrom_13 fp_X5_15 ta0 ?_
  refine r_mem (fun h2 => ?_)
  refine r_aload_n (place := 0) dX5_copyFrom_16 rfl rfl ?_
  refine r_aload_n (place := 1) dX5_copyFrom_17 rfl rfl ?_
  refine r_getI dX5_copyFrom_18 fg_X5_18 ta1 ?_
  refine r_putI dX5_copyFrom_21 fp_X5_18 ta0 ?_
  refine r_mem (fun h3 => ?_)
  refine r_aload_n (place := 0) dX5_copyFrom_24 rfl rfl ?_
  refine r_aload_n (place := 1) dX5_copyFrom_25 rfl rfl ?_
  refine r_getI dX5_copyFrom_26 fg_X5_21 ta1 ?_
  refine r_putI dX5_copyFrom_29 fp_X5_21 ta0 ?_
  refine r_mem (fun h4 => ?_)
  refine r_aload_n (place := 0) dX5_copyFrom_32 rfl rfl ?_
  refine r_aload_n (place := 1) dX5_copyFrom_33 rfl rfl ?_
  refine r_getI dX5_copyFrom_34 fg_X5_24 ta1 ?_
  refine r_putZ dX5_copyFrom_37 fp_X5_24 ta0 ?_
  refine r_aload_n (place := 0) dX5_copyFrom_40 rfl rfl ?_
  refine r_aload_n (place := 1) dX5_copyFrom_41 rfl rfl ?_
  refine r_getI dX5_copyFrom_42 fg_X5_28 ta1 ?_
  refine r_putI dX5_copyFrom_45 fp_X5_28 ta0 ?_
  refine r_mem (fun h5 => ?_)
  refine r_aload_n (place := 0) dX5_copyFrom_48 rfl rfl ?_
  refine r_aload_n (place := 1) dX5_copyFrom_49 rfl rfl ?_
  refine r_getI dX5_copyFrom_50 fg_X5_31 ta1 ?_
  refine r_putI dX5_copyFrom_53 fp_X5_31 ta0 ?_
  refine r_mem (fun h6 => ?_)
  exact r_ret dX5_copyFrom_56 rfl
def f_X0_copyFrom (a0 : Nat) (a1 : Nat) (h : Mem) : Option (Unit × Mem) :=
  b2 (f_X3_copyFrom (xrf a0 0) (xrf a1 0) h) fun _ h1 =>
  acp h1 (xrf a1 1) (0 : Int32) (xrf a0 1) (0 : Int32) (4 : Int32) fun h2 =>
  b2 (f_X3_copyFrom (xrf a0 2) (xrf a1 2) h2) fun _ h3 =>
  b2 (f_X3_copyFrom (xrf a0 3) (xrf a1 3) h3) fun _ h4 =>
  b2 (f_X3_copyFrom (xrf a0 4) (xrf a1 4) h4) fun _ h5 =>
  b2 (f_X3_copyFrom (xrf a0 5) (xrf a1 5) h5) fun _ h6 =>
  b2 (f_X3_copyFrom (xrf a0 6) (xrf a1 6) h6) fun _ h7 =>
  b2 (f_X5_copyFrom (xrf a0 7) (xrf a1 7) h7) fun _ h8 =>
  mlet (mu h8 a0 8 (h8 a1 8)) fun h9 =>
  mlet (mu h9 a0 9 (h9 a1 9)) fun h10 =>
  mlet (mu h10 a0 10 (h10 a1 10)) fun h11 =>
  mlet (mu h11 a0 11 (h11 a1 11)) fun h12 =>
  mlet (mu h12 a0 12 (h12 a1 12)) fun h13 =>
  mlet (mu h13 a0 13 (h13 a1 13)) fun h14 =>
  mlet (mu h14 a0 14 (h14 a1 14)) fun h15 =>
  mlet (mu h15 a0 15 (h15 a1 15)) fun h16 =>
  mlet (mu h16 a0 16 (h16 a1 16)) fun h17 =>
  some ((), h17)
set_option maxRecDepth 20000 in
theorem c_X0_copyFrom {G : xG} (a0 : Nat) (ta0 : xTy a0 0) (a1 : Nat) (ta1 : xTy a1 0) (h : Mem) : Sm G 2 yX0_copyFrom FX0_copyFrom xcV [.ref (G.1 a0), .ref (G.1 a1)] h (f_X0_copyFrom a0 a1 h) := by
  refine Sm.of pn_X0 rfl (Nat.le_of_ble_eq_true rfl) (ls := [(0, .ref (G.1 a0)), (1, .ref (G.1 a1))]) rfl ?_
  unfold f_X0_copyFrom
  refine r_aload_n (place := 0) dX0_copyFrom_0 rfl rfl ?_
  refine r_getR dX0_copyFrom_1 fg_X0_14 ta0 ?_
  refine r_aload_n (place := 1) dX0_copyFrom_4 rfl rfl ?_
  refine r_getR dX0_copyFrom_5 fg_X0_14 ta1 ?_
  refine r_callVV (rest := []) dX0_copyFrom_8 m_X3_copyFrom lk_X0_176 rfl (by decide) (xt_0_0 ta0) (c_X3_copyFrom (xrf a0 0) (xt_0_0 ta0) (xrf a1 0) (xt_0_0 ta1) h) (by decide) rfl rfl (Nat.le_of_ble_eq_true rfl) (fun h1 => ?_)
  refine r_aload_n (place := 1) dX0_copyFrom_11 rfl rfl ?_
  refine r_getR dX0_copyFrom_12 fg_X0_20 ta1 ?_
  refine r_iconst dX0_copyFrom_15 xc_0 ?_
  refine r_aload_n (place := 0) dX0_copyFrom_16 rfl rfl ?_
  refine r_getR dX0_copyFrom_17 fg_X0_20 ta0 ?_
  refine r_iconst dX0_copyFrom_20 xc_0 ?_
  refine r_iconst dX0_copyFrom_21 xc_4 ?_
  refine r_acp dX0_copyFrom_22 sp_X0_180 (xt_0_1 ta1) (xt_0_1 ta0) (by decide) (by decide) (fun h2 => ?_)
  refine r_aload_n (place := 0) dX0_copyFrom_25 rfl rfl ?_
  refine r_getR dX0_copyFrom_26 fg_X0_24 ta0 ?_
  refine r_aload_n (place := 1) dX0_copyFrom_29 rfl rfl ?_
  refine r_getR dX0_copyFrom_30 fg_X0_24 ta1 ?_
  refine r_callVV (rest := []) dX0_copyFrom_33 m_X3_copyFrom lk_X0_176 rfl (by decide) (xt_0_2 ta0) (c_X3_copyFrom (xrf a0 2) (xt_0_2 ta0) (xrf a1 2) (xt_0_2 ta1) h2) (by decide) rfl rfl (Nat.le_of_ble_eq_true rfl) (fun h3 => ?_)
  refine r_aload_n (place := 0) dX0_copyFrom_36 rfl rfl ?_
  refine r_getR dX0_copyFrom_37 fg_X0_27 ta0 ?_
  refine r_aload_n (place := 1) dX0_copyFrom_40 rfl rfl ?_
  refine r_getR dX0_copyFrom_41 fg_X0_27 ta1 ?_
  refine r_callVV (rest := []) dX0_copyFrom_44 m_X3_copyFrom lk_X0_176 rfl (by decide) (xt_0_3 ta0) (c_X3_copyFrom (xrf a0 3) (xt_0_3 ta0) (xrf a1 3) (xt_0_3 ta1) h3) (by decide) rfl rfl (Nat.le_of_ble_eq_true rfl) (fun h4 => ?_)
  refine r_aload_n (place := 0) dX0_copyFrom_47 rfl rfl ?_
  refine r_getR dX0_copyFrom_48 fg_X0_30 ta0 ?_
  refine r_aload_n (place := 1) dX0_copyFrom_51 rfl rfl ?_
  refine r_getR dX0_copyFrom_52 fg_X0_30 ta1 ?_
  refine r_callVV (rest := []) dX0_copyFrom_55 m_X3_copyFrom lk_X0_176 rfl (by decide) (xt_0_4 ta0) (c_X3_copyFrom (xrf a0 4) (xt_0_4 ta0) (xrf a1 4) (xt_0_4 ta1) h4) (by decide) rfl rfl (Nat.le_of_ble_eq_true rfl) (fun h5 => ?_)
  refine r_aload_n (place := 0) dX0_copyFrom_58 rfl rfl ?_
  refine r_getR dX0_copyFrom_59 fg_X0_33 ta0 ?_
  refine r_aload_n (place := 1) dX0_copyFrom_62 rfl rfl ?_
  refine r_getR dX0_copyFrom_63 fg_X0_33 ta1 ?_
  refine r_callVV (rest := []) dX0_copyFrom_66 m_X3_copyFrom lk_X0_176 rfl (by decide) (xt_0_5 ta0) (c_X3_copyFrom (xrf a0 5) (xt_0_5 ta0) (xrf a1 5) (xt_0_5 ta1) h5) (by decide) rfl rfl (Nat.le_of_ble_eq_true rfl) (fun h6 => ?_)
  refine r_aload_n (place := 0) dX0_copyFrom_69 rfl rfl ?_
  refine r_getR dX0_copyFrom_70 fg_X0_36 ta0 ?_
  refine r_aload_n (place := 1) dX0_copyFrom_73 rfl rfl ?_
  refine r_getR dX0_copyFrom_74 fg_X0_36 ta1 ?_
  refine r_callVV (rest := []) dX0_copyFrom_77 m_X3_copyFrom lk_X0_176 rfl (by decide) (xt_0_6 ta0) (c_X3_copyFrom (xrf a0 6) (xt_0_6 ta0) (xrf a1 6) (xt_0_6 ta1) h6) (by decide) rfl rfl (Nat.le_of_ble_eq_true rfl) (fun h7 => ?_)
  refine r_aload_n (place := 0) dX0_copyFrom_80 rfl rfl ?_
  refine r_getR dX0_copyFrom_81 fg_X0_42 ta0 ?_
  refine r_aload_n (place := 1) dX0_copyFrom_84 rfl rfl ?_
  refine r_getR dX0_copyFrom_85 fg_X0_42 ta1 ?_
  refine r_callVV (rest := []) dX0_copyFrom_88 m_X5_copyFrom lk_X0_186 rfl (by decide) (xt_0_7 ta0) (c_X5_copyFrom (xrf a0 7) (xt_0_7 ta0) (xrf a1 7) (xt_0_7 ta1) h7) (by decide) rfl rfl (Nat.le_of_ble_eq_true rfl) (fun h8 => ?_)
  refine r_aload_n (place := 0) dX0_copyFrom_91 rfl rfl ?_
  refine r_aload_n (place := 1) dX0_copyFrom_92 rfl rfl ?_
  refine r_getI dX0_copyFrom_93 fg_X0_68 ta1 ?_
  refine r_putI dX0_copyFrom_96 fp_X0_68 ta0 ?_
  refine r_mem (fun h9 => ?_)
  refine r_aload_n (place := 0) dX0_copyFrom_99 rfl rfl ?_
  refine r_aload_n (place := 1) dX0_copyFrom_100 rfl rfl ?_
  refine r_getI dX0_copyFrom_101 fg_X0_71 ta1 ?_
  refine r_putI dX0_copyFrom_104 fp_X0_71 ta0 ?_
  refine r_mem (fun h10 => ?_)
  refine r_aload_n (place := 0) dX0_copyFrom_107 rfl rfl ?_
  refine r_aload_n (place := 1) dX0_copyFrom_108 rfl rfl ?_
  refine r_getI dX0_copyFrom_109 fg_X0_74 ta1 ?_
  refine r_putI dX0_copyFrom_112 fp_X0_74 ta0 ?_
  refine r_mem (fun h11 => ?_)
  refine r_aload_n (place := 0) dX0_copyFrom_115 rfl rfl ?_
  refine r_aload_n (place := 1) dX0_copyFrom_116 rfl rfl ?_
  refine r_getI dX0_copyFrom_117 fg_X0_77 ta1 ?_
  refine r_putI dX0_copyFrom_120 fp_X0_77 ta0 ?_
  refine r_mem (fun h12 => ?_)
  refine r_aload_n (place := 0) dX0_copyFrom_123 rfl rfl ?_
  refine r_aload_n (place := 1) dX0_copyFrom_124 rfl rfl ?_
  refine r_getI dX0_copyFrom_125 fg_X0_80 ta1 ?_
  refine r_putI dX0_copyFrom_128 fp_X0_80 ta0 ?_
  refine r_mem (fun h13 => ?_)
  refine r_aload_n (place := 0) dX0_copyFrom_131 rfl rfl ?_
  refine r_aload_n (place := 1) dX0_copyFrom_132 rfl rfl ?_
  refine r_getI dX0_copyFrom_133 fg_X0_55 ta1 ?_
  refine r_putI dX0_copyFrom_136 fp_X0_55 ta0 ?_
  refine r_mem (fun h14 => ?_)
  refine r_aload_n (place := 0) dX0_copyFrom_139 rfl rfl ?_
  refine r_aload_n (place := 1) dX0_copyFrom_140 rfl rfl ?_
  refine r_getI dX0_copyFrom_141 fg_X0_59 ta1 ?_
  refine r_putI dX0_copyFrom_144 fp_X0_59 ta0 ?_
  refine r_mem (fun h15 => ?_)
  refine r_aload_n (place := 0) dX0_copyFrom_147 rfl rfl ?_
  refine r_aload_n (place := 1) dX0_copyFrom_148 rfl rfl ?_
  refine r_getI dX0_copyFrom_149 fg_X0_62 ta1 ?_
  refine r_putI dX0_copyFrom_152 fp_X0_62 ta0 ?_
  refine r_mem (fun h16 => ?_)
  refine r_aload_n (place := 0) dX0_copyFrom_155 rfl rfl ?_
  refine r_aload_n (place := 1) dX0_copyFrom_156 rfl rfl ?_
  refine r_getI dX0_copyFrom_157 fg_X0_65 ta1 ?_
  refine r_putI dX0_copyFrom_160 fp_X0_65 ta0 ?_
  refine r_mem (fun h17 => ?_)
  exact r_ret dX0_copyFrom_163 rfl
def f_X1_count_20 (kk4 : Int32 → Int32 → Int32 → Mem → Option (Int32 × Mem)) (a0 : Int32) (a1 : Int32) (a2 : Int32) (h : Mem) : Option (Int32 × Mem) :=
  kk4 a0 a1 (a2 + (1 : Int32)) h
set_option maxRecDepth 20000 in
theorem t_X1_count_20 {G : xG} (kk4 : Int32 → Int32 → Int32 → Mem → Option (Int32 × Mem)) (hk4 : ∀ (a0 : Int32) (a1 : Int32) (a2 : Int32)  (h : Mem), Rn G 2 FX1_count xcI 4 [(0, .int a0), (1, .int a1), (2, .int a2)] [] h (kk4 a0 a1 a2 h)) (a0 : Int32) (a1 : Int32) (a2 : Int32)  (h : Mem) : Rn G 2 FX1_count xcI 20 [(0, .int a0), (1, .int a1), (2, .int a2)] [] h (f_X1_count_20 kk4 a0 a1 a2 h) := by
  unfold f_X1_count_20
  refine r_iincC (place := 2) (ls' := [(2, .int (a2 + (1 : Int32))), (0, .int a0), (1, .int a1)]) dX1_count_20 rfl xc_1 (by decide) rfl ?_
  refine r_goto (tgt := 4) dX1_count_23 (by decide) ?_
  exact r_sub [1, 2, 0] rfl (hk4 a0 a1 (a2 + (1 : Int32)) h)
def f_X1_count_4  : Nat → Int32 → Int32 → Int32 → Mem → Option (Int32 × Mem)
  | 0, _, _, _, _ => none
  | n + 1, a0, a1, a2, h =>
    if (4 : Int32) ≤ a2 then
        some (a1, h)
    else
        b2 (f_X1_levelAt a0 a2 h) fun v2 h1 =>
        if v2 = 0 then
            f_X1_count_20 (f_X1_count_4 n) a0 a1 a2 h1
        else
            f_X1_count_20 (f_X1_count_4 n) a0 (a1 + (1 : Int32)) a2 h1
set_option maxRecDepth 20000 in
theorem t_X1_count_4 {G : xG}  : ∀ (n : Nat) (a0 : Int32) (a1 : Int32) (a2 : Int32)  (h : Mem), Rn G 2 FX1_count xcI 4 [(0, .int a0), (1, .int a1), (2, .int a2)] [] h (f_X1_count_4 n a0 a1 a2 h) := by
  intro n
  induction n with
  | zero => intros; intro r hr; cases hr
  | succ n ih =>
    intro a0 a1 a2 h
    unfold f_X1_count_4
    refine r_iload_n (place := 2) dX1_count_4 rfl rfl ?_
    refine r_iconst dX1_count_5 xc_4 ?_
    refine r_ic_ge (tgt := 26) dX1_count_6 (by decide) ?_ ?_
    · refine r_iload_n (place := 1) dX1_count_26 rfl rfl ?_
      exact r_iret dX1_count_27 rfl
    · refine r_iload_n (place := 0) dX1_count_9 rfl rfl ?_
      refine r_iload_n (place := 2) dX1_count_10 rfl rfl ?_
      refine r_callSI (rest := []) dX1_count_11 m_X1_levelAt lk_X1_15 (c_X1_levelAt a0 a2 h) (by decide) rfl rfl (Nat.le_of_ble_eq_true rfl) (fun v2 h1 => ?_)
      refine r_if_eq (tgt := 20) dX1_count_14 (by decide) ?_ ?_
      · exact r_sub [0, 1, 2] rfl (t_X1_count_20 (f_X1_count_4 n) ih a0 a1 a2 h1)
      · refine r_iincC (place := 1) (ls' := [(1, .int (a1 + (1 : Int32))), (0, .int a0), (2, .int a2)]) dX1_count_17 rfl xc_1 (by decide) rfl ?_
        exact r_sub [1, 0, 2] rfl (t_X1_count_20 (f_X1_count_4 n) ih a0 (a1 + (1 : Int32)) a2 h1)
def f_X1_count (a0 : Int32) (h : Mem) : Option (Int32 × Mem) :=
  f_X1_count_4 xFU a0 (0 : Int32) (0 : Int32) h
set_option maxRecDepth 20000 in
theorem c_X1_count {G : xG} (a0 : Int32) (h : Mem) : Sm G 2 yX1_count FX1_count xcI [.int a0] h (f_X1_count a0 h) := by
  refine Sm.of pn_X1 rfl (Nat.le_of_ble_eq_true rfl) (ls := [(0, .int a0)]) rfl ?_
  unfold f_X1_count
  refine r_iconst dX1_count_0 xc_0 ?_
  refine r_istore_n (ls' := [(1, .int (0 : Int32)), (0, .int a0)]) dX1_count_1 rfl (by decide) rfl ?_
  refine r_iconst dX1_count_2 xc_0 ?_
  refine r_istore_n (ls' := [(2, .int (0 : Int32)), (1, .int (0 : Int32)), (0, .int a0)]) dX1_count_3 rfl (by decide) rfl ?_
  exact r_sub [2, 1, 0] rfl (t_X1_count_4 xFU a0 (0 : Int32) (0 : Int32) h)
def f_X1_with (a0 : Int32) (a1 : Int32) (h : Mem) : Option (Int32 × Mem) :=
  b2 (f_X1_count a0 h) fun v2 h1 =>
  if (4 : Int32) ≤ v2 then
      some (a0, h1)
  else
      b2 (f_X1_shiftOf v2 h1) fun v4 h3 =>
      some ((a0 ||| (a1 <<< (v4 &&& 31))), h3)
set_option maxRecDepth 20000 in
theorem c_X1_with {G : xG} (a0 : Int32) (a1 : Int32) (h : Mem) : Sm G 3 yX1_with FX1_with xcI [.int a0, .int a1] h (f_X1_with a0 a1 h) := by
  refine Sm.of pn_X1 rfl (Nat.le_of_ble_eq_true rfl) (ls := [(0, .int a0), (1, .int a1)]) rfl ?_
  unfold f_X1_with
  refine r_iload_n (place := 0) dX1_with_0 rfl rfl ?_
  refine r_callSI (rest := []) dX1_with_1 m_X1_count lk_X1_19 (c_X1_count a0 h) (by decide) rfl rfl (Nat.le_of_ble_eq_true rfl) (fun v2 h1 => ?_)
  refine r_istore_n (ls' := [(2, .int v2), (0, .int a0), (1, .int a1)]) dX1_with_4 rfl (by decide) rfl ?_
  refine r_iload_n (place := 0) dX1_with_5 rfl rfl ?_
  refine r_iconst dX1_with_6 xc_4 ?_
  refine r_ic_ge (tgt := 21) dX1_with_7 (by decide) ?_ ?_
  · refine r_iload_n (place := 1) dX1_with_21 rfl rfl ?_
    exact r_iret dX1_with_22 rfl
  · refine r_iload_n (place := 1) dX1_with_10 rfl rfl ?_
    refine r_iload_n (place := 2) dX1_with_11 rfl rfl ?_
    refine r_iload_n (place := 0) dX1_with_12 rfl rfl ?_
    refine r_callSI (rest := [.int a1, .int a0]) dX1_with_13 m_X1_shiftOf lk_X1_11 (c_X1_shiftOf v2 h1) (by decide) rfl rfl (Nat.le_of_ble_eq_true rfl) (fun v4 h3 => ?_)
    refine r_ishl dX1_with_16 ?_
    refine r_ior dX1_with_17 ?_
    refine r_goto (tgt := 22) dX1_with_18 (by decide) ?_
    exact r_iret dX1_with_22 rfl
def f_X1_endsInRest (a0 : Int32) (h : Mem) : Option (Int32 × Mem) :=
  b2 (f_X1_count a0 h) fun v2 h1 =>
  b2 (f_X1_levelAt a0 (v2 - (1 : Int32)) h1) fun v4 h3 =>
  if v4 = (28 : Int32) then
      some ((1 : Int32), h3)
  else
      some ((0 : Int32), h3)
set_option maxRecDepth 20000 in
theorem c_X1_endsInRest {G : xG} (a0 : Int32) (h : Mem) : Sm G 3 yX1_endsInRest FX1_endsInRest xcI [.int a0] h (f_X1_endsInRest a0 h) := by
  refine Sm.of pn_X1 rfl (Nat.le_of_ble_eq_true rfl) (ls := [(0, .int a0)]) rfl ?_
  unfold f_X1_endsInRest
  refine r_iload_n (place := 0) dX1_endsInRest_0 rfl rfl ?_
  refine r_iload_n (place := 0) dX1_endsInRest_1 rfl rfl ?_
  refine r_callSI (rest := [.int a0]) dX1_endsInRest_2 m_X1_count lk_X1_19 (c_X1_count a0 h) (by decide) rfl rfl (Nat.le_of_ble_eq_true rfl) (fun v2 h1 => ?_)
  refine r_iconst dX1_endsInRest_5 xc_1 ?_
  refine r_isub dX1_endsInRest_6 ?_
  refine r_callSI (rest := []) dX1_endsInRest_7 m_X1_levelAt lk_X1_15 (c_X1_levelAt a0 (v2 - (1 : Int32)) h1) (by decide) rfl rfl (Nat.le_of_ble_eq_true rfl) (fun v4 h3 => ?_)
  refine r_bipush dX1_endsInRest_10 xb_28 ?_
  refine r_ic_ne (tgt := 19) dX1_endsInRest_12 (by decide) ?_ ?_
  · refine r_iconst dX1_endsInRest_19 xc_0 ?_
    exact r_zret1 dX1_endsInRest_20 rfl (by decide)
  · refine r_iconst dX1_endsInRest_15 xc_1 ?_
    refine r_goto (tgt := 20) dX1_endsInRest_16 (by decide) ?_
    exact r_zret1 dX1_endsInRest_20 rfl (by decide)
def f_X1_isTopic_2  : Nat → Int32 → Int32 → Mem → Option (Int32 × Mem)
  | 0, _, _, _ => none
  | n + 1, a0, a1, h =>
    if (4 : Int32) ≤ a1 then
        if a0 = 0 then
            some ((0 : Int32), h)
        else
            some ((1 : Int32), h)
    else
        b2 (f_X1_levelAt a0 a1 h) fun v2 h1 =>
        if v2 ≤ (26 : Int32) then
            (f_X1_isTopic_2 n) a0 (a1 + (1 : Int32)) h1
        else
            some ((0 : Int32), h1)
set_option maxRecDepth 20000 in
theorem t_X1_isTopic_2 {G : xG}  : ∀ (n : Nat) (a0 : Int32) (a1 : Int32)  (h : Mem), Rn G 2 FX1_isTopic xcI 2 [(0, .int a0), (1, .int a1)] [] h (f_X1_isTopic_2 n a0 a1 h) := by
  intro n
  induction n with
  | zero => intros; intro r hr; cases hr
  | succ n ih =>
    intro a0 a1 h
    unfold f_X1_isTopic_2
    refine r_iload_n (place := 1) dX1_isTopic_2 rfl rfl ?_
    refine r_iconst dX1_isTopic_3 xc_4 ?_
    refine r_ic_ge (tgt := 25) dX1_isTopic_4 (by decide) ?_ ?_
    · refine r_iload_n (place := 0) dX1_isTopic_25 rfl rfl ?_
      refine r_if_eq (tgt := 33) dX1_isTopic_26 (by decide) ?_ ?_
      · refine r_iconst dX1_isTopic_33 xc_0 ?_
        exact r_zret1 dX1_isTopic_34 rfl (by decide)
      · refine r_iconst dX1_isTopic_29 xc_1 ?_
        refine r_goto (tgt := 34) dX1_isTopic_30 (by decide) ?_
        exact r_zret1 dX1_isTopic_34 rfl (by decide)
    · refine r_iload_n (place := 0) dX1_isTopic_7 rfl rfl ?_
      refine r_iload_n (place := 1) dX1_isTopic_8 rfl rfl ?_
      refine r_callSI (rest := []) dX1_isTopic_9 m_X1_levelAt lk_X1_15 (c_X1_levelAt a0 a1 h) (by decide) rfl rfl (Nat.le_of_ble_eq_true rfl) (fun v2 h1 => ?_)
      refine r_bipush dX1_isTopic_12 xb_26 ?_
      refine r_ic_le (tgt := 19) dX1_isTopic_14 (by decide) ?_ ?_
      · refine r_iincC (place := 1) (ls' := [(1, .int (a1 + (1 : Int32))), (0, .int a0)]) dX1_isTopic_19 rfl xc_1 (by decide) rfl ?_
        refine r_goto (tgt := 2) dX1_isTopic_22 (by decide) ?_
        exact r_sub [1, 0] rfl (ih a0 (a1 + (1 : Int32)) h1)
      · refine r_iconst dX1_isTopic_17 xc_0 ?_
        exact r_zret1 dX1_isTopic_18 rfl (by decide)
def f_X1_isTopic (a0 : Int32) (h : Mem) : Option (Int32 × Mem) :=
  f_X1_isTopic_2 xFU a0 (0 : Int32) h
set_option maxRecDepth 20000 in
theorem c_X1_isTopic {G : xG} (a0 : Int32) (h : Mem) : Sm G 2 yX1_isTopic FX1_isTopic xcI [.int a0] h (f_X1_isTopic a0 h) := by
  refine Sm.of pn_X1 rfl (Nat.le_of_ble_eq_true rfl) (ls := [(0, .int a0)]) rfl ?_
  unfold f_X1_isTopic
  refine r_iconst dX1_isTopic_0 xc_0 ?_
  refine r_istore_n (ls' := [(1, .int (0 : Int32)), (0, .int a0)]) dX1_isTopic_1 rfl (by decide) rfl ?_
  exact r_sub [1, 0] rfl (t_X1_isTopic_2 xFU a0 (0 : Int32) h)
def f_X1_shareKey (a0 : Int32) (a1 : Int32) (h : Mem) : Option (Int32 × Mem) :=
  some (((a0 <<< ((20 : Int32) &&& 31)) ||| a1), h)
set_option maxRecDepth 20000 in
theorem c_X1_shareKey {G : xG} (a0 : Int32) (a1 : Int32) (h : Mem) : Sm G 0 yX1_shareKey FX1_shareKey xcI [.int a0, .int a1] h (f_X1_shareKey a0 a1 h) := by
  refine Sm.of pn_X1 rfl (Nat.le_of_ble_eq_true rfl) (ls := [(0, .int a0), (1, .int a1)]) rfl ?_
  unfold f_X1_shareKey
  refine r_iload_n (place := 0) dX1_shareKey_0 rfl rfl ?_
  refine r_bipush dX1_shareKey_1 xb_20 ?_
  refine r_ishl dX1_shareKey_3 ?_
  refine r_iload_n (place := 1) dX1_shareKey_4 rfl rfl ?_
  refine r_ior dX1_shareKey_5 ?_
  exact r_iret dX1_shareKey_6 rfl
def f_X6_clear_2  : Nat → Nat → Int32 → Mem → Option (Unit × Mem)
  | 0, _, _, _ => none
  | n + 1, a0, a1, h =>
    if (6 : Int32) ≤ a1 then
        b2 (f_X3_clear (xrf a0 1) h) fun _ h1 =>
        b2 (f_X3_clear (xrf a0 2) h1) fun _ h2 =>
        mlet (mu h2 a0 3 (0 : Int32)) fun h3 =>
        mlet (mu h3 a0 4 (0 : Int32)) fun h4 =>
        some ((), h4)
    else
        aald (xrf a0 0) a1 fun q5 =>
        b2 (f_X0_clear q5 h) fun _ h6 =>
        (f_X6_clear_2 n) a0 (a1 + (1 : Int32)) h6
set_option maxRecDepth 20000 in
theorem t_X6_clear_2 {G : xG}  : ∀ (n : Nat) (a0 : Nat) (a1 : Int32) (ta0 : xTy a0 5) (h : Mem), Rn G 4 FX6_clear xcV 2 [(0, .ref (G.1 a0)), (1, .int a1)] [] h (f_X6_clear_2 n a0 a1 h) := by
  intro n
  induction n with
  | zero => intros; intro r hr; cases hr
  | succ n ih =>
    intro a0 a1 ta0 h
    unfold f_X6_clear_2
    refine r_iload_n (place := 1) dX6_clear_2 rfl rfl ?_
    refine r_bipush dX6_clear_3 xb_6 ?_
    refine r_ic_ge (tgt := 23) dX6_clear_5 (by decide) ?_ ?_
    · refine r_aload_n (place := 0) dX6_clear_23 rfl rfl ?_
      refine r_getR dX6_clear_24 fg_X6_22 ta0 ?_
      refine r_callVV (rest := []) dX6_clear_27 m_X3_clear lk_X6_33 rfl (by decide) (xt_5_1 ta0) (c_X3_clear (xrf a0 1) (xt_5_1 ta0) h) (by decide) rfl rfl (Nat.le_of_ble_eq_true rfl) (fun h1 => ?_)
      refine r_aload_n (place := 0) dX6_clear_30 rfl rfl ?_
      refine r_getR dX6_clear_31 fg_X6_26 ta0 ?_
      refine r_callVV (rest := []) dX6_clear_34 m_X3_clear lk_X6_33 rfl (by decide) (xt_5_2 ta0) (c_X3_clear (xrf a0 2) (xt_5_2 ta0) h1) (by decide) rfl rfl (Nat.le_of_ble_eq_true rfl) (fun h2 => ?_)
      refine r_aload_n (place := 0) dX6_clear_37 rfl rfl ?_
      refine r_iconst dX6_clear_38 xc_0 ?_
      refine r_putI dX6_clear_39 fp_X6_34 ta0 ?_
      refine r_mem (fun h3 => ?_)
      refine r_aload_n (place := 0) dX6_clear_42 rfl rfl ?_
      refine r_iconst dX6_clear_43 xc_0 ?_
      refine r_putI dX6_clear_44 fp_X6_38 ta0 ?_
      refine r_mem (fun h4 => ?_)
      exact r_ret dX6_clear_47 rfl
    · refine r_aload_n (place := 0) dX6_clear_8 rfl rfl ?_
      refine r_getR dX6_clear_9 fg_X6_11 ta0 ?_
      refine r_iload_n (place := 1) dX6_clear_12 rfl rfl ?_
      refine r_aald10 dX6_clear_13 (xt_5_0 ta0) (fun q5 tq5 => ?_)
      refine r_callVV (rest := []) dX6_clear_14 m_X0_clear lk_X6_30 rfl (by decide) tq5 (c_X0_clear q5 tq5 h) (by decide) rfl rfl (Nat.le_of_ble_eq_true rfl) (fun h6 => ?_)
      refine r_iincC (place := 1) (ls' := [(1, .int (a1 + (1 : Int32))), (0, .ref (G.1 a0))]) dX6_clear_17 rfl xc_1 (by decide) rfl ?_
      refine r_goto (tgt := 2) dX6_clear_20 (by decide) ?_
      exact r_sub [1, 0] rfl (ih a0 (a1 + (1 : Int32)) ta0 h6)
def f_X6_clear (a0 : Nat) (h : Mem) : Option (Unit × Mem) :=
  f_X6_clear_2 xFU a0 (0 : Int32) h
set_option maxRecDepth 20000 in
theorem c_X6_clear {G : xG} (a0 : Nat) (ta0 : xTy a0 5) (h : Mem) : Sm G 4 yX6_clear FX6_clear xcV [.ref (G.1 a0)] h (f_X6_clear a0 h) := by
  refine Sm.of pn_X6 rfl (Nat.le_of_ble_eq_true rfl) (ls := [(0, .ref (G.1 a0))]) rfl ?_
  unfold f_X6_clear
  refine r_iconst dX6_clear_0 xc_0 ?_
  refine r_istore_n (ls' := [(1, .int (0 : Int32)), (0, .ref (G.1 a0))]) dX6_clear_1 rfl (by decide) rfl ?_
  exact r_sub [1, 0] rfl (t_X6_clear_2 xFU a0 (0 : Int32) ta0 h)
def f_X4_at (a0 : Nat) (a1 : Int32) (h : Mem) : Option (Int32 × Mem) :=
  if a1 < 0 then
      some ((-1 : Int32), h)
  else
      if (h a0 1) ≤ a1 then
          some ((-1 : Int32), h)
      else
          if (200 : Int32) ≤ a1 then
              some ((-1 : Int32), h)
          else
              ald h (xrf a0 0) a1 fun v1 =>
              some (v1, h)
set_option maxRecDepth 20000 in
theorem c_X4_at {G : xG} (a0 : Nat) (ta0 : xTy a0 3) (a1 : Int32) (h : Mem) : Sm G 0 yX4_at FX4_at xcI [.ref (G.1 a0), .int a1] h (f_X4_at a0 a1 h) := by
  refine Sm.of pn_X4 rfl (Nat.le_of_ble_eq_true rfl) (ls := [(0, .ref (G.1 a0)), (1, .int a1)]) rfl ?_
  unfold f_X4_at
  refine r_iload_n (place := 1) dX4_at_0 rfl rfl ?_
  refine r_if_lt (tgt := 28) dX4_at_1 (by decide) ?_ ?_
  · refine r_iconst dX4_at_28 xc_m1 ?_
    exact r_iret dX4_at_29 rfl
  · refine r_iload_n (place := 1) dX4_at_4 rfl rfl ?_
    refine r_aload_n (place := 0) dX4_at_5 rfl rfl ?_
    refine r_getI dX4_at_6 fg_X4_15 ta0 ?_
    refine r_ic_ge (tgt := 28) dX4_at_9 (by decide) ?_ ?_
    · refine r_iconst dX4_at_28 xc_m1 ?_
      exact r_iret dX4_at_29 rfl
    · refine r_iload_n (place := 1) dX4_at_12 rfl rfl ?_
      refine r_sipush dX4_at_13 xs_200 ?_
      refine r_ic_ge (tgt := 28) dX4_at_16 (by decide) ?_ ?_
      · refine r_iconst dX4_at_28 xc_m1 ?_
        exact r_iret dX4_at_29 rfl
      · refine r_aload_n (place := 0) dX4_at_19 rfl rfl ?_
        refine r_getR dX4_at_20 fg_X4_9 ta0 ?_
        refine r_iload_n (place := 1) dX4_at_23 rfl rfl ?_
        refine r_iald dX4_at_24 (xt_3_0 ta0) (fun v1 => ?_)
        refine r_goto (tgt := 29) dX4_at_25 (by decide) ?_
        exact r_iret dX4_at_29 rfl
def f_X2_isLetter (a0 : Int32) (h : Mem) : Option (Int32 × Mem) :=
  if a0 < (97 : Int32) then
      some ((0 : Int32), h)
  else
      if (122 : Int32) < a0 then
          some ((0 : Int32), h)
      else
          some ((1 : Int32), h)
set_option maxRecDepth 20000 in
theorem c_X2_isLetter {G : xG} (a0 : Int32) (h : Mem) : Sm G 0 yX2_isLetter FX2_isLetter xcI [.int a0] h (f_X2_isLetter a0 h) := by
  refine Sm.of pn_X2 rfl (Nat.le_of_ble_eq_true rfl) (ls := [(0, .int a0)]) rfl ?_
  unfold f_X2_isLetter
  refine r_iload_n (place := 0) dX2_isLetter_0 rfl rfl ?_
  refine r_bipush dX2_isLetter_1 xb_97 ?_
  refine r_ic_lt (tgt := 16) dX2_isLetter_3 (by decide) ?_ ?_
  · refine r_iconst dX2_isLetter_16 xc_0 ?_
    exact r_zret1 dX2_isLetter_17 rfl (by decide)
  · refine r_iload_n (place := 0) dX2_isLetter_6 rfl rfl ?_
    refine r_bipush dX2_isLetter_7 xb_122 ?_
    refine r_ic_gt (tgt := 16) dX2_isLetter_9 (by decide) ?_ ?_
    · refine r_iconst dX2_isLetter_16 xc_0 ?_
      exact r_zret1 dX2_isLetter_17 rfl (by decide)
    · refine r_iconst dX2_isLetter_12 xc_1 ?_
      refine r_goto (tgt := 17) dX2_isLetter_13 (by decide) ?_
      exact r_zret1 dX2_isLetter_17 rfl (by decide)
def f_X2_scanName_5  : Nat → Nat → Mem → Option (Unit × Mem)
  | 0, _, _ => none
  | n + 1, a0, h =>
    if (200 : Int32) ≤ (h a0 2) then
        some ((), h)
    else
        b2 (f_X4_at (xrf a0 0) (h a0 2) h) fun v2 h1 =>
        b2 (f_X2_isLetter v2 h1) fun v4 h3 =>
        if v4 = 0 then
            some ((), h3)
        else
            mlet (mu h3 a0 2 ((h3 a0 2) + (1 : Int32))) fun h5 =>
            (f_X2_scanName_5 n) a0 h5
set_option maxRecDepth 20000 in
theorem t_X2_scanName_5 {G : xG}  : ∀ (n : Nat) (a0 : Nat) (ta0 : xTy a0 1) (h : Mem), Rn G 1 FX2_scanName xcV 5 [(0, .ref (G.1 a0))] [] h (f_X2_scanName_5 n a0 h) := by
  intro n
  induction n with
  | zero => intros; intro r hr; cases hr
  | succ n ih =>
    intro a0 ta0 h
    unfold f_X2_scanName_5
    refine r_aload_n (place := 0) dX2_scanName_5 rfl rfl ?_
    refine r_getI dX2_scanName_6 fg_X2_28 ta0 ?_
    refine r_sipush dX2_scanName_9 xs_200 ?_
    refine r_ic_ge (tgt := 45) dX2_scanName_12 (by decide) ?_ ?_
    · exact r_ret dX2_scanName_45 rfl
    · refine r_aload_n (place := 0) dX2_scanName_15 rfl rfl ?_
      refine r_getR dX2_scanName_16 fg_X2_12 ta0 ?_
      refine r_aload_n (place := 0) dX2_scanName_19 rfl rfl ?_
      refine r_getI dX2_scanName_20 fg_X2_28 ta0 ?_
      refine r_callVI (rest := []) dX2_scanName_23 m_X4_at lk_X2_130 rfl (by decide) (xt_1_0 ta0) (c_X4_at (xrf a0 0) (xt_1_0 ta0) (h a0 2) h) (by decide) rfl rfl (Nat.le_of_ble_eq_true rfl) (fun v2 h1 => ?_)
      refine r_callSI (rest := []) dX2_scanName_26 m_X2_isLetter lk_X2_148 (c_X2_isLetter v2 h1) (by decide) rfl rfl (Nat.le_of_ble_eq_true rfl) (fun v4 h3 => ?_)
      refine r_if_eq (tgt := 45) dX2_scanName_29 (by decide) ?_ ?_
      · exact r_ret dX2_scanName_45 rfl
      · refine r_aload_n (place := 0) dX2_scanName_32 rfl rfl ?_
        refine r_dup dX2_scanName_33 rfl ?_
        refine r_getI dX2_scanName_34 fg_X2_28 ta0 ?_
        refine r_iconst dX2_scanName_37 xc_1 ?_
        refine r_iadd dX2_scanName_38 ?_
        refine r_putI dX2_scanName_39 fp_X2_28 ta0 ?_
        refine r_mem (fun h5 => ?_)
        refine r_goto (tgt := 5) dX2_scanName_42 (by decide) ?_
        exact r_sub [0] rfl (ih a0 ta0 h5)
def f_X2_scanName (a0 : Nat) (h : Mem) : Option (Unit × Mem) :=
  mlet (mu h a0 4 (1 : Int32)) fun h1 =>
  f_X2_scanName_5 xFU a0 h1
set_option maxRecDepth 20000 in
theorem c_X2_scanName {G : xG} (a0 : Nat) (ta0 : xTy a0 1) (h : Mem) : Sm G 1 yX2_scanName FX2_scanName xcV [.ref (G.1 a0)] h (f_X2_scanName a0 h) := by
  refine Sm.of pn_X2 rfl (Nat.le_of_ble_eq_true rfl) (ls := [(0, .ref (G.1 a0))]) rfl ?_
  unfold f_X2_scanName
  refine r_aload_n (place := 0) dX2_scanName_0 rfl rfl ?_
  refine r_iconst dX2_scanName_1 xc_1 ?_
  refine r_putI dX2_scanName_2 fp_X2_44 ta0 ?_
  refine r_mem (fun h1 => ?_)
  exact r_sub [0] rfl (t_X2_scanName_5 xFU a0 ta0 h1)
def f_X2_isFigure (a0 : Int32) (h : Mem) : Option (Int32 × Mem) :=
  if a0 < (48 : Int32) then
      some ((0 : Int32), h)
  else
      if (57 : Int32) < a0 then
          some ((0 : Int32), h)
      else
          some ((1 : Int32), h)
set_option maxRecDepth 20000 in
theorem c_X2_isFigure {G : xG} (a0 : Int32) (h : Mem) : Sm G 0 yX2_isFigure FX2_isFigure xcI [.int a0] h (f_X2_isFigure a0 h) := by
  refine Sm.of pn_X2 rfl (Nat.le_of_ble_eq_true rfl) (ls := [(0, .int a0)]) rfl ?_
  unfold f_X2_isFigure
  refine r_iload_n (place := 0) dX2_isFigure_0 rfl rfl ?_
  refine r_bipush dX2_isFigure_1 xb_48 ?_
  refine r_ic_lt (tgt := 16) dX2_isFigure_3 (by decide) ?_ ?_
  · refine r_iconst dX2_isFigure_16 xc_0 ?_
    exact r_zret1 dX2_isFigure_17 rfl (by decide)
  · refine r_iload_n (place := 0) dX2_isFigure_6 rfl rfl ?_
    refine r_bipush dX2_isFigure_7 xb_57 ?_
    refine r_ic_gt (tgt := 16) dX2_isFigure_9 (by decide) ?_ ?_
    · refine r_iconst dX2_isFigure_16 xc_0 ?_
      exact r_zret1 dX2_isFigure_17 rfl (by decide)
    · refine r_iconst dX2_isFigure_12 xc_1 ?_
      refine r_goto (tgt := 17) dX2_isFigure_13 (by decide) ?_
      exact r_zret1 dX2_isFigure_17 rfl (by decide)
def f_X2_fail (a0 : Nat) (a1 : Int32) (h : Mem) : Option (Unit × Mem) :=
  if (h a0 6) = 0 then
      mlet (mu h a0 6 a1) fun h1 =>
      mlet (mu h1 a0 7 (h1 a0 3)) fun h2 =>
      some ((), h2)
  else
      some ((), h)
set_option maxRecDepth 20000 in
theorem c_X2_fail {G : xG} (a0 : Nat) (ta0 : xTy a0 1) (a1 : Int32) (h : Mem) : Sm G 0 yX2_fail FX2_fail xcV [.ref (G.1 a0), .int a1] h (f_X2_fail a0 a1 h) := by
  refine Sm.of pn_X2 rfl (Nat.le_of_ble_eq_true rfl) (ls := [(0, .ref (G.1 a0)), (1, .int a1)]) rfl ?_
  unfold f_X2_fail
  refine r_aload_n (place := 0) dX2_fail_0 rfl rfl ?_
  refine r_getI dX2_fail_1 fg_X2_32 ta0 ?_
  refine r_if_ne (tgt := 20) dX2_fail_4 (by decide) ?_ ?_
  · exact r_ret dX2_fail_20 rfl
  · refine r_aload_n (place := 0) dX2_fail_7 rfl rfl ?_
    refine r_iload_n (place := 1) dX2_fail_8 rfl rfl ?_
    refine r_putI dX2_fail_9 fp_X2_32 ta0 ?_
    refine r_mem (fun h1 => ?_)
    refine r_aload_n (place := 0) dX2_fail_12 rfl rfl ?_
    refine r_aload_n (place := 0) dX2_fail_13 rfl rfl ?_
    refine r_getI dX2_fail_14 fg_X2_127 ta0 ?_
    refine r_putI dX2_fail_17 fp_X2_35 ta0 ?_
    refine r_mem (fun h2 => ?_)
    exact r_ret dX2_fail_20 rfl
def f_X2_scanNumber_76  (a0 : Nat) (h : Mem) : Option (Unit × Mem) :=
  if ((h a0 2) - (h a0 3)) ≤ (2 : Int32) then
      some ((), h)
  else
      b2 (f_X2_fail a0 (1 : Int32) h) fun _ h1 =>
      some ((), h1)
set_option maxRecDepth 20000 in
theorem t_X2_scanNumber_76 {G : xG}  (a0 : Nat) (ta0 : xTy a0 1) (h : Mem) : Rn G 1 FX2_scanNumber xcV 76 [(0, .ref (G.1 a0))] [] h (f_X2_scanNumber_76 a0 h) := by
  unfold f_X2_scanNumber_76
  refine r_aload_n (place := 0) dX2_scanNumber_76 rfl rfl ?_
  refine r_getI dX2_scanNumber_77 fg_X2_28 ta0 ?_
  refine r_aload_n (place := 0) dX2_scanNumber_80 rfl rfl ?_
  refine r_getI dX2_scanNumber_81 fg_X2_127 ta0 ?_
  refine r_isub dX2_scanNumber_84 ?_
  refine r_iconst dX2_scanNumber_85 xc_2 ?_
  refine r_ic_le (tgt := 94) dX2_scanNumber_86 (by decide) ?_ ?_
  · exact r_ret dX2_scanNumber_94 rfl
  · refine r_aload_n (place := 0) dX2_scanNumber_89 rfl rfl ?_
    refine r_iconst dX2_scanNumber_90 xc_1 ?_
    refine r_callVV (rest := []) dX2_scanNumber_91 m_X2_fail lk_X2_61 rfl (by decide) ta0 (c_X2_fail a0 ta0 (1 : Int32) h) (by decide) rfl rfl (Nat.le_of_ble_eq_true rfl) (fun h1 => ?_)
    exact r_ret dX2_scanNumber_94 rfl
def f_X2_scanNumber_10  : Nat → Nat → Mem → Option (Unit × Mem)
  | 0, _, _ => none
  | n + 1, a0, h =>
    if (200 : Int32) ≤ (h a0 2) then
        f_X2_scanNumber_76 a0 h
    else
        b2 (f_X4_at (xrf a0 0) (h a0 2) h) fun v2 h1 =>
        b2 (f_X2_isFigure v2 h1) fun v4 h3 =>
        if v4 = 0 then
            f_X2_scanNumber_76 a0 h3
        else
            b2 (f_X4_at (xrf a0 0) (h3 a0 2) h3) fun v6 h5 =>
            mlet (mu h5 a0 5 ((((h3 a0 5) * (10 : Int32)) + v6) - (48 : Int32))) fun h7 =>
            mlet (mu h7 a0 2 ((h7 a0 2) + (1 : Int32))) fun h8 =>
            (f_X2_scanNumber_10 n) a0 h8
set_option maxRecDepth 20000 in
theorem t_X2_scanNumber_10 {G : xG}  : ∀ (n : Nat) (a0 : Nat) (ta0 : xTy a0 1) (h : Mem), Rn G 1 FX2_scanNumber xcV 10 [(0, .ref (G.1 a0))] [] h (f_X2_scanNumber_10 n a0 h) := by
  intro n
  induction n with
  | zero => intros; intro r hr; cases hr
  | succ n ih =>
    intro a0 ta0 h
    unfold f_X2_scanNumber_10
    refine r_aload_n (place := 0) dX2_scanNumber_10 rfl rfl ?_
    refine r_getI dX2_scanNumber_11 fg_X2_28 ta0 ?_
    refine r_sipush dX2_scanNumber_14 xs_200 ?_
    refine r_ic_ge (tgt := 76) dX2_scanNumber_17 (by decide) ?_ ?_
    · exact r_sub [0] rfl (t_X2_scanNumber_76 a0 ta0 h)
    · refine r_aload_n (place := 0) dX2_scanNumber_20 rfl rfl ?_
      refine r_getR dX2_scanNumber_21 fg_X2_12 ta0 ?_
      refine r_aload_n (place := 0) dX2_scanNumber_24 rfl rfl ?_
      refine r_getI dX2_scanNumber_25 fg_X2_28 ta0 ?_
      refine r_callVI (rest := []) dX2_scanNumber_28 m_X4_at lk_X2_130 rfl (by decide) (xt_1_0 ta0) (c_X4_at (xrf a0 0) (xt_1_0 ta0) (h a0 2) h) (by decide) rfl rfl (Nat.le_of_ble_eq_true rfl) (fun v2 h1 => ?_)
      refine r_callSI (rest := []) dX2_scanNumber_31 m_X2_isFigure lk_X2_154 (c_X2_isFigure v2 h1) (by decide) rfl rfl (Nat.le_of_ble_eq_true rfl) (fun v4 h3 => ?_)
      refine r_if_eq (tgt := 76) dX2_scanNumber_34 (by decide) ?_ ?_
      · exact r_sub [0] rfl (t_X2_scanNumber_76 a0 ta0 h3)
      · refine r_aload_n (place := 0) dX2_scanNumber_37 rfl rfl ?_
        refine r_aload_n (place := 0) dX2_scanNumber_38 rfl rfl ?_
        refine r_getI dX2_scanNumber_39 fg_X2_133 ta0 ?_
        refine r_bipush dX2_scanNumber_42 xb_10 ?_
        refine r_imul dX2_scanNumber_44 ?_
        refine r_aload_n (place := 0) dX2_scanNumber_45 rfl rfl ?_
        refine r_getR dX2_scanNumber_46 fg_X2_12 ta0 ?_
        refine r_aload_n (place := 0) dX2_scanNumber_49 rfl rfl ?_
        refine r_getI dX2_scanNumber_50 fg_X2_28 ta0 ?_
        refine r_callVI (rest := [.int ((h3 a0 5) * (10 : Int32)), .ref (G.1 a0)]) dX2_scanNumber_53 m_X4_at lk_X2_130 rfl (by decide) (xt_1_0 ta0) (c_X4_at (xrf a0 0) (xt_1_0 ta0) (h3 a0 2) h3) (by decide) rfl rfl (Nat.le_of_ble_eq_true rfl) (fun v6 h5 => ?_)
        refine r_iadd dX2_scanNumber_56 ?_
        refine r_bipush dX2_scanNumber_57 xb_48 ?_
        refine r_isub dX2_scanNumber_59 ?_
        refine r_putI dX2_scanNumber_60 fp_X2_133 ta0 ?_
        refine r_mem (fun h7 => ?_)
        refine r_aload_n (place := 0) dX2_scanNumber_63 rfl rfl ?_
        refine r_dup dX2_scanNumber_64 rfl ?_
        refine r_getI dX2_scanNumber_65 fg_X2_28 ta0 ?_
        refine r_iconst dX2_scanNumber_68 xc_1 ?_
        refine r_iadd dX2_scanNumber_69 ?_
        refine r_putI dX2_scanNumber_70 fp_X2_28 ta0 ?_
        refine r_mem (fun h8 => ?_)
        refine r_goto (tgt := 10) dX2_scanNumber_73 (by decide) ?_
        exact r_sub [0] rfl (ih a0 ta0 h8)
def f_X2_scanNumber (a0 : Nat) (h : Mem) : Option (Unit × Mem) :=
  mlet (mu h a0 4 (2 : Int32)) fun h1 =>
  mlet (mu h1 a0 5 (0 : Int32)) fun h2 =>
  f_X2_scanNumber_10 xFU a0 h2
set_option maxRecDepth 20000 in
theorem c_X2_scanNumber {G : xG} (a0 : Nat) (ta0 : xTy a0 1) (h : Mem) : Sm G 1 yX2_scanNumber FX2_scanNumber xcV [.ref (G.1 a0)] h (f_X2_scanNumber a0 h) := by
  refine Sm.of pn_X2 rfl (Nat.le_of_ble_eq_true rfl) (ls := [(0, .ref (G.1 a0))]) rfl ?_
  unfold f_X2_scanNumber
  refine r_aload_n (place := 0) dX2_scanNumber_0 rfl rfl ?_
  refine r_iconst dX2_scanNumber_1 xc_2 ?_
  refine r_putI dX2_scanNumber_2 fp_X2_44 ta0 ?_
  refine r_mem (fun h1 => ?_)
  refine r_aload_n (place := 0) dX2_scanNumber_5 rfl rfl ?_
  refine r_iconst dX2_scanNumber_6 xc_0 ?_
  refine r_putI dX2_scanNumber_7 fp_X2_133 ta0 ?_
  refine r_mem (fun h2 => ?_)
  exact r_sub [0] rfl (t_X2_scanNumber_10 xFU a0 ta0 h2)
def f_X2_scanSign (a0 : Nat) (a1 : Int32) (h : Mem) : Option (Unit × Mem) :=
  mlet (mu h a0 4 a1) fun h1 =>
  mlet (mu h1 a0 2 ((h1 a0 2) + (1 : Int32))) fun h2 =>
  if a1 = (47 : Int32) then
      some ((), h2)
  else
      if a1 = (43 : Int32) then
          some ((), h2)
      else
          if a1 = (35 : Int32) then
              some ((), h2)
          else
              if a1 = (59 : Int32) then
                  some ((), h2)
              else
                  b2 (f_X2_fail a0 (1 : Int32) h2) fun _ h3 =>
                  some ((), h3)
set_option maxRecDepth 20000 in
theorem c_X2_scanSign {G : xG} (a0 : Nat) (ta0 : xTy a0 1) (a1 : Int32) (h : Mem) : Sm G 1 yX2_scanSign FX2_scanSign xcV [.ref (G.1 a0), .int a1] h (f_X2_scanSign a0 a1 h) := by
  refine Sm.of pn_X2 rfl (Nat.le_of_ble_eq_true rfl) (ls := [(0, .ref (G.1 a0)), (1, .int a1)]) rfl ?_
  unfold f_X2_scanSign
  refine r_aload_n (place := 0) dX2_scanSign_0 rfl rfl ?_
  refine r_iload_n (place := 1) dX2_scanSign_1 rfl rfl ?_
  refine r_putI dX2_scanSign_2 fp_X2_44 ta0 ?_
  refine r_mem (fun h1 => ?_)
  refine r_aload_n (place := 0) dX2_scanSign_5 rfl rfl ?_
  refine r_dup dX2_scanSign_6 rfl ?_
  refine r_getI dX2_scanSign_7 fg_X2_28 ta0 ?_
  refine r_iconst dX2_scanSign_10 xc_1 ?_
  refine r_iadd dX2_scanSign_11 ?_
  refine r_putI dX2_scanSign_12 fp_X2_28 ta0 ?_
  refine r_mem (fun h2 => ?_)
  refine r_iload_n (place := 1) dX2_scanSign_15 rfl rfl ?_
  refine r_bipush dX2_scanSign_16 xb_47 ?_
  refine r_ic_eq (tgt := 44) dX2_scanSign_18 (by decide) ?_ ?_
  · exact r_ret dX2_scanSign_44 rfl
  · refine r_iload_n (place := 1) dX2_scanSign_21 rfl rfl ?_
    refine r_bipush dX2_scanSign_22 xb_43 ?_
    refine r_ic_eq (tgt := 44) dX2_scanSign_24 (by decide) ?_ ?_
    · exact r_ret dX2_scanSign_44 rfl
    · refine r_iload_n (place := 1) dX2_scanSign_27 rfl rfl ?_
      refine r_bipush dX2_scanSign_28 xb_35 ?_
      refine r_ic_eq (tgt := 44) dX2_scanSign_30 (by decide) ?_ ?_
      · exact r_ret dX2_scanSign_44 rfl
      · refine r_iload_n (place := 1) dX2_scanSign_33 rfl rfl ?_
        refine r_bipush dX2_scanSign_34 xb_59 ?_
        refine r_ic_eq (tgt := 44) dX2_scanSign_36 (by decide) ?_ ?_
        · exact r_ret dX2_scanSign_44 rfl
        · refine r_aload_n (place := 0) dX2_scanSign_39 rfl rfl ?_
          refine r_iconst dX2_scanSign_40 xc_1 ?_
          refine r_callVV (rest := []) dX2_scanSign_41 m_X2_fail lk_X2_61 rfl (by decide) ta0 (c_X2_fail a0 ta0 (1 : Int32) h2) (by decide) rfl rfl (Nat.le_of_ble_eq_true rfl) (fun h3 => ?_)
          exact r_ret dX2_scanSign_44 rfl
def f_X2_advance_47  (a0 : Nat) (h : Mem) : Option (Unit × Mem) :=
  mlet (mu h a0 3 (h a0 2)) fun h1 =>
  b2 (f_X4_at (xrf a0 0) (h1 a0 3) h1) fun v3 h2 =>
  if 0 ≤ v3 then
      b2 (f_X2_isLetter v3 h2) fun v5 h4 =>
      if v5 = 0 then
          b2 (f_X2_isFigure v3 h4) fun v7 h6 =>
          if v7 = 0 then
              b2 (f_X2_scanSign a0 v3 h6) fun _ h8 =>
              some ((), h8)
          else
              b2 (f_X2_scanNumber a0 h6) fun _ h9 =>
              some ((), h9)
      else
          b2 (f_X2_scanName a0 h4) fun _ h10 =>
          some ((), h10)
  else
      mlet (mu h2 a0 4 (0 : Int32)) fun h11 =>
      some ((), h11)
set_option maxRecDepth 20000 in
theorem t_X2_advance_47 {G : xG}  (a0 : Nat) (ta0 : xTy a0 1) (h : Mem) : Rn G 2 FX2_advance xcV 47 [(0, .ref (G.1 a0))] [] h (f_X2_advance_47 a0 h) := by
  unfold f_X2_advance_47
  refine r_aload_n (place := 0) dX2_advance_47 rfl rfl ?_
  refine r_aload_n (place := 0) dX2_advance_48 rfl rfl ?_
  refine r_getI dX2_advance_49 fg_X2_28 ta0 ?_
  refine r_putI dX2_advance_52 fp_X2_127 ta0 ?_
  refine r_mem (fun h1 => ?_)
  refine r_aload_n (place := 0) dX2_advance_55 rfl rfl ?_
  refine r_getR dX2_advance_56 fg_X2_12 ta0 ?_
  refine r_aload_n (place := 0) dX2_advance_59 rfl rfl ?_
  refine r_getI dX2_advance_60 fg_X2_127 ta0 ?_
  refine r_callVI (rest := []) dX2_advance_63 m_X4_at lk_X2_130 rfl (by decide) (xt_1_0 ta0) (c_X4_at (xrf a0 0) (xt_1_0 ta0) (h1 a0 3) h1) (by decide) rfl rfl (Nat.le_of_ble_eq_true rfl) (fun v3 h2 => ?_)
  refine r_istore_n (ls' := [(1, .int v3), (0, .ref (G.1 a0))]) dX2_advance_66 rfl (by decide) rfl ?_
  refine r_iload_n (place := 0) dX2_advance_67 rfl rfl ?_
  refine r_if_ge (tgt := 79) dX2_advance_68 (by decide) ?_ ?_
  · refine r_iload_n (place := 0) dX2_advance_79 rfl rfl ?_
    refine r_callSI (rest := []) dX2_advance_80 m_X2_isLetter lk_X2_148 (c_X2_isLetter v3 h2) (by decide) rfl rfl (Nat.le_of_ble_eq_true rfl) (fun v5 h4 => ?_)
    refine r_if_eq (tgt := 93) dX2_advance_83 (by decide) ?_ ?_
    · refine r_iload_n (place := 0) dX2_advance_93 rfl rfl ?_
      refine r_callSI (rest := []) dX2_advance_94 m_X2_isFigure lk_X2_154 (c_X2_isFigure v3 h4) (by decide) rfl rfl (Nat.le_of_ble_eq_true rfl) (fun v7 h6 => ?_)
      refine r_if_eq (tgt := 107) dX2_advance_97 (by decide) ?_ ?_
      · refine r_aload_n (place := 1) dX2_advance_107 rfl rfl ?_
        refine r_iload_n (place := 0) dX2_advance_108 rfl rfl ?_
        refine r_callVV (rest := []) dX2_advance_109 m_X2_scanSign lk_X2_160 rfl (by decide) ta0 (c_X2_scanSign a0 ta0 v3 h6) (by decide) rfl rfl (Nat.le_of_ble_eq_true rfl) (fun h8 => ?_)
        exact r_ret dX2_advance_112 rfl
      · refine r_aload_n (place := 1) dX2_advance_100 rfl rfl ?_
        refine r_callVV (rest := []) dX2_advance_101 m_X2_scanNumber lk_X2_157 rfl (by decide) ta0 (c_X2_scanNumber a0 ta0 h6) (by decide) rfl rfl (Nat.le_of_ble_eq_true rfl) (fun h9 => ?_)
        refine r_goto (tgt := 112) dX2_advance_104 (by decide) ?_
        exact r_ret dX2_advance_112 rfl
    · refine r_aload_n (place := 1) dX2_advance_86 rfl rfl ?_
      refine r_callVV (rest := []) dX2_advance_87 m_X2_scanName lk_X2_151 rfl (by decide) ta0 (c_X2_scanName a0 ta0 h4) (by decide) rfl rfl (Nat.le_of_ble_eq_true rfl) (fun h10 => ?_)
      refine r_goto (tgt := 112) dX2_advance_90 (by decide) ?_
      exact r_ret dX2_advance_112 rfl
  · refine r_aload_n (place := 1) dX2_advance_71 rfl rfl ?_
    refine r_iconst dX2_advance_72 xc_0 ?_
    refine r_putI dX2_advance_73 fp_X2_44 ta0 ?_
    refine r_mem (fun h11 => ?_)
    refine r_goto (tgt := 112) dX2_advance_76 (by decide) ?_
    exact r_ret dX2_advance_112 rfl
def f_X2_advance_8  : Nat → Nat → Mem → Option (Unit × Mem)
  | 0, _, _ => none
  | n + 1, a0, h =>
    if (200 : Int32) ≤ (h a0 2) then
        f_X2_advance_47 a0 h
    else
        b2 (f_X4_at (xrf a0 0) (h a0 2) h) fun v2 h1 =>
        if v2 = (32 : Int32) then
            mlet (mu h1 a0 2 ((h1 a0 2) + (1 : Int32))) fun h3 =>
            (f_X2_advance_8 n) a0 h3
        else
            f_X2_advance_47 a0 h1
set_option maxRecDepth 20000 in
theorem t_X2_advance_8 {G : xG}  : ∀ (n : Nat) (a0 : Nat) (ta0 : xTy a0 1) (h : Mem), Rn G 2 FX2_advance xcV 8 [(0, .ref (G.1 a0))] [] h (f_X2_advance_8 n a0 h) := by
  intro n
  induction n with
  | zero => intros; intro r hr; cases hr
  | succ n ih =>
    intro a0 ta0 h
    unfold f_X2_advance_8
    refine r_aload_n (place := 0) dX2_advance_8 rfl rfl ?_
    refine r_getI dX2_advance_9 fg_X2_28 ta0 ?_
    refine r_sipush dX2_advance_12 xs_200 ?_
    refine r_ic_ge (tgt := 47) dX2_advance_15 (by decide) ?_ ?_
    · exact r_sub [0] rfl (t_X2_advance_47 a0 ta0 h)
    · refine r_aload_n (place := 0) dX2_advance_18 rfl rfl ?_
      refine r_getR dX2_advance_19 fg_X2_12 ta0 ?_
      refine r_aload_n (place := 0) dX2_advance_22 rfl rfl ?_
      refine r_getI dX2_advance_23 fg_X2_28 ta0 ?_
      refine r_callVI (rest := []) dX2_advance_26 m_X4_at lk_X2_130 rfl (by decide) (xt_1_0 ta0) (c_X4_at (xrf a0 0) (xt_1_0 ta0) (h a0 2) h) (by decide) rfl rfl (Nat.le_of_ble_eq_true rfl) (fun v2 h1 => ?_)
      refine r_bipush dX2_advance_29 xb_32 ?_
      refine r_ic_ne (tgt := 47) dX2_advance_31 (by decide) ?_ ?_
      · exact r_sub [0] rfl (t_X2_advance_47 a0 ta0 h1)
      · refine r_aload_n (place := 0) dX2_advance_34 rfl rfl ?_
        refine r_dup dX2_advance_35 rfl ?_
        refine r_getI dX2_advance_36 fg_X2_28 ta0 ?_
        refine r_iconst dX2_advance_39 xc_1 ?_
        refine r_iadd dX2_advance_40 ?_
        refine r_putI dX2_advance_41 fp_X2_28 ta0 ?_
        refine r_mem (fun h3 => ?_)
        refine r_goto (tgt := 8) dX2_advance_44 (by decide) ?_
        exact r_sub [0] rfl (ih a0 ta0 h3)
def f_X2_advance (a0 : Nat) (h : Mem) : Option (Unit × Mem) :=
  if (h a0 6) = 0 then
      f_X2_advance_8 xFU a0 h
  else
      some ((), h)
set_option maxRecDepth 20000 in
theorem c_X2_advance {G : xG} (a0 : Nat) (ta0 : xTy a0 1) (h : Mem) : Sm G 2 yX2_advance FX2_advance xcV [.ref (G.1 a0)] h (f_X2_advance a0 h) := by
  refine Sm.of pn_X2 rfl (Nat.le_of_ble_eq_true rfl) (ls := [(0, .ref (G.1 a0))]) rfl ?_
  unfold f_X2_advance
  refine r_aload_n (place := 0) dX2_advance_0 rfl rfl ?_
  refine r_getI dX2_advance_1 fg_X2_32 ta0 ?_
  refine r_if_eq (tgt := 8) dX2_advance_4 (by decide) ?_ ?_
  · exact r_sub [0] rfl (t_X2_advance_8 xFU a0 ta0 h)
  · exact r_ret dX2_advance_7 rfl
def f_X7_outside_10   (h : Mem) : Option (Int32 × Mem) :=
  some ((1 : Int32), h)
set_option maxRecDepth 20000 in
theorem t_X7_outside_10 {G : xG}    (h : Mem) : Rn G 0 FX7_outside xcI 10 [] [] h (f_X7_outside_10  h) := by
  unfold f_X7_outside_10
  refine r_iconst dX7_outside_10 xc_1 ?_
  refine r_goto (tgt := 15) dX7_outside_11 (by decide) ?_
  exact r_zret1 dX7_outside_15 rfl (by decide)
def f_X7_outside (a0 : Int32) (a1 : Int32) (a2 : Int32) (h : Mem) : Option (Int32 × Mem) :=
  if a0 < a1 then
      f_X7_outside_10 h
  else
      if a0 ≤ a2 then
          some ((0 : Int32), h)
      else
          f_X7_outside_10 h
set_option maxRecDepth 20000 in
theorem c_X7_outside {G : xG} (a0 : Int32) (a1 : Int32) (a2 : Int32) (h : Mem) : Sm G 0 yX7_outside FX7_outside xcI [.int a0, .int a1, .int a2] h (f_X7_outside a0 a1 a2 h) := by
  refine Sm.of pn_X7 rfl (Nat.le_of_ble_eq_true rfl) (ls := [(0, .int a0), (1, .int a1), (2, .int a2)]) rfl ?_
  unfold f_X7_outside
  refine r_iload_n (place := 0) dX7_outside_0 rfl rfl ?_
  refine r_iload_n (place := 1) dX7_outside_1 rfl rfl ?_
  refine r_ic_lt (tgt := 10) dX7_outside_2 (by decide) ?_ ?_
  · exact r_sub [] rfl (t_X7_outside_10 h)
  · refine r_iload_n (place := 0) dX7_outside_5 rfl rfl ?_
    refine r_iload_n (place := 2) dX7_outside_6 rfl rfl ?_
    refine r_ic_le (tgt := 14) dX7_outside_7 (by decide) ?_ ?_
    · refine r_iconst dX7_outside_14 xc_0 ?_
      exact r_zret1 dX7_outside_15 rfl (by decide)
    · exact r_sub [] rfl (t_X7_outside_10 h)
def f_X2_takeNumber (a0 : Nat) (a1 : Int32) (a2 : Int32) (h : Mem) : Option (Int32 × Mem) :=
  if (h a0 6) = 0 then
      if (h a0 4) = (2 : Int32) then
          b2 (f_X7_outside (h a0 5) a1 a2 h) fun v2 h1 =>
          if v2 = 0 then
              b2 (f_X2_advance a0 h1) fun _ h3 =>
              some ((h1 a0 5), h3)
          else
              b2 (f_X2_fail a0 (3 : Int32) h1) fun _ h4 =>
              some (a1, h4)
      else
          b2 (f_X2_fail a0 (2 : Int32) h) fun _ h5 =>
          some (a1, h5)
  else
      some (a1, h)
set_option maxRecDepth 20000 in
theorem c_X2_takeNumber {G : xG} (a0 : Nat) (ta0 : xTy a0 1) (a1 : Int32) (a2 : Int32) (h : Mem) : Sm G 3 yX2_takeNumber FX2_takeNumber xcI [.ref (G.1 a0), .int a1, .int a2] h (f_X2_takeNumber a0 a1 a2 h) := by
  refine Sm.of pn_X2 rfl (Nat.le_of_ble_eq_true rfl) (ls := [(0, .ref (G.1 a0)), (1, .int a1), (2, .int a2)]) rfl ?_
  unfold f_X2_takeNumber
  refine r_aload_n (place := 0) dX2_takeNumber_0 rfl rfl ?_
  refine r_getI dX2_takeNumber_1 fg_X2_32 ta0 ?_
  refine r_if_eq (tgt := 9) dX2_takeNumber_4 (by decide) ?_ ?_
  · refine r_aload_n (place := 0) dX2_takeNumber_9 rfl rfl ?_
    refine r_getI dX2_takeNumber_10 fg_X2_44 ta0 ?_
    refine r_iconst dX2_takeNumber_13 xc_2 ?_
    refine r_ic_eq (tgt := 24) dX2_takeNumber_14 (by decide) ?_ ?_
    · refine r_aload_n (place := 0) dX2_takeNumber_24 rfl rfl ?_
      refine r_getI dX2_takeNumber_25 fg_X2_133 ta0 ?_
      refine r_iload_n (place := 1) dX2_takeNumber_28 rfl rfl ?_
      refine r_iload_n (place := 2) dX2_takeNumber_29 rfl rfl ?_
      refine r_callSI (rest := []) dX2_takeNumber_30 m_X7_outside lk_X2_136 (c_X7_outside (h a0 5) a1 a2 h) (by decide) rfl rfl (Nat.le_of_ble_eq_true rfl) (fun v2 h1 => ?_)
      refine r_if_eq (tgt := 43) dX2_takeNumber_33 (by decide) ?_ ?_
      · refine r_aload_n (place := 0) dX2_takeNumber_43 rfl rfl ?_
        refine r_getI dX2_takeNumber_44 fg_X2_133 ta0 ?_
        refine r_istore_n (ls' := [(3, .int (h1 a0 5)), (0, .ref (G.1 a0)), (1, .int a1), (2, .int a2)]) dX2_takeNumber_47 rfl (by decide) rfl ?_
        refine r_aload_n (place := 1) dX2_takeNumber_48 rfl rfl ?_
        refine r_callVV (rest := []) dX2_takeNumber_49 m_X2_advance lk_X2_41 rfl (by decide) ta0 (c_X2_advance a0 ta0 h1) (by decide) rfl rfl (Nat.le_of_ble_eq_true rfl) (fun h3 => ?_)
        refine r_iload_n (place := 0) dX2_takeNumber_52 rfl rfl ?_
        exact r_iret dX2_takeNumber_53 rfl
      · refine r_aload_n (place := 0) dX2_takeNumber_36 rfl rfl ?_
        refine r_iconst dX2_takeNumber_37 xc_3 ?_
        refine r_callVV (rest := []) dX2_takeNumber_38 m_X2_fail lk_X2_61 rfl (by decide) ta0 (c_X2_fail a0 ta0 (3 : Int32) h1) (by decide) rfl rfl (Nat.le_of_ble_eq_true rfl) (fun h4 => ?_)
        refine r_iload_n (place := 1) dX2_takeNumber_41 rfl rfl ?_
        exact r_iret dX2_takeNumber_42 rfl
    · refine r_aload_n (place := 0) dX2_takeNumber_17 rfl rfl ?_
      refine r_iconst dX2_takeNumber_18 xc_2 ?_
      refine r_callVV (rest := []) dX2_takeNumber_19 m_X2_fail lk_X2_61 rfl (by decide) ta0 (c_X2_fail a0 ta0 (2 : Int32) h) (by decide) rfl rfl (Nat.le_of_ble_eq_true rfl) (fun h5 => ?_)
      refine r_iload_n (place := 1) dX2_takeNumber_22 rfl rfl ?_
      exact r_iret dX2_takeNumber_23 rfl
  · refine r_iload_n (place := 1) dX2_takeNumber_7 rfl rfl ?_
    exact r_iret dX2_takeNumber_8 rfl
