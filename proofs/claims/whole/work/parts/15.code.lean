def f_X8_took (a0 : Nat) (a1 : Int32) (a2 : Int32) (a3 : Int32) (h : Mem) : Option (Int32 × Mem) :=
  b2 (f_X8_isClient a1 h) fun v2 h1 =>
  if v2 = 0 then
      some ((-1 : Int32), h1)
  else
      if a2 < 0 then
          some ((-1 : Int32), h1)
      else
          b2 (f_X8_in a3.toInt64 (0 : Int64) (3 : Int64) h1) fun v4 h3 =>
          if v4 = 0 then
              some ((-1 : Int32), h3)
          else
              b2 (f_X8_of a0 a1 (11 : Int32) h3) fun v6 h5 =>
              if v6 ≤ a2 then
                  some ((-4 : Int32), h5)
              else
                  b2 (f_X8_of a0 a1 (((281 : Int32) + ((4 : Int32) * a2)) + a3) h5) fun v8 h7 =>
                  some (v8, h7)
set_option maxRecDepth 20000 in
theorem c_X8_took {G : xG} (a0 : Nat) (ta0 : xTy a0 7) (a1 : Int32) (a2 : Int32) (a3 : Int32) (h : Mem) : Sm G 2 yX8_took FX8_took xcI [.ref (G.1 a0), .int a1, .int a2, .int a3] h (f_X8_took a0 a1 a2 a3 h) := by
  refine Sm.of pn_X8 rfl (Nat.le_of_ble_eq_true rfl) (ls := [(0, .ref (G.1 a0)), (1, .int a1), (2, .int a2), (3, .int a3)]) rfl ?_
  unfold f_X8_took
  refine r_iload_n (place := 1) dX8_took_0 rfl rfl ?_
  refine r_callSI (rest := []) dX8_took_1 m_X8_isClient lk_X8_249 (c_X8_isClient a1 h) (by decide) rfl rfl (Nat.le_of_ble_eq_true rfl) (fun v2 h1 => ?_)
  refine r_if_eq (tgt := 23) dX8_took_4 (by decide) ?_ ?_
  · refine r_iconst dX8_took_23 xc_m1 ?_
    exact r_iret dX8_took_24 rfl
  · refine r_iload_n (place := 2) dX8_took_7 rfl rfl ?_
    refine r_if_lt (tgt := 23) dX8_took_8 (by decide) ?_ ?_
    · refine r_iconst dX8_took_23 xc_m1 ?_
      exact r_iret dX8_took_24 rfl
    · refine r_iload_n (place := 3) dX8_took_11 rfl rfl ?_
      refine r_i2l dX8_took_12 ?_
      refine r_lconst dX8_took_13 xl_0 ?_
      refine r_ldc2 dX8_took_14 ll_X8_278 ?_
      refine r_callSI (rest := []) dX8_took_17 m_X8_in lk_X8_59 (c_X8_in a3.toInt64 (0 : Int64) (3 : Int64) h1) (by decide) rfl rfl (Nat.le_of_ble_eq_true rfl) (fun v4 h3 => ?_)
      refine r_if_ne (tgt := 25) dX8_took_20 (by decide) ?_ ?_
      · refine r_iload_n (place := 2) dX8_took_25 rfl rfl ?_
        refine r_aload_n (place := 0) dX8_took_26 rfl rfl ?_
        refine r_iload_n (place := 1) dX8_took_27 rfl rfl ?_
        refine r_bipush dX8_took_28 xb_11 ?_
        refine r_callVI (rest := [.int a2]) dX8_took_30 m_X8_of lk_X8_166 rfl (by decide) ta0 (c_X8_of a0 ta0 a1 (11 : Int32) h3) (by decide) rfl rfl (Nat.le_of_ble_eq_true rfl) (fun v6 h5 => ?_)
        refine r_ic_ge (tgt := 53) dX8_took_33 (by decide) ?_ ?_
        · refine r_bipush dX8_took_53 xb_m4 ?_
          exact r_iret dX8_took_55 rfl
        · refine r_aload_n (place := 0) dX8_took_36 rfl rfl ?_
          refine r_iload_n (place := 1) dX8_took_37 rfl rfl ?_
          refine r_sipush dX8_took_38 xs_281 ?_
          refine r_iconst dX8_took_41 xc_4 ?_
          refine r_iload_n (place := 2) dX8_took_42 rfl rfl ?_
          refine r_imul dX8_took_43 ?_
          refine r_iadd dX8_took_44 ?_
          refine r_iload_n (place := 3) dX8_took_45 rfl rfl ?_
          refine r_iadd dX8_took_46 ?_
          refine r_callVI (rest := []) dX8_took_47 m_X8_of lk_X8_166 rfl (by decide) ta0 (c_X8_of a0 ta0 a1 (((281 : Int32) + ((4 : Int32) * a2)) + a3) h5) (by decide) rfl rfl (Nat.le_of_ble_eq_true rfl) (fun v8 h7 => ?_)
          refine r_goto (tgt := 55) dX8_took_50 (by decide) ?_
          exact r_iret dX8_took_55 rfl
      · refine r_iconst dX8_took_23 xc_m1 ?_
        exact r_iret dX8_took_24 rfl
def f_X8_keep_31  : Nat → Nat → Int32 → Int32 → Int32 → Mem → Option (Int32 × Mem)
  | 0, _, _, _, _, _ => none
  | n + 1, a0, a1, a2, a3, h =>
    if (6074 : Int32) ≤ a3 then
        some (a2, h)
    else
        ald h (xrf a0 0) a3 fun v1 =>
        ast h (xrf a0 2) (((6074 : Int32) * a1) + a3) v1 fun h2 =>
        (f_X8_keep_31 n) a0 a1 a2 (a3 + (1 : Int32)) h2
set_option maxRecDepth 20000 in
theorem t_X8_keep_31 {G : xG}  : ∀ (n : Nat) (a0 : Nat) (a1 : Int32) (a2 : Int32) (a3 : Int32) (ta0 : xTy a0 7) (h : Mem), Rn G 1 FX8_keep xcI 31 [(0, .ref (G.1 a0)), (1, .int a1), (2, .int a2), (3, .int a3)] [] h (f_X8_keep_31 n a0 a1 a2 a3 h) := by
  intro n
  induction n with
  | zero => intros; intro r hr; cases hr
  | succ n ih =>
    intro a0 a1 a2 a3 ta0 h
    unfold f_X8_keep_31
    refine r_iload_n (place := 3) dX8_keep_31 rfl rfl ?_
    refine r_sipush dX8_keep_32 xs_6074 ?_
    refine r_ic_ge (tgt := 62) dX8_keep_35 (by decide) ?_ ?_
    · refine r_iload_n (place := 2) dX8_keep_62 rfl rfl ?_
      exact r_iret dX8_keep_63 rfl
    · refine r_aload_n (place := 0) dX8_keep_38 rfl rfl ?_
      refine r_getR dX8_keep_39 fg_X8_16 ta0 ?_
      refine r_sipush dX8_keep_42 xs_6074 ?_
      refine r_iload_n (place := 1) dX8_keep_45 rfl rfl ?_
      refine r_imul dX8_keep_46 ?_
      refine r_iload_n (place := 3) dX8_keep_47 rfl rfl ?_
      refine r_iadd dX8_keep_48 ?_
      refine r_aload_n (place := 0) dX8_keep_49 rfl rfl ?_
      refine r_getR dX8_keep_50 fg_X8_7 ta0 ?_
      refine r_iload_n (place := 3) dX8_keep_53 rfl rfl ?_
      refine r_iald dX8_keep_54 (xt_7_0 ta0) (fun v1 => ?_)
      refine r_iast dX8_keep_55 (xt_7_2 ta0) (fun h2 => ?_)
      refine r_iincC (place := 3) (ls' := [(3, .int (a3 + (1 : Int32))), (0, .ref (G.1 a0)), (1, .int a1), (2, .int a2)]) dX8_keep_56 rfl xc_1 (by decide) rfl ?_
      refine r_goto (tgt := 31) dX8_keep_59 (by decide) ?_
      exact r_sub [1, 2, 3, 0] rfl (ih a0 a1 a2 (a3 + (1 : Int32)) ta0 h2)
def f_X8_keep (a0 : Nat) (a1 : Int32) (h : Mem) : Option (Int32 × Mem) :=
  b2 (f_X8_in a1.toInt64 (0 : Int64) (1 : Int64) h) fun v2 h1 =>
  if v2 = 0 then
      some ((-1 : Int32), h1)
  else
      ald h1 (xrf a0 3) a1 fun v3 =>
      b2 (f_X8_flag v3 h1) fun v5 h4 =>
      ast h4 (xrf a0 3) a1 (1 : Int32) fun h6 =>
      f_X8_keep_31 xFU a0 a1 v5 (0 : Int32) h6
set_option maxRecDepth 20000 in
theorem c_X8_keep {G : xG} (a0 : Nat) (ta0 : xTy a0 7) (a1 : Int32) (h : Mem) : Sm G 1 yX8_keep FX8_keep xcI [.ref (G.1 a0), .int a1] h (f_X8_keep a0 a1 h) := by
  refine Sm.of pn_X8 rfl (Nat.le_of_ble_eq_true rfl) (ls := [(0, .ref (G.1 a0)), (1, .int a1)]) rfl ?_
  unfold f_X8_keep
  refine r_iload_n (place := 1) dX8_keep_0 rfl rfl ?_
  refine r_i2l dX8_keep_1 ?_
  refine r_lconst dX8_keep_2 xl_0 ?_
  refine r_lconst dX8_keep_3 xl_1 ?_
  refine r_callSI (rest := []) dX8_keep_4 m_X8_in lk_X8_59 (c_X8_in a1.toInt64 (0 : Int64) (1 : Int64) h) (by decide) rfl rfl (Nat.le_of_ble_eq_true rfl) (fun v2 h1 => ?_)
  refine r_if_ne (tgt := 12) dX8_keep_7 (by decide) ?_ ?_
  · refine r_aload_n (place := 0) dX8_keep_12 rfl rfl ?_
    refine r_getR dX8_keep_13 fg_X8_19 ta0 ?_
    refine r_iload_n (place := 1) dX8_keep_16 rfl rfl ?_
    refine r_zald dX8_keep_17 (xt_7_3 ta0) (fun v3 => ?_)
    refine r_callSI (rest := []) dX8_keep_18 m_X8_flag lk_X8_260 (c_X8_flag v3 h1) (by decide) rfl rfl (Nat.le_of_ble_eq_true rfl) (fun v5 h4 => ?_)
    refine r_istore_n (ls' := [(2, .int v5), (0, .ref (G.1 a0)), (1, .int a1)]) dX8_keep_21 rfl (by decide) rfl ?_
    refine r_aload_n (place := 1) dX8_keep_22 rfl rfl ?_
    refine r_getR dX8_keep_23 fg_X8_19 ta0 ?_
    refine r_iload_n (place := 2) dX8_keep_26 rfl rfl ?_
    refine r_iconst dX8_keep_27 xc_1 ?_
    refine r_zast dX8_keep_28 (xt_7_3 ta0) (by decide) (fun h6 => ?_)
    refine r_iconst dX8_keep_29 xc_0 ?_
    refine r_istore_n (ls' := [(3, .int (0 : Int32)), (2, .int v5), (0, .ref (G.1 a0)), (1, .int a1)]) dX8_keep_30 rfl (by decide) rfl ?_
    exact r_sub [2, 3, 1, 0] rfl (t_X8_keep_31 xFU a0 a1 v5 (0 : Int32) ta0 h6)
  · refine r_iconst dX8_keep_10 xc_m1 ?_
    exact r_iret dX8_keep_11 rfl
def f_X8_back_26  : Nat → Nat → Int32 → Int32 → Mem → Option (Int32 × Mem)
  | 0, _, _, _, _ => none
  | n + 1, a0, a1, a2, h =>
    if (6074 : Int32) ≤ a2 then
        ald h (xrf a0 0) (0 : Int32) fun v1 =>
        some (v1, h)
    else
        ald h (xrf a0 2) (((6074 : Int32) * a1) + a2) fun v2 =>
        ast h (xrf a0 0) a2 v2 fun h3 =>
        (f_X8_back_26 n) a0 a1 (a2 + (1 : Int32)) h3
set_option maxRecDepth 20000 in
theorem t_X8_back_26 {G : xG}  : ∀ (n : Nat) (a0 : Nat) (a1 : Int32) (a2 : Int32) (ta0 : xTy a0 7) (h : Mem), Rn G 1 FX8_back xcI 26 [(0, .ref (G.1 a0)), (1, .int a1), (2, .int a2)] [] h (f_X8_back_26 n a0 a1 a2 h) := by
  intro n
  induction n with
  | zero => intros; intro r hr; cases hr
  | succ n ih =>
    intro a0 a1 a2 ta0 h
    unfold f_X8_back_26
    refine r_iload_n (place := 2) dX8_back_26 rfl rfl ?_
    refine r_sipush dX8_back_27 xs_6074 ?_
    refine r_ic_ge (tgt := 57) dX8_back_30 (by decide) ?_ ?_
    · refine r_aload_n (place := 0) dX8_back_57 rfl rfl ?_
      refine r_getR dX8_back_58 fg_X8_7 ta0 ?_
      refine r_iconst dX8_back_61 xc_0 ?_
      refine r_iald dX8_back_62 (xt_7_0 ta0) (fun v1 => ?_)
      exact r_iret dX8_back_63 rfl
    · refine r_aload_n (place := 0) dX8_back_33 rfl rfl ?_
      refine r_getR dX8_back_34 fg_X8_7 ta0 ?_
      refine r_iload_n (place := 2) dX8_back_37 rfl rfl ?_
      refine r_aload_n (place := 0) dX8_back_38 rfl rfl ?_
      refine r_getR dX8_back_39 fg_X8_16 ta0 ?_
      refine r_sipush dX8_back_42 xs_6074 ?_
      refine r_iload_n (place := 1) dX8_back_45 rfl rfl ?_
      refine r_imul dX8_back_46 ?_
      refine r_iload_n (place := 2) dX8_back_47 rfl rfl ?_
      refine r_iadd dX8_back_48 ?_
      refine r_iald dX8_back_49 (xt_7_2 ta0) (fun v2 => ?_)
      refine r_iast dX8_back_50 (xt_7_0 ta0) (fun h3 => ?_)
      refine r_iincC (place := 2) (ls' := [(2, .int (a2 + (1 : Int32))), (0, .ref (G.1 a0)), (1, .int a1)]) dX8_back_51 rfl xc_1 (by decide) rfl ?_
      refine r_goto (tgt := 26) dX8_back_54 (by decide) ?_
      exact r_sub [1, 2, 0] rfl (ih a0 a1 (a2 + (1 : Int32)) ta0 h3)
def f_X8_back (a0 : Nat) (a1 : Int32) (h : Mem) : Option (Int32 × Mem) :=
  b2 (f_X8_in a1.toInt64 (0 : Int64) (1 : Int64) h) fun v2 h1 =>
  if v2 = 0 then
      some ((-1 : Int32), h1)
  else
      ald h1 (xrf a0 3) a1 fun v3 =>
      if v3 = 0 then
          some ((-2 : Int32), h1)
      else
          f_X8_back_26 xFU a0 a1 (0 : Int32) h1
set_option maxRecDepth 20000 in
theorem c_X8_back {G : xG} (a0 : Nat) (ta0 : xTy a0 7) (a1 : Int32) (h : Mem) : Sm G 1 yX8_back FX8_back xcI [.ref (G.1 a0), .int a1] h (f_X8_back a0 a1 h) := by
  refine Sm.of pn_X8 rfl (Nat.le_of_ble_eq_true rfl) (ls := [(0, .ref (G.1 a0)), (1, .int a1)]) rfl ?_
  unfold f_X8_back
  refine r_iload_n (place := 1) dX8_back_0 rfl rfl ?_
  refine r_i2l dX8_back_1 ?_
  refine r_lconst dX8_back_2 xl_0 ?_
  refine r_lconst dX8_back_3 xl_1 ?_
  refine r_callSI (rest := []) dX8_back_4 m_X8_in lk_X8_59 (c_X8_in a1.toInt64 (0 : Int64) (1 : Int64) h) (by decide) rfl rfl (Nat.le_of_ble_eq_true rfl) (fun v2 h1 => ?_)
  refine r_if_ne (tgt := 12) dX8_back_7 (by decide) ?_ ?_
  · refine r_aload_n (place := 0) dX8_back_12 rfl rfl ?_
    refine r_getR dX8_back_13 fg_X8_19 ta0 ?_
    refine r_iload_n (place := 1) dX8_back_16 rfl rfl ?_
    refine r_zald dX8_back_17 (xt_7_3 ta0) (fun v3 => ?_)
    refine r_if_ne (tgt := 24) dX8_back_18 (by decide) ?_ ?_
    · refine r_iconst dX8_back_24 xc_0 ?_
      refine r_istore_n (ls' := [(2, .int (0 : Int32)), (0, .ref (G.1 a0)), (1, .int a1)]) dX8_back_25 rfl (by decide) rfl ?_
      exact r_sub [1, 2, 0] rfl (t_X8_back_26 xFU a0 a1 (0 : Int32) ta0 h1)
    · refine r_bipush dX8_back_21 xb_m2 ?_
      exact r_iret dX8_back_23 rfl
  · refine r_iconst dX8_back_10 xc_m1 ?_
    exact r_iret dX8_back_11 rfl
