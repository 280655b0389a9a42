def f_X2_read_91 (kk33 : Nat → Int32 → Mem → Option (Int32 × Mem)) (a0 : Nat) (a1 : Int32) (h : Mem) : Option (Int32 × Mem) :=
  kk33 a0 (a1 + (1 : Int32)) h
set_option maxRecDepth 20000 in
theorem t_X2_read_91 {G : xG} (kk33 : Nat → Int32 → Mem → Option (Int32 × Mem)) (hk33 : ∀ (a0 : Nat) (a1 : Int32) (ta0 : xTy a0 1) (h : Mem), Rn G 6 FX2_read xcI 33 [(0, .ref (G.1 a0)), (1, .int a1)] [] h (kk33 a0 a1 h)) (a0 : Nat) (a1 : Int32) (ta0 : xTy a0 1) (h : Mem) : Rn G 6 FX2_read xcI 91 [(0, .ref (G.1 a0)), (1, .int a1)] [] h (f_X2_read_91 kk33 a0 a1 h) := by
  unfold f_X2_read_91
  refine r_iincC (place := 1) (ls' := [(1, .int (a1 + (1 : Int32))), (0, .ref (G.1 a0))]) dX2_read_91 rfl xc_1 (by decide) rfl ?_
  refine r_goto (tgt := 33) dX2_read_94 (by decide) ?_
  exact r_sub [1, 0] rfl (hk33 a0 (a1 + (1 : Int32)) ta0 h)
def f_X2_read_97  (a0 : Nat) (h : Mem) : Option (Int32 × Mem) :=
  if (h a0 6) = 0 then
      some ((h a0 8), h)
  else
      some (((-10 : Int32) - (h a0 7)), h)
set_option maxRecDepth 20000 in
theorem t_X2_read_97 {G : xG}  (a0 : Nat) (ta0 : xTy a0 1) (h : Mem) : Rn G 6 FX2_read xcI 97 [(0, .ref (G.1 a0))] [] h (f_X2_read_97 a0 h) := by
  unfold f_X2_read_97
  refine r_aload_n (place := 0) dX2_read_97 rfl rfl ?_
  refine r_getI dX2_read_98 fg_X2_32 ta0 ?_
  refine r_if_ne (tgt := 111) dX2_read_101 (by decide) ?_ ?_
  · refine r_bipush dX2_read_111 xb_m10 ?_
    refine r_aload_n (place := 0) dX2_read_113 rfl rfl ?_
    refine r_getI dX2_read_114 fg_X2_35 ta0 ?_
    refine r_isub dX2_read_117 ?_
    exact r_iret dX2_read_118 rfl
  · refine r_aload_n (place := 0) dX2_read_104 rfl rfl ?_
    refine r_getI dX2_read_105 fg_X2_38 ta0 ?_
    refine r_goto (tgt := 118) dX2_read_108 (by decide) ?_
    exact r_iret dX2_read_118 rfl
def f_X2_read_33  : Nat → Nat → Int32 → Mem → Option (Int32 × Mem)
  | 0, _, _, _ => none
  | n + 1, a0, a1, h =>
    if (200 : Int32) ≤ a1 then
        f_X2_read_97 a0 h
    else
        if (h a0 6) = 0 then
            if (h a0 4) = 0 then
                f_X2_read_97 a0 h
            else
                b2 (f_X2_spells a0 0 h) fun v2 h1 =>
                if v2 = 0 then
                    b2 (f_X2_spells a0 1 h1) fun v4 h3 =>
                    if v4 = 0 then
                        b2 (f_X2_fail a0 (2 : Int32) h3) fun _ h5 =>
                        f_X2_read_91 (f_X2_read_33 n) a0 a1 h5
                    else
                        b2 (f_X2_readKept a0 h3) fun _ h6 =>
                        f_X2_read_91 (f_X2_read_33 n) a0 a1 h6
                else
                    b2 (f_X2_readSubscription a0 h1) fun _ h7 =>
                    f_X2_read_91 (f_X2_read_33 n) a0 a1 h7
        else
            f_X2_read_97 a0 h
set_option maxRecDepth 20000 in
theorem t_X2_read_33 {G : xG}  : ∀ (n : Nat) (a0 : Nat) (a1 : Int32) (ta0 : xTy a0 1) (h : Mem), Rn G 6 FX2_read xcI 33 [(0, .ref (G.1 a0)), (1, .int a1)] [] h (f_X2_read_33 n a0 a1 h) := by
  intro n
  induction n with
  | zero => intros; intro r hr; cases hr
  | succ n ih =>
    intro a0 a1 ta0 h
    unfold f_X2_read_33
    refine r_iload_n (place := 1) dX2_read_33 rfl rfl ?_
    refine r_sipush dX2_read_34 xs_200 ?_
    refine r_ic_ge (tgt := 97) dX2_read_37 (by decide) ?_ ?_
    · exact r_sub [0] rfl (t_X2_read_97 a0 ta0 h)
    · refine r_aload_n (place := 0) dX2_read_40 rfl rfl ?_
      refine r_getI dX2_read_41 fg_X2_32 ta0 ?_
      refine r_if_ne (tgt := 97) dX2_read_44 (by decide) ?_ ?_
      · exact r_sub [0] rfl (t_X2_read_97 a0 ta0 h)
      · refine r_aload_n (place := 0) dX2_read_47 rfl rfl ?_
        refine r_getI dX2_read_48 fg_X2_44 ta0 ?_
        refine r_if_eq (tgt := 97) dX2_read_51 (by decide) ?_ ?_
        · exact r_sub [0] rfl (t_X2_read_97 a0 ta0 h)
        · refine r_aload_n (place := 0) dX2_read_54 rfl rfl ?_
          refine r_ldcS0 dX2_read_55 rfl ?_
          refine r_callVI (rest := []) dX2_read_57 m_X2_spells lk_X2_49 rfl (by decide) ta0 (c_X2_spells a0 ta0 0 (by decide) h) (by decide) rfl rfl (Nat.le_of_ble_eq_true rfl) (fun v2 h1 => ?_)
          refine r_if_eq (tgt := 70) dX2_read_60 (by decide) ?_ ?_
          · refine r_aload_n (place := 0) dX2_read_70 rfl rfl ?_
            refine r_ldcS1 dX2_read_71 rfl ?_
            refine r_callVI (rest := []) dX2_read_73 m_X2_spells lk_X2_49 rfl (by decide) ta0 (c_X2_spells a0 ta0 1 (by decide) h1) (by decide) rfl rfl (Nat.le_of_ble_eq_true rfl) (fun v4 h3 => ?_)
            refine r_if_eq (tgt := 86) dX2_read_76 (by decide) ?_ ?_
            · refine r_aload_n (place := 0) dX2_read_86 rfl rfl ?_
              refine r_iconst dX2_read_87 xc_2 ?_
              refine r_callVV (rest := []) dX2_read_88 m_X2_fail lk_X2_61 rfl (by decide) ta0 (c_X2_fail a0 ta0 (2 : Int32) h3) (by decide) rfl rfl (Nat.le_of_ble_eq_true rfl) (fun h5 => ?_)
              exact r_sub [0, 1] rfl (t_X2_read_91 (f_X2_read_33 n) ih a0 a1 ta0 h5)
            · refine r_aload_n (place := 0) dX2_read_79 rfl rfl ?_
              refine r_callVV (rest := []) dX2_read_80 m_X2_readKept lk_X2_58 rfl (by decide) ta0 (c_X2_readKept a0 ta0 h3) (by decide) rfl rfl (Nat.le_of_ble_eq_true rfl) (fun h6 => ?_)
              refine r_goto (tgt := 91) dX2_read_83 (by decide) ?_
              exact r_sub [0, 1] rfl (t_X2_read_91 (f_X2_read_33 n) ih a0 a1 ta0 h6)
          · refine r_aload_n (place := 0) dX2_read_63 rfl rfl ?_
            refine r_callVV (rest := []) dX2_read_64 m_X2_readSubscription lk_X2_53 rfl (by decide) ta0 (c_X2_readSubscription a0 ta0 h1) (by decide) rfl rfl (Nat.le_of_ble_eq_true rfl) (fun h7 => ?_)
            refine r_goto (tgt := 91) dX2_read_67 (by decide) ?_
            exact r_sub [0, 1] rfl (t_X2_read_91 (f_X2_read_33 n) ih a0 a1 ta0 h7)
def f_X2_read (a0 : Nat) (h : Mem) : Option (Int32 × Mem) :=
  b2 (f_X6_clear (xrf a0 1) h) fun _ h1 =>
  mlet (mu h1 a0 2 (0 : Int32)) fun h2 =>
  mlet (mu h2 a0 6 (0 : Int32)) fun h3 =>
  mlet (mu h3 a0 7 (0 : Int32)) fun h4 =>
  mlet (mu h4 a0 8 (0 : Int32)) fun h5 =>
  b2 (f_X2_advance a0 h5) fun _ h6 =>
  f_X2_read_33 xFU a0 (0 : Int32) h6
set_option maxRecDepth 20000 in
theorem c_X2_read {G : xG} (a0 : Nat) (ta0 : xTy a0 1) (h : Mem) : Sm G 6 yX2_read FX2_read xcI [.ref (G.1 a0)] h (f_X2_read a0 h) := by
  refine Sm.of pn_X2 rfl (Nat.le_of_ble_eq_true rfl) (ls := [(0, .ref (G.1 a0))]) rfl ?_
  unfold f_X2_read
  refine r_aload_n (place := 0) dX2_read_0 rfl rfl ?_
  refine r_getR dX2_read_1 fg_X2_21 ta0 ?_
  refine r_callVV (rest := []) dX2_read_4 m_X6_clear lk_X2_25 rfl (by decide) (xt_1_1 ta0) (c_X6_clear (xrf a0 1) (xt_1_1 ta0) h) (by decide) rfl rfl (Nat.le_of_ble_eq_true rfl) (fun h1 => ?_)
  refine r_aload_n (place := 0) dX2_read_7 rfl rfl ?_
  refine r_iconst dX2_read_8 xc_0 ?_
  refine r_putI dX2_read_9 fp_X2_28 ta0 ?_
  refine r_mem (fun h2 => ?_)
  refine r_aload_n (place := 0) dX2_read_12 rfl rfl ?_
  refine r_iconst dX2_read_13 xc_0 ?_
  refine r_putI dX2_read_14 fp_X2_32 ta0 ?_
  refine r_mem (fun h3 => ?_)
  refine r_aload_n (place := 0) dX2_read_17 rfl rfl ?_
  refine r_iconst dX2_read_18 xc_0 ?_
  refine r_putI dX2_read_19 fp_X2_35 ta0 ?_
  refine r_mem (fun h4 => ?_)
  refine r_aload_n (place := 0) dX2_read_22 rfl rfl ?_
  refine r_iconst dX2_read_23 xc_0 ?_
  refine r_putI dX2_read_24 fp_X2_38 ta0 ?_
  refine r_mem (fun h5 => ?_)
  refine r_aload_n (place := 0) dX2_read_27 rfl rfl ?_
  refine r_callVV (rest := []) dX2_read_28 m_X2_advance lk_X2_41 rfl (by decide) ta0 (c_X2_advance a0 ta0 h5) (by decide) rfl rfl (Nat.le_of_ble_eq_true rfl) (fun h6 => ?_)
  refine r_iconst dX2_read_31 xc_0 ?_
  refine r_istore_n (ls' := [(1, .int (0 : Int32)), (0, .ref (G.1 a0))]) dX2_read_32 rfl (by decide) rfl ?_
  exact r_sub [1, 0] rfl (t_X2_read_33 xFU a0 (0 : Int32) ta0 h6)
def f_X7_text_55  : Nat → Nat → Int32 → Int32 → Mem → Option (Int32 × Mem)
  | 0, _, _, _, _ => none
  | n + 1, a0, a1, a2, h =>
    if (2 : Int32) ≤ a2 then
        some (a1, h)
    else
        ast h (xrf a0 4) a2 (0 : Int32) fun h1 =>
        (f_X7_text_55 n) a0 a1 (a2 + (1 : Int32)) h1
set_option maxRecDepth 20000 in
theorem t_X7_text_55 {G : xG}  : ∀ (n : Nat) (a0 : Nat) (a1 : Int32) (a2 : Int32) (ta0 : xTy a0 6) (h : Mem), Rn G 7 FX7_text xcI 55 [(0, .ref (G.1 a0)), (1, .int a1), (2, .int a2)] [] h (f_X7_text_55 n a0 a1 a2 h) := by
  intro n
  induction n with
  | zero => intros; intro r hr; cases hr
  | succ n ih =>
    intro a0 a1 a2 ta0 h
    unfold f_X7_text_55
    refine r_iload_n (place := 2) dX7_text_55 rfl rfl ?_
    refine r_iconst dX7_text_56 xc_2 ?_
    refine r_ic_ge (tgt := 73) dX7_text_57 (by decide) ?_ ?_
    · refine r_iload_n (place := 1) dX7_text_73 rfl rfl ?_
      exact r_iret dX7_text_74 rfl
    · refine r_aload_n (place := 0) dX7_text_60 rfl rfl ?_
      refine r_getR dX7_text_61 fg_X7_32 ta0 ?_
      refine r_iload_n (place := 2) dX7_text_64 rfl rfl ?_
      refine r_iconst dX7_text_65 xc_0 ?_
      refine r_zast dX7_text_66 (xt_6_4 ta0) (by decide) (fun h1 => ?_)
      refine r_iincC (place := 2) (ls' := [(2, .int (a2 + (1 : Int32))), (0, .ref (G.1 a0)), (1, .int a1)]) dX7_text_67 rfl xc_1 (by decide) rfl ?_
      refine r_goto (tgt := 55) dX7_text_70 (by decide) ?_
      exact r_sub [1, 2, 0] rfl (ih a0 a1 (a2 + (1 : Int32)) ta0 h1)
def f_X7_text (a0 : Nat) (h : Mem) : Option (Int32 × Mem) :=
  b2 (f_X2_read (xrf a0 1) h) fun v2 h1 =>
  mlet (mu h1 a0 6 (h1 (xrf a0 1) 6)) fun h3 =>
  mlet (mu h3 (xrf a0 0) 1 (0 : Int32)) fun h4 =>
  if (h4 a0 6) = 0 then
      b2 (f_X6_copyFrom (xrf a0 2) (xrf (xrf a0 1) 1) h4) fun _ h5 =>
      mlet (mu h5 a0 5 (0 : Int32)) fun h6 =>
      f_X7_text_55 xFU a0 v2 (0 : Int32) h6
  else
      some (v2, h4)
set_option maxRecDepth 20000 in
theorem c_X7_text {G : xG} (a0 : Nat) (ta0 : xTy a0 6) (h : Mem) : Sm G 7 yX7_text FX7_text xcI [.ref (G.1 a0)] h (f_X7_text a0 h) := by
  refine Sm.of pn_X7 rfl (Nat.le_of_ble_eq_true rfl) (ls := [(0, .ref (G.1 a0))]) rfl ?_
  unfold f_X7_text
  refine r_aload_n (place := 0) dX7_text_0 rfl rfl ?_
  refine r_getR dX7_text_1 fg_X7_12 ta0 ?_
  refine r_callVI (rest := []) dX7_text_4 m_X2_read lk_X7_58 rfl (by decide) (xt_6_1 ta0) (c_X2_read (xrf a0 1) (xt_6_1 ta0) h) (by decide) rfl rfl (Nat.le_of_ble_eq_true rfl) (fun v2 h1 => ?_)
  refine r_istore_n (ls' := [(1, .int v2), (0, .ref (G.1 a0))]) dX7_text_7 rfl (by decide) rfl ?_
  refine r_aload_n (place := 1) dX7_text_8 rfl rfl ?_
  refine r_aload_n (place := 1) dX7_text_9 rfl rfl ?_
  refine r_getR dX7_text_10 fg_X7_12 ta0 ?_
  refine r_getI dX7_text_13 fg_X7_62 (xt_6_1 ta0) ?_
  refine r_putI dX7_text_16 fp_X7_42 ta0 ?_
  refine r_mem (fun h3 => ?_)
  refine r_aload_n (place := 1) dX7_text_19 rfl rfl ?_
  refine r_getR dX7_text_20 fg_X7_20 ta0 ?_
  refine r_iconst dX7_text_23 xc_0 ?_
  refine r_putI dX7_text_24 fp_X7_55 (xt_6_0 ta0) ?_
  refine r_mem (fun h4 => ?_)
  refine r_aload_n (place := 1) dX7_text_27 rfl rfl ?_
  refine r_getI dX7_text_28 fg_X7_42 ta0 ?_
  refine r_if_ne (tgt := 73) dX7_text_31 (by decide) ?_ ?_
  · refine r_iload_n (place := 0) dX7_text_73 rfl rfl ?_
    exact r_iret dX7_text_74 rfl
  · refine r_aload_n (place := 1) dX7_text_34 rfl rfl ?_
    refine r_getR dX7_text_35 fg_X7_24 ta0 ?_
    refine r_aload_n (place := 1) dX7_text_38 rfl rfl ?_
    refine r_getR dX7_text_39 fg_X7_12 ta0 ?_
    refine r_getR dX7_text_42 fg_X7_63 (xt_6_1 ta0) ?_
    refine r_callVV (rest := []) dX7_text_45 m_X6_copyFrom lk_X7_66 rfl (by decide) (xt_6_2 ta0) (c_X6_copyFrom (xrf a0 2) (xt_6_2 ta0) (xrf (xrf a0 1) 1) (xt_1_1 (xt_6_1 ta0)) h4) (by decide) rfl rfl (Nat.le_of_ble_eq_true rfl) (fun h5 => ?_)
    refine r_aload_n (place := 1) dX7_text_48 rfl rfl ?_
    refine r_iconst dX7_text_49 xc_0 ?_
    refine r_putI dX7_text_50 fp_X7_38 ta0 ?_
    refine r_mem (fun h6 => ?_)
    refine r_iconst dX7_text_53 xc_0 ?_
    refine r_istore_n (ls' := [(2, .int (0 : Int32)), (1, .int v2), (0, .ref (G.1 a0))]) dX7_text_54 rfl (by decide) rfl ?_
    exact r_sub [2, 1, 0] rfl (t_X7_text_55 xFU a0 v2 (0 : Int32) ta0 h6)
