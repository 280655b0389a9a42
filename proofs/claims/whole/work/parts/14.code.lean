def f_X8_keptGoTo_123 (kk6 : Nat → Int32 → Int32 → Int32 → Int32 → Int32 → Mem → Option (Int32 × Mem)) (a0 : Nat) (a1 : Int32) (a2 : Int32) (a3 : Int32) (a4 : Int32) (a5 : Int32) (h : Mem) : Option (Int32 × Mem) :=
  kk6 a0 a1 a2 a3 a4 (a5 + (1 : Int32)) h
set_option maxRecDepth 20000 in
theorem t_X8_keptGoTo_123 {G : xG} (kk6 : Nat → Int32 → Int32 → Int32 → Int32 → Int32 → Mem → Option (Int32 × Mem)) (hk6 : ∀ (a0 : Nat) (a1 : Int32) (a2 : Int32) (a3 : Int32) (a4 : Int32) (a5 : Int32) (ta0 : xTy a0 7) (h : Mem), Rn G 6 FX8_keptGoTo xcI 6 [(0, .ref (G.1 a0)), (1, .int a1), (2, .int a2), (3, .int a3), (4, .int a4), (5, .int a5)] [] h (kk6 a0 a1 a2 a3 a4 a5 h)) (a0 : Nat) (a1 : Int32) (a2 : Int32) (a3 : Int32) (a4 : Int32) (a5 : Int32) (ta0 : xTy a0 7) (h : Mem) : Rn G 6 FX8_keptGoTo xcI 123 [(0, .ref (G.1 a0)), (1, .int a1), (2, .int a2), (3, .int a3), (4, .int a4), (5, .int a5)] [] h (f_X8_keptGoTo_123 kk6 a0 a1 a2 a3 a4 a5 h) := by
  unfold f_X8_keptGoTo_123
  refine r_iincC (place := 5) (ls' := [(5, .int (a5 + (1 : Int32))), (0, .ref (G.1 a0)), (1, .int a1), (2, .int a2), (3, .int a3), (4, .int a4)]) dX8_keptGoTo_123 rfl xc_1 (by decide) rfl ?_
  refine r_goto (tgt := 6) dX8_keptGoTo_126 (by decide) ?_
  exact r_sub [1, 2, 3, 4, 5, 0] rfl (hk6 a0 a1 a2 a3 a4 (a5 + (1 : Int32)) ta0 h)
def f_X8_keptGoTo_31 (kk6 : Nat → Int32 → Int32 → Int32 → Int32 → Int32 → Mem → Option (Int32 × Mem)) : Nat → Nat → Int32 → Int32 → Int32 → Int32 → Int32 → Int32 → Int32 → Mem → Option (Int32 × Mem)
  | 0, _, _, _, _, _, _, _, _, _ => none
  | n + 1, a0, a1, a2, a3, a4, a5, a6, a7, h =>
    if (4 : Int32) ≤ a7 then
        b2 (f_X8_at a1 ((45 : Int32) + ((6 : Int32) * a3)) h) fun v2 h1 =>
        b2 (f_X8_isMatching a0 v2 (xrf a0 21) h1) fun v4 h3 =>
        if v4 = 0 then
            f_X8_keptGoTo_123 kk6 a0 a1 a2 a3 a4 a5 h3
        else
            ald h3 (xrf a0 0) (a6 + (6 : Int32)) fun v5 =>
            ald h3 (xrf a0 0) (a6 + (5 : Int32)) fun v6 =>
            b2 (f_X8_lesser a2 v6 h3) fun v8 h7 =>
            ald h7 (xrf a0 0) (a6 + (4 : Int32)) fun v9 =>
            b2 (f_X8_goes a0 a1 v5 v8 v9 (1 : Int32) h7) fun _ h10 =>
            f_X8_keptGoTo_123 kk6 a0 a1 a2 a3 (a4 + (1 : Int32)) a5 h10
    else
        ald h (xrf a0 0) (a6 + a7) fun v11 =>
        ast h (xrf a0 21) a7 v11 fun h12 =>
        (f_X8_keptGoTo_31 kk6 n) a0 a1 a2 a3 a4 a5 a6 (a7 + (1 : Int32)) h12
set_option maxRecDepth 20000 in
theorem t_X8_keptGoTo_31 {G : xG} (kk6 : Nat → Int32 → Int32 → Int32 → Int32 → Int32 → Mem → Option (Int32 × Mem)) (hk6 : ∀ (a0 : Nat) (a1 : Int32) (a2 : Int32) (a3 : Int32) (a4 : Int32) (a5 : Int32) (ta0 : xTy a0 7) (h : Mem), Rn G 6 FX8_keptGoTo xcI 6 [(0, .ref (G.1 a0)), (1, .int a1), (2, .int a2), (3, .int a3), (4, .int a4), (5, .int a5)] [] h (kk6 a0 a1 a2 a3 a4 a5 h)) : ∀ (n : Nat) (a0 : Nat) (a1 : Int32) (a2 : Int32) (a3 : Int32) (a4 : Int32) (a5 : Int32) (a6 : Int32) (a7 : Int32) (ta0 : xTy a0 7) (h : Mem), Rn G 6 FX8_keptGoTo xcI 31 [(0, .ref (G.1 a0)), (1, .int a1), (2, .int a2), (3, .int a3), (4, .int a4), (5, .int a5), (6, .int a6), (7, .int a7)] [] h (f_X8_keptGoTo_31 kk6 n a0 a1 a2 a3 a4 a5 a6 a7 h) := by
  intro n
  induction n with
  | zero => intros; intro r hr; cases hr
  | succ n ih =>
    intro a0 a1 a2 a3 a4 a5 a6 a7 ta0 h
    unfold f_X8_keptGoTo_31
    refine r_iload (place := 7) dX8_keptGoTo_31 rfl ?_
    refine r_iconst dX8_keptGoTo_33 xc_4 ?_
    refine r_ic_ge (tgt := 60) dX8_keptGoTo_34 (by decide) ?_ ?_
    · refine r_aload_n (place := 0) dX8_keptGoTo_60 rfl rfl ?_
      refine r_iload_n (place := 1) dX8_keptGoTo_61 rfl rfl ?_
      refine r_bipush dX8_keptGoTo_62 xb_45 ?_
      refine r_bipush dX8_keptGoTo_64 xb_6 ?_
      refine r_iload_n (place := 3) dX8_keptGoTo_66 rfl rfl ?_
      refine r_imul dX8_keptGoTo_67 ?_
      refine r_iadd dX8_keptGoTo_68 ?_
      refine r_callSI (rest := [.ref (G.1 a0)]) dX8_keptGoTo_69 m_X8_at lk_X8_115 (c_X8_at a1 ((45 : Int32) + ((6 : Int32) * a3)) h) (by decide) rfl rfl (Nat.le_of_ble_eq_true rfl) (fun v2 h1 => ?_)
      refine r_aload_n (place := 0) dX8_keptGoTo_72 rfl rfl ?_
      refine r_getR dX8_keptGoTo_73 fg_X8_47 ta0 ?_
      refine r_callVI (rest := []) dX8_keptGoTo_76 m_X8_isMatching lk_X8_184 rfl (by decide) ta0 (c_X8_isMatching a0 ta0 v2 (xrf a0 21) (xt_7_21 ta0) h1) (by decide) rfl rfl (Nat.le_of_ble_eq_true rfl) (fun v4 h3 => ?_)
      refine r_if_eq (tgt := 123) dX8_keptGoTo_79 (by decide) ?_ ?_
      · exact r_sub [0, 1, 2, 3, 4, 5] rfl (t_X8_keptGoTo_123 kk6 hk6 a0 a1 a2 a3 a4 a5 ta0 h3)
      · refine r_aload_n (place := 0) dX8_keptGoTo_82 rfl rfl ?_
        refine r_iload_n (place := 1) dX8_keptGoTo_83 rfl rfl ?_
        refine r_aload_n (place := 0) dX8_keptGoTo_84 rfl rfl ?_
        refine r_getR dX8_keptGoTo_85 fg_X8_7 ta0 ?_
        refine r_iload (place := 6) dX8_keptGoTo_88 rfl ?_
        refine r_bipush dX8_keptGoTo_90 xb_6 ?_
        refine r_iadd dX8_keptGoTo_92 ?_
        refine r_iald dX8_keptGoTo_93 (xt_7_0 ta0) (fun v5 => ?_)
        refine r_iload_n (place := 2) dX8_keptGoTo_94 rfl rfl ?_
        refine r_aload_n (place := 0) dX8_keptGoTo_95 rfl rfl ?_
        refine r_getR dX8_keptGoTo_96 fg_X8_7 ta0 ?_
        refine r_iload (place := 6) dX8_keptGoTo_99 rfl ?_
        refine r_iconst dX8_keptGoTo_101 xc_5 ?_
        refine r_iadd dX8_keptGoTo_102 ?_
        refine r_iald dX8_keptGoTo_103 (xt_7_0 ta0) (fun v6 => ?_)
        refine r_callSI (rest := [.int v5, .int a1, .ref (G.1 a0)]) dX8_keptGoTo_104 m_X8_lesser lk_X8_210 (c_X8_lesser a2 v6 h3) (by decide) rfl rfl (Nat.le_of_ble_eq_true rfl) (fun v8 h7 => ?_)
        refine r_aload_n (place := 0) dX8_keptGoTo_107 rfl rfl ?_
        refine r_getR dX8_keptGoTo_108 fg_X8_7 ta0 ?_
        refine r_iload (place := 6) dX8_keptGoTo_111 rfl ?_
        refine r_iconst dX8_keptGoTo_113 xc_4 ?_
        refine r_iadd dX8_keptGoTo_114 ?_
        refine r_iald dX8_keptGoTo_115 (xt_7_0 ta0) (fun v9 => ?_)
        refine r_iconst dX8_keptGoTo_116 xc_1 ?_
        refine r_callVV (rest := []) dX8_keptGoTo_117 m_X8_goes lk_X8_213 rfl (by decide) ta0 (c_X8_goes a0 ta0 a1 v5 v8 v9 (1 : Int32) h7) (by decide) rfl rfl (Nat.le_of_ble_eq_true rfl) (fun h10 => ?_)
        refine r_iincC (place := 4) (ls' := [(4, .int (a4 + (1 : Int32))), (0, .ref (G.1 a0)), (1, .int a1), (2, .int a2), (3, .int a3), (5, .int a5), (6, .int a6), (7, .int a7)]) dX8_keptGoTo_120 rfl xc_1 (by decide) rfl ?_
        exact r_sub [1, 2, 3, 4, 0, 5] rfl (t_X8_keptGoTo_123 kk6 hk6 a0 a1 a2 a3 (a4 + (1 : Int32)) a5 ta0 h10)
    · refine r_aload_n (place := 0) dX8_keptGoTo_37 rfl rfl ?_
      refine r_getR dX8_keptGoTo_38 fg_X8_47 ta0 ?_
      refine r_iload (place := 7) dX8_keptGoTo_41 rfl ?_
      refine r_aload_n (place := 0) dX8_keptGoTo_43 rfl rfl ?_
      refine r_getR dX8_keptGoTo_44 fg_X8_7 ta0 ?_
      refine r_iload (place := 6) dX8_keptGoTo_47 rfl ?_
      refine r_iload (place := 7) dX8_keptGoTo_49 rfl ?_
      refine r_iadd dX8_keptGoTo_51 ?_
      refine r_iald dX8_keptGoTo_52 (xt_7_0 ta0) (fun v11 => ?_)
      refine r_iast dX8_keptGoTo_53 (xt_7_21 ta0) (fun h12 => ?_)
      refine r_iincC (place := 7) (ls' := [(7, .int (a7 + (1 : Int32))), (0, .ref (G.1 a0)), (1, .int a1), (2, .int a2), (3, .int a3), (4, .int a4), (5, .int a5), (6, .int a6)]) dX8_keptGoTo_54 rfl xc_1 (by decide) rfl ?_
      refine r_goto (tgt := 31) dX8_keptGoTo_57 (by decide) ?_
      exact r_sub [1, 2, 3, 4, 5, 6, 7, 0] rfl (ih a0 a1 a2 a3 a4 a5 a6 (a7 + (1 : Int32)) ta0 h12)
def f_X8_keptGoTo_6  : Nat → Nat → Int32 → Int32 → Int32 → Int32 → Int32 → Mem → Option (Int32 × Mem)
  | 0, _, _, _, _, _, _, _ => none
  | n + 1, a0, a1, a2, a3, a4, a5, h =>
    ald h (xrf a0 0) (6 : Int32) fun v1 =>
    if v1 ≤ a5 then
        some (a4, h)
    else
        f_X8_keptGoTo_31 (f_X8_keptGoTo_6 n) xFU a0 a1 a2 a3 a4 a5 ((8 : Int32) + ((7 : Int32) * a5)) (0 : Int32) h
set_option maxRecDepth 20000 in
theorem t_X8_keptGoTo_6 {G : xG}  : ∀ (n : Nat) (a0 : Nat) (a1 : Int32) (a2 : Int32) (a3 : Int32) (a4 : Int32) (a5 : Int32) (ta0 : xTy a0 7) (h : Mem), Rn G 6 FX8_keptGoTo xcI 6 [(0, .ref (G.1 a0)), (1, .int a1), (2, .int a2), (3, .int a3), (4, .int a4), (5, .int a5)] [] h (f_X8_keptGoTo_6 n a0 a1 a2 a3 a4 a5 h) := by
  intro n
  induction n with
  | zero => intros; intro r hr; cases hr
  | succ n ih =>
    intro a0 a1 a2 a3 a4 a5 ta0 h
    unfold f_X8_keptGoTo_6
    refine r_iload (place := 5) dX8_keptGoTo_6 rfl ?_
    refine r_aload_n (place := 0) dX8_keptGoTo_8 rfl rfl ?_
    refine r_getR dX8_keptGoTo_9 fg_X8_7 ta0 ?_
    refine r_bipush dX8_keptGoTo_12 xb_6 ?_
    refine r_iald dX8_keptGoTo_14 (xt_7_0 ta0) (fun v1 => ?_)
    refine r_ic_ge (tgt := 129) dX8_keptGoTo_15 (by decide) ?_ ?_
    · refine r_iload (place := 4) dX8_keptGoTo_129 rfl ?_
      exact r_iret dX8_keptGoTo_131 rfl
    · refine r_bipush dX8_keptGoTo_18 xb_8 ?_
      refine r_bipush dX8_keptGoTo_20 xb_7 ?_
      refine r_iload (place := 5) dX8_keptGoTo_22 rfl ?_
      refine r_imul dX8_keptGoTo_24 ?_
      refine r_iadd dX8_keptGoTo_25 ?_
      refine r_istore (ls' := [(6, .int ((8 : Int32) + ((7 : Int32) * a5))), (0, .ref (G.1 a0)), (1, .int a1), (2, .int a2), (3, .int a3), (4, .int a4), (5, .int a5)]) dX8_keptGoTo_26 (by decide) rfl ?_
      refine r_iconst dX8_keptGoTo_28 xc_0 ?_
      refine r_istore (ls' := [(7, .int (0 : Int32)), (6, .int ((8 : Int32) + ((7 : Int32) * a5))), (0, .ref (G.1 a0)), (1, .int a1), (2, .int a2), (3, .int a3), (4, .int a4), (5, .int a5)]) dX8_keptGoTo_29 (by decide) rfl ?_
      exact r_sub [2, 3, 4, 5, 6, 7, 1, 0] rfl (t_X8_keptGoTo_31 (f_X8_keptGoTo_6 n) ih xFU a0 a1 a2 a3 a4 a5 ((8 : Int32) + ((7 : Int32) * a5)) (0 : Int32) ta0 h)
def f_X8_keptGoTo (a0 : Nat) (a1 : Int32) (a2 : Int32) (a3 : Int32) (h : Mem) : Option (Int32 × Mem) :=
  f_X8_keptGoTo_6 xFU a0 a1 a2 a3 (0 : Int32) (0 : Int32) h
set_option maxRecDepth 20000 in
theorem c_X8_keptGoTo {G : xG} (a0 : Nat) (ta0 : xTy a0 7) (a1 : Int32) (a2 : Int32) (a3 : Int32) (h : Mem) : Sm G 6 yX8_keptGoTo FX8_keptGoTo xcI [.ref (G.1 a0), .int a1, .int a2, .int a3] h (f_X8_keptGoTo a0 a1 a2 a3 h) := by
  refine Sm.of pn_X8 rfl (Nat.le_of_ble_eq_true rfl) (ls := [(0, .ref (G.1 a0)), (1, .int a1), (2, .int a2), (3, .int a3)]) rfl ?_
  unfold f_X8_keptGoTo
  refine r_iconst dX8_keptGoTo_0 xc_0 ?_
  refine r_istore (ls' := [(4, .int (0 : Int32)), (0, .ref (G.1 a0)), (1, .int a1), (2, .int a2), (3, .int a3)]) dX8_keptGoTo_1 (by decide) rfl ?_
  refine r_iconst dX8_keptGoTo_3 xc_0 ?_
  refine r_istore (ls' := [(5, .int (0 : Int32)), (4, .int (0 : Int32)), (0, .ref (G.1 a0)), (1, .int a1), (2, .int a2), (3, .int a3)]) dX8_keptGoTo_4 (by decide) rfl ?_
  exact r_sub [2, 3, 4, 5, 1, 0] rfl (t_X8_keptGoTo_6 xFU a0 a1 a2 a3 (0 : Int32) (0 : Int32) ta0 h)
def f_X8_subscribe_116  (a0 : Nat) (a1 : Int32) (a2 : Int32) (a3 : Int32) (a4 : Int32) (h : Mem) : Option (Int32 × Mem) :=
  b2 (f_X8_at a1 (((45 : Int32) + ((6 : Int32) * a4)) + (4 : Int32)) h) fun v2 h1 =>
  ast h1 (xrf a0 0) v2 a2 fun h3 =>
  if a3 = 0 then
      b2 (f_X8_keptGoTo a0 a1 a2 a4 h3) fun v5 h4 =>
      some (v5, h4)
  else
      some ((0 : Int32), h3)
set_option maxRecDepth 20000 in
theorem t_X8_subscribe_116 {G : xG}  (a0 : Nat) (a1 : Int32) (a2 : Int32) (a3 : Int32) (a4 : Int32) (ta0 : xTy a0 7) (h : Mem) : Rn G 7 FX8_subscribe xcI 116 [(0, .ref (G.1 a0)), (1, .int a1), (2, .int a2), (3, .int a3), (4, .int a4)] [] h (f_X8_subscribe_116 a0 a1 a2 a3 a4 h) := by
  unfold f_X8_subscribe_116
  refine r_aload_n (place := 0) dX8_subscribe_116 rfl rfl ?_
  refine r_getR dX8_subscribe_117 fg_X8_7 ta0 ?_
  refine r_iload_n (place := 1) dX8_subscribe_120 rfl rfl ?_
  refine r_bipush dX8_subscribe_121 xb_45 ?_
  refine r_bipush dX8_subscribe_123 xb_6 ?_
  refine r_iload (place := 4) dX8_subscribe_125 rfl ?_
  refine r_imul dX8_subscribe_127 ?_
  refine r_iadd dX8_subscribe_128 ?_
  refine r_iconst dX8_subscribe_129 xc_4 ?_
  refine r_iadd dX8_subscribe_130 ?_
  refine r_callSI (rest := [.ref (G.1 (xrf a0 0))]) dX8_subscribe_131 m_X8_at lk_X8_115 (c_X8_at a1 (((45 : Int32) + ((6 : Int32) * a4)) + (4 : Int32)) h) (by decide) rfl rfl (Nat.le_of_ble_eq_true rfl) (fun v2 h1 => ?_)
  refine r_iload_n (place := 2) dX8_subscribe_134 rfl rfl ?_
  refine r_iast dX8_subscribe_135 (xt_7_0 ta0) (fun h3 => ?_)
  refine r_iload_n (place := 3) dX8_subscribe_136 rfl rfl ?_
  refine r_if_ne (tgt := 151) dX8_subscribe_137 (by decide) ?_ ?_
  · refine r_iconst dX8_subscribe_151 xc_0 ?_
    exact r_iret dX8_subscribe_152 rfl
  · refine r_aload_n (place := 0) dX8_subscribe_140 rfl rfl ?_
    refine r_iload_n (place := 1) dX8_subscribe_141 rfl rfl ?_
    refine r_iload_n (place := 2) dX8_subscribe_142 rfl rfl ?_
    refine r_iload (place := 4) dX8_subscribe_143 rfl ?_
    refine r_callVI (rest := []) dX8_subscribe_145 m_X8_keptGoTo lk_X8_280 rfl (by decide) ta0 (c_X8_keptGoTo a0 ta0 a1 a2 a4 h3) (by decide) rfl rfl (Nat.le_of_ble_eq_true rfl) (fun v5 h4 => ?_)
    refine r_goto (tgt := 152) dX8_subscribe_148 (by decide) ?_
    exact r_iret dX8_subscribe_152 rfl
def f_X8_subscribe_87  (a0 : Nat) (a1 : Int32) (a2 : Int32) (a3 : Int32) (a4 : Int32) (h : Mem) : Option (Int32 × Mem) :=
  if a4 = (-4 : Int32) then
      b2 (f_X8_of a0 a1 (3 : Int32) h) fun v2 h1 =>
      b2 (f_X8_subComes (xrf a0 0) a1 (xrf a0 4) a2 a3 h1) fun _ h3 =>
      f_X8_subscribe_116 a0 a1 a2 a3 v2 h3
  else
      f_X8_subscribe_116 a0 a1 a2 a3 a4 h
set_option maxRecDepth 20000 in
theorem t_X8_subscribe_87 {G : xG}  (a0 : Nat) (a1 : Int32) (a2 : Int32) (a3 : Int32) (a4 : Int32) (ta0 : xTy a0 7) (h : Mem) : Rn G 7 FX8_subscribe xcI 87 [(0, .ref (G.1 a0)), (1, .int a1), (2, .int a2), (3, .int a3), (4, .int a4)] [] h (f_X8_subscribe_87 a0 a1 a2 a3 a4 h) := by
  unfold f_X8_subscribe_87
  refine r_iload (place := 4) dX8_subscribe_87 rfl ?_
  refine r_bipush dX8_subscribe_89 xb_m4 ?_
  refine r_ic_ne (tgt := 116) dX8_subscribe_91 (by decide) ?_ ?_
  · exact r_sub [0, 1, 2, 3, 4] rfl (t_X8_subscribe_116 a0 a1 a2 a3 a4 ta0 h)
  · refine r_aload_n (place := 0) dX8_subscribe_94 rfl rfl ?_
    refine r_iload_n (place := 1) dX8_subscribe_95 rfl rfl ?_
    refine r_iconst dX8_subscribe_96 xc_3 ?_
    refine r_callVI (rest := []) dX8_subscribe_97 m_X8_of lk_X8_166 rfl (by decide) ta0 (c_X8_of a0 ta0 a1 (3 : Int32) h) (by decide) rfl rfl (Nat.le_of_ble_eq_true rfl) (fun v2 h1 => ?_)
    refine r_istore (ls' := [(4, .int v2), (0, .ref (G.1 a0)), (1, .int a1), (2, .int a2), (3, .int a3)]) dX8_subscribe_100 (by decide) rfl ?_
    refine r_aload_n (place := 1) dX8_subscribe_102 rfl rfl ?_
    refine r_getR dX8_subscribe_103 fg_X8_7 ta0 ?_
    refine r_iload_n (place := 2) dX8_subscribe_106 rfl rfl ?_
    refine r_aload_n (place := 1) dX8_subscribe_107 rfl rfl ?_
    refine r_getR dX8_subscribe_108 fg_X8_23 ta0 ?_
    refine r_iload_n (place := 3) dX8_subscribe_111 rfl rfl ?_
    refine r_iload_n (place := 4) dX8_subscribe_112 rfl rfl ?_
    refine r_callSV (rest := []) dX8_subscribe_113 m_X8_subComes lk_X8_133 (c_X8_subComes (xrf a0 0) (xt_7_0 ta0) a1 (xrf a0 4) (xt_7_4 ta0) a2 a3 h1) (by decide) rfl rfl (Nat.le_of_ble_eq_true rfl) (fun h3 => ?_)
    exact r_sub [1, 2, 3, 4, 0] rfl (t_X8_subscribe_116 a0 a1 a2 a3 v2 ta0 h3)
def f_X8_subscribe (a0 : Nat) (a1 : Int32) (a2 : Int32) (a3 : Int32) (h : Mem) : Option (Int32 × Mem) :=
  b2 (f_X8_isClient a1 h) fun v2 h1 =>
  if v2 = 0 then
      some ((-1 : Int32), h1)
  else
      b2 (f_X8_in a2.toInt64 (0 : Int64) (2 : Int64) h1) fun v4 h3 =>
      if v4 = 0 then
          some ((-1 : Int32), h3)
      else
          b2 (f_X8_in a3.toInt64 (0 : Int64) (3 : Int64) h3) fun v6 h5 =>
          if v6 = 0 then
              some ((-1 : Int32), h5)
          else
              b2 (f_X8_isAwake a0 a1 h5) fun v8 h7 =>
              if v8 = 0 then
                  some ((-2 : Int32), h7)
              else
                  if (h7 a0 5) = 0 then
                      some ((-2 : Int32), h7)
                  else
                      b2 (f_X8_subOf (xrf a0 0) a1 (xrf a0 4) a3 h7) fun v10 h9 =>
                      if v10 = (-4 : Int32) then
                          b2 (f_X8_of a0 a1 (3 : Int32) h9) fun v12 h11 =>
                          if v12 = (6 : Int32) then
                              some ((-3 : Int32), h11)
                          else
                              f_X8_subscribe_87 a0 a1 a2 a3 v10 h11
                      else
                          f_X8_subscribe_87 a0 a1 a2 a3 v10 h9
set_option maxRecDepth 20000 in
theorem c_X8_subscribe {G : xG} (a0 : Nat) (ta0 : xTy a0 7) (a1 : Int32) (a2 : Int32) (a3 : Int32) (h : Mem) : Sm G 7 yX8_subscribe FX8_subscribe xcI [.ref (G.1 a0), .int a1, .int a2, .int a3] h (f_X8_subscribe a0 a1 a2 a3 h) := by
  refine Sm.of pn_X8 rfl (Nat.le_of_ble_eq_true rfl) (ls := [(0, .ref (G.1 a0)), (1, .int a1), (2, .int a2), (3, .int a3)]) rfl ?_
  unfold f_X8_subscribe
  refine r_iload_n (place := 1) dX8_subscribe_0 rfl rfl ?_
  refine r_callSI (rest := []) dX8_subscribe_1 m_X8_isClient lk_X8_249 (c_X8_isClient a1 h) (by decide) rfl rfl (Nat.le_of_ble_eq_true rfl) (fun v2 h1 => ?_)
  refine r_if_eq (tgt := 31) dX8_subscribe_4 (by decide) ?_ ?_
  · refine r_iconst dX8_subscribe_31 xc_m1 ?_
    exact r_iret dX8_subscribe_32 rfl
  · refine r_iload_n (place := 2) dX8_subscribe_7 rfl rfl ?_
    refine r_i2l dX8_subscribe_8 ?_
    refine r_lconst dX8_subscribe_9 xl_0 ?_
    refine r_ldc2 dX8_subscribe_10 ll_X8_271 ?_
    refine r_callSI (rest := []) dX8_subscribe_13 m_X8_in lk_X8_59 (c_X8_in a2.toInt64 (0 : Int64) (2 : Int64) h1) (by decide) rfl rfl (Nat.le_of_ble_eq_true rfl) (fun v4 h3 => ?_)
    refine r_if_eq (tgt := 31) dX8_subscribe_16 (by decide) ?_ ?_
    · refine r_iconst dX8_subscribe_31 xc_m1 ?_
      exact r_iret dX8_subscribe_32 rfl
    · refine r_iload_n (place := 3) dX8_subscribe_19 rfl rfl ?_
      refine r_i2l dX8_subscribe_20 ?_
      refine r_lconst dX8_subscribe_21 xl_0 ?_
      refine r_ldc2 dX8_subscribe_22 ll_X8_278 ?_
      refine r_callSI (rest := []) dX8_subscribe_25 m_X8_in lk_X8_59 (c_X8_in a3.toInt64 (0 : Int64) (3 : Int64) h3) (by decide) rfl rfl (Nat.le_of_ble_eq_true rfl) (fun v6 h5 => ?_)
      refine r_if_ne (tgt := 33) dX8_subscribe_28 (by decide) ?_ ?_
      · refine r_aload_n (place := 0) dX8_subscribe_33 rfl rfl ?_
        refine r_iload_n (place := 1) dX8_subscribe_34 rfl rfl ?_
        refine r_callVI (rest := []) dX8_subscribe_35 m_X8_isAwake lk_X8_177 rfl (by decide) ta0 (c_X8_isAwake a0 ta0 a1 h5) (by decide) rfl rfl (Nat.le_of_ble_eq_true rfl) (fun v8 h7 => ?_)
        refine r_if_eq (tgt := 48) dX8_subscribe_38 (by decide) ?_ ?_
        · refine r_bipush dX8_subscribe_48 xb_m2 ?_
          exact r_iret dX8_subscribe_50 rfl
        · refine r_aload_n (place := 0) dX8_subscribe_41 rfl rfl ?_
          refine r_getI dX8_subscribe_42 fg_X8_161 ta0 ?_
          refine r_if_ne (tgt := 51) dX8_subscribe_45 (by decide) ?_ ?_
          · refine r_aload_n (place := 0) dX8_subscribe_51 rfl rfl ?_
            refine r_getR dX8_subscribe_52 fg_X8_7 ta0 ?_
            refine r_iload_n (place := 1) dX8_subscribe_55 rfl rfl ?_
            refine r_aload_n (place := 0) dX8_subscribe_56 rfl rfl ?_
            refine r_getR dX8_subscribe_57 fg_X8_23 ta0 ?_
            refine r_iload_n (place := 3) dX8_subscribe_60 rfl rfl ?_
            refine r_callSI (rest := []) dX8_subscribe_61 m_X8_subOf lk_X8_129 (c_X8_subOf (xrf a0 0) (xt_7_0 ta0) a1 (xrf a0 4) (xt_7_4 ta0) a3 h7) (by decide) rfl rfl (Nat.le_of_ble_eq_true rfl) (fun v10 h9 => ?_)
            refine r_istore (ls' := [(4, .int v10), (0, .ref (G.1 a0)), (1, .int a1), (2, .int a2), (3, .int a3)]) dX8_subscribe_64 (by decide) rfl ?_
            refine r_iload (place := 0) dX8_subscribe_66 rfl ?_
            refine r_bipush dX8_subscribe_68 xb_m4 ?_
            refine r_ic_ne (tgt := 87) dX8_subscribe_70 (by decide) ?_ ?_
            · exact r_sub [1, 2, 3, 4, 0] rfl (t_X8_subscribe_87 a0 a1 a2 a3 v10 ta0 h9)
            · refine r_aload_n (place := 1) dX8_subscribe_73 rfl rfl ?_
              refine r_iload_n (place := 2) dX8_subscribe_74 rfl rfl ?_
              refine r_iconst dX8_subscribe_75 xc_3 ?_
              refine r_callVI (rest := []) dX8_subscribe_76 m_X8_of lk_X8_166 rfl (by decide) ta0 (c_X8_of a0 ta0 a1 (3 : Int32) h9) (by decide) rfl rfl (Nat.le_of_ble_eq_true rfl) (fun v12 h11 => ?_)
              refine r_bipush dX8_subscribe_79 xb_6 ?_
              refine r_ic_ne (tgt := 87) dX8_subscribe_81 (by decide) ?_ ?_
              · exact r_sub [1, 2, 3, 4, 0] rfl (t_X8_subscribe_87 a0 a1 a2 a3 v10 ta0 h11)
              · refine r_bipush dX8_subscribe_84 xb_m3 ?_
                exact r_iret dX8_subscribe_86 rfl
          · refine r_bipush dX8_subscribe_48 xb_m2 ?_
            exact r_iret dX8_subscribe_50 rfl
      · refine r_iconst dX8_subscribe_31 xc_m1 ?_
        exact r_iret dX8_subscribe_32 rfl
def f_X8_leave_87  : Nat → Nat → Int32 → Int32 → Mem → Option (Int32 × Mem)
  | 0, _, _, _, _ => none
  | n + 1, a0, a1, a4, h =>
    b2 (f_X8_of a0 a1 (3 : Int32) h) fun v2 h1 =>
    if ((6 : Int32) * v2) ≤ a4 then
        b2 (f_X8_forgets a0 h1) fun _ h3 =>
        b2 (f_X8_of a0 a1 (3 : Int32) h3) fun v5 h4 =>
        some (v5, h4)
    else
        b2 (f_X8_at a1 ((45 : Int32) + a4) h1) fun v7 h6 =>
        b2 (f_X8_at a1 (((45 : Int32) + a4) + (6 : Int32)) h6) fun v9 h8 =>
        ald h8 (xrf a0 0) v9 fun v10 =>
        ast h8 (xrf a0 0) v7 v10 fun h11 =>
        (f_X8_leave_87 n) a0 a1 (a4 + (1 : Int32)) h11
set_option maxRecDepth 20000 in
theorem t_X8_leave_87 {G : xG}  : ∀ (n : Nat) (a0 : Nat) (a1 : Int32) (a4 : Int32) (ta0 : xTy a0 7) (h : Mem), Rn G 4 FX8_leave xcI 87 [(0, .ref (G.1 a0)), (1, .int a1), (4, .int a4)] [] h (f_X8_leave_87 n a0 a1 a4 h) := by
  intro n
  induction n with
  | zero => intros; intro r hr; cases hr
  | succ n ih =>
    intro a0 a1 a4 ta0 h
    unfold f_X8_leave_87
    refine r_iload (place := 2) dX8_leave_87 rfl ?_
    refine r_bipush dX8_leave_89 xb_6 ?_
    refine r_aload_n (place := 0) dX8_leave_91 rfl rfl ?_
    refine r_iload_n (place := 1) dX8_leave_92 rfl rfl ?_
    refine r_iconst dX8_leave_93 xc_3 ?_
    refine r_callVI (rest := [.int (6 : Int32), .int a4]) dX8_leave_94 m_X8_of lk_X8_166 rfl (by decide) ta0 (c_X8_of a0 ta0 a1 (3 : Int32) h) (by decide) rfl rfl (Nat.le_of_ble_eq_true rfl) (fun v2 h1 => ?_)
    refine r_imul dX8_leave_97 ?_
    refine r_ic_ge (tgt := 138) dX8_leave_98 (by decide) ?_ ?_
    · refine r_aload_n (place := 0) dX8_leave_138 rfl rfl ?_
      refine r_callVV (rest := []) dX8_leave_139 m_X8_forgets lk_X8_246 rfl (by decide) ta0 (c_X8_forgets a0 ta0 h1) (by decide) rfl rfl (Nat.le_of_ble_eq_true rfl) (fun h3 => ?_)
      refine r_aload_n (place := 0) dX8_leave_142 rfl rfl ?_
      refine r_iload_n (place := 1) dX8_leave_143 rfl rfl ?_
      refine r_iconst dX8_leave_144 xc_3 ?_
      refine r_callVI (rest := []) dX8_leave_145 m_X8_of lk_X8_166 rfl (by decide) ta0 (c_X8_of a0 ta0 a1 (3 : Int32) h3) (by decide) rfl rfl (Nat.le_of_ble_eq_true rfl) (fun v5 h4 => ?_)
      exact r_iret dX8_leave_148 rfl
    · refine r_aload_n (place := 0) dX8_leave_101 rfl rfl ?_
      refine r_getR dX8_leave_102 fg_X8_7 ta0 ?_
      refine r_iload_n (place := 1) dX8_leave_105 rfl rfl ?_
      refine r_bipush dX8_leave_106 xb_45 ?_
      refine r_iload (place := 2) dX8_leave_108 rfl ?_
      refine r_iadd dX8_leave_110 ?_
      refine r_callSI (rest := [.ref (G.1 (xrf a0 0))]) dX8_leave_111 m_X8_at lk_X8_115 (c_X8_at a1 ((45 : Int32) + a4) h1) (by decide) rfl rfl (Nat.le_of_ble_eq_true rfl) (fun v7 h6 => ?_)
      refine r_aload_n (place := 0) dX8_leave_114 rfl rfl ?_
      refine r_getR dX8_leave_115 fg_X8_7 ta0 ?_
      refine r_iload_n (place := 1) dX8_leave_118 rfl rfl ?_
      refine r_bipush dX8_leave_119 xb_45 ?_
      refine r_iload (place := 2) dX8_leave_121 rfl ?_
      refine r_iadd dX8_leave_123 ?_
      refine r_bipush dX8_leave_124 xb_6 ?_
      refine r_iadd dX8_leave_126 ?_
      refine r_callSI (rest := [.ref (G.1 (xrf a0 0)), .int v7, .ref (G.1 (xrf a0 0))]) dX8_leave_127 m_X8_at lk_X8_115 (c_X8_at a1 (((45 : Int32) + a4) + (6 : Int32)) h6) (by decide) rfl rfl (Nat.le_of_ble_eq_true rfl) (fun v9 h8 => ?_)
      refine r_iald dX8_leave_130 (xt_7_0 ta0) (fun v10 => ?_)
      refine r_iast dX8_leave_131 (xt_7_0 ta0) (fun h11 => ?_)
      refine r_iincC (place := 2) (ls' := [(4, .int (a4 + (1 : Int32))), (0, .ref (G.1 a0)), (1, .int a1)]) dX8_leave_132 rfl xc_1 (by decide) rfl ?_
      refine r_goto (tgt := 87) dX8_leave_135 (by decide) ?_
      exact r_sub [1, 2, 0] rfl (ih a0 a1 (a4 + (1 : Int32)) ta0 h11)
def f_X8_leave_57  (a0 : Nat) (a1 : Int32) (s0 : Int32) (h : Mem) : Option (Int32 × Mem) :=
  if s0 = (-4 : Int32) then
      some ((-4 : Int32), h)
  else
      b2 (f_X8_at a1 (3 : Int32) h) fun v2 h1 =>
      ald h1 (xrf a0 0) v2 fun v3 =>
      ast h1 (xrf a0 0) v2 (v3 - (1 : Int32)) fun h4 =>
      f_X8_leave_87 xFU a0 a1 ((6 : Int32) * s0) h4
set_option maxRecDepth 20000 in
theorem t_X8_leave_57 {G : xG}  (a0 : Nat) (a1 : Int32) (s0 : Int32) (ta0 : xTy a0 7) (h : Mem) : Rn G 4 FX8_leave xcI 57 [(0, .ref (G.1 a0)), (1, .int a1)] [.int s0] h (f_X8_leave_57 a0 a1 s0 h) := by
  unfold f_X8_leave_57
  refine r_istore_n (ls' := [(3, .int s0), (0, .ref (G.1 a0)), (1, .int a1)]) dX8_leave_57 rfl (by decide) rfl ?_
  refine r_iload_n (place := 0) dX8_leave_58 rfl rfl ?_
  refine r_bipush dX8_leave_59 xb_m4 ?_
  refine r_ic_ne (tgt := 67) dX8_leave_61 (by decide) ?_ ?_
  · refine r_aload_n (place := 1) dX8_leave_67 rfl rfl ?_
    refine r_getR dX8_leave_68 fg_X8_7 ta0 ?_
    refine r_iload_n (place := 2) dX8_leave_71 rfl rfl ?_
    refine r_iconst dX8_leave_72 xc_3 ?_
    refine r_callSI (rest := [.ref (G.1 (xrf a0 0))]) dX8_leave_73 m_X8_at lk_X8_115 (c_X8_at a1 (3 : Int32) h) (by decide) rfl rfl (Nat.le_of_ble_eq_true rfl) (fun v2 h1 => ?_)
    refine r_dup2 dX8_leave_76 rfl rfl ?_
    refine r_iald dX8_leave_77 (xt_7_0 ta0) (fun v3 => ?_)
    refine r_iconst dX8_leave_78 xc_1 ?_
    refine r_isub dX8_leave_79 ?_
    refine r_iast dX8_leave_80 (xt_7_0 ta0) (fun h4 => ?_)
    refine r_bipush dX8_leave_81 xb_6 ?_
    refine r_iload_n (place := 0) dX8_leave_83 rfl rfl ?_
    refine r_imul dX8_leave_84 ?_
    refine r_istore (ls' := [(4, .int ((6 : Int32) * s0)), (3, .int s0), (0, .ref (G.1 a0)), (1, .int a1)]) dX8_leave_85 (by decide) rfl ?_
    exact r_sub [2, 3, 0] rfl (t_X8_leave_87 xFU a0 a1 ((6 : Int32) * s0) ta0 h4)
  · refine r_bipush dX8_leave_64 xb_m4 ?_
    exact r_iret dX8_leave_66 rfl
def f_X8_leave (a0 : Nat) (a1 : Int32) (a2 : Int32) (h : Mem) : Option (Int32 × Mem) :=
  b2 (f_X8_isClient a1 h) fun v2 h1 =>
  if v2 = 0 then
      some ((-1 : Int32), h1)
  else
      b2 (f_X8_in a2.toInt64 (0 : Int64) (3 : Int64) h1) fun v4 h3 =>
      if v4 = 0 then
          some ((-1 : Int32), h3)
      else
          b2 (f_X8_isAwake a0 a1 h3) fun v6 h5 =>
          if v6 = 0 then
              some ((-2 : Int32), h5)
          else
              if (h5 a0 5) = 0 then
                  f_X8_leave_57 a0 a1 (-4 : Int32) h5
              else
                  b2 (f_X8_subOf (xrf a0 0) a1 (xrf a0 4) a2 h5) fun v8 h7 =>
                  f_X8_leave_57 a0 a1 v8 h7
set_option maxRecDepth 20000 in
theorem c_X8_leave {G : xG} (a0 : Nat) (ta0 : xTy a0 7) (a1 : Int32) (a2 : Int32) (h : Mem) : Sm G 4 yX8_leave FX8_leave xcI [.ref (G.1 a0), .int a1, .int a2] h (f_X8_leave a0 a1 a2 h) := by
  refine Sm.of pn_X8 rfl (Nat.le_of_ble_eq_true rfl) (ls := [(0, .ref (G.1 a0)), (1, .int a1), (2, .int a2)]) rfl ?_
  unfold f_X8_leave
  refine r_iload_n (place := 1) dX8_leave_0 rfl rfl ?_
  refine r_callSI (rest := []) dX8_leave_1 m_X8_isClient lk_X8_249 (c_X8_isClient a1 h) (by decide) rfl rfl (Nat.le_of_ble_eq_true rfl) (fun v2 h1 => ?_)
  refine r_if_eq (tgt := 19) dX8_leave_4 (by decide) ?_ ?_
  · refine r_iconst dX8_leave_19 xc_m1 ?_
    exact r_iret dX8_leave_20 rfl
  · refine r_iload_n (place := 2) dX8_leave_7 rfl rfl ?_
    refine r_i2l dX8_leave_8 ?_
    refine r_lconst dX8_leave_9 xl_0 ?_
    refine r_ldc2 dX8_leave_10 ll_X8_278 ?_
    refine r_callSI (rest := []) dX8_leave_13 m_X8_in lk_X8_59 (c_X8_in a2.toInt64 (0 : Int64) (3 : Int64) h1) (by decide) rfl rfl (Nat.le_of_ble_eq_true rfl) (fun v4 h3 => ?_)
    refine r_if_ne (tgt := 21) dX8_leave_16 (by decide) ?_ ?_
    · refine r_aload_n (place := 0) dX8_leave_21 rfl rfl ?_
      refine r_iload_n (place := 1) dX8_leave_22 rfl rfl ?_
      refine r_callVI (rest := []) dX8_leave_23 m_X8_isAwake lk_X8_177 rfl (by decide) ta0 (c_X8_isAwake a0 ta0 a1 h3) (by decide) rfl rfl (Nat.le_of_ble_eq_true rfl) (fun v6 h5 => ?_)
      refine r_if_ne (tgt := 32) dX8_leave_26 (by decide) ?_ ?_
      · refine r_aload_n (place := 0) dX8_leave_32 rfl rfl ?_
        refine r_getI dX8_leave_33 fg_X8_161 ta0 ?_
        refine r_if_ne (tgt := 44) dX8_leave_36 (by decide) ?_ ?_
        · refine r_aload_n (place := 0) dX8_leave_44 rfl rfl ?_
          refine r_getR dX8_leave_45 fg_X8_7 ta0 ?_
          refine r_iload_n (place := 1) dX8_leave_48 rfl rfl ?_
          refine r_aload_n (place := 0) dX8_leave_49 rfl rfl ?_
          refine r_getR dX8_leave_50 fg_X8_23 ta0 ?_
          refine r_iload_n (place := 2) dX8_leave_53 rfl rfl ?_
          refine r_callSI (rest := []) dX8_leave_54 m_X8_subOf lk_X8_129 (c_X8_subOf (xrf a0 0) (xt_7_0 ta0) a1 (xrf a0 4) (xt_7_4 ta0) a2 h5) (by decide) rfl rfl (Nat.le_of_ble_eq_true rfl) (fun v8 h7 => ?_)
          exact r_sub [0, 1] rfl (t_X8_leave_57 a0 a1 v8 ta0 h7)
        · refine r_bipush dX8_leave_39 xb_m4 ?_
          refine r_goto (tgt := 57) dX8_leave_41 (by decide) ?_
          exact r_sub [0, 1] rfl (t_X8_leave_57 a0 a1 (-4 : Int32) ta0 h5)
      · refine r_bipush dX8_leave_29 xb_m2 ?_
        exact r_iret dX8_leave_31 rfl
    · refine r_iconst dX8_leave_19 xc_m1 ?_
      exact r_iret dX8_leave_20 rfl
def f_X8_alias_74  : Nat → Nat → Int32 → Int32 → Int32 → Mem → Option (Int32 × Mem)
  | 0, _, _, _, _, _ => none
  | n + 1, a0, a3, a4, a5, h =>
    if (4 : Int32) ≤ a5 then
        some (a4, h)
    else
        ald h (xrf a0 4) a5 fun v1 =>
        ast h (xrf a0 0) (a3 + a5) v1 fun h2 =>
        (f_X8_alias_74 n) a0 a3 a4 (a5 + (1 : Int32)) h2
set_option maxRecDepth 20000 in
theorem t_X8_alias_74 {G : xG}  : ∀ (n : Nat) (a0 : Nat) (a3 : Int32) (a4 : Int32) (a5 : Int32) (ta0 : xTy a0 7) (h : Mem), Rn G 3 FX8_alias xcI 74 [(0, .ref (G.1 a0)), (3, .int a3), (4, .int a4), (5, .int a5)] [] h (f_X8_alias_74 n a0 a3 a4 a5 h) := by
  intro n
  induction n with
  | zero => intros; intro r hr; cases hr
  | succ n ih =>
    intro a0 a3 a4 a5 ta0 h
    unfold f_X8_alias_74
    refine r_iload (place := 3) dX8_alias_74 rfl ?_
    refine r_iconst dX8_alias_76 xc_4 ?_
    refine r_ic_ge (tgt := 102) dX8_alias_77 (by decide) ?_ ?_
    · refine r_iload (place := 2) dX8_alias_102 rfl ?_
      exact r_iret dX8_alias_104 rfl
    · refine r_aload_n (place := 0) dX8_alias_80 rfl rfl ?_
      refine r_getR dX8_alias_81 fg_X8_7 ta0 ?_
      refine r_iload_n (place := 1) dX8_alias_84 rfl rfl ?_
      refine r_iload (place := 3) dX8_alias_85 rfl ?_
      refine r_iadd dX8_alias_87 ?_
      refine r_aload_n (place := 0) dX8_alias_88 rfl rfl ?_
      refine r_getR dX8_alias_89 fg_X8_23 ta0 ?_
      refine r_iload (place := 3) dX8_alias_92 rfl ?_
      refine r_iald dX8_alias_94 (xt_7_4 ta0) (fun v1 => ?_)
      refine r_iast dX8_alias_95 (xt_7_0 ta0) (fun h2 => ?_)
      refine r_iincC (place := 3) (ls' := [(5, .int (a5 + (1 : Int32))), (0, .ref (G.1 a0)), (3, .int a3), (4, .int a4)]) dX8_alias_96 rfl xc_1 (by decide) rfl ?_
      refine r_goto (tgt := 74) dX8_alias_99 (by decide) ?_
      exact r_sub [1, 2, 3, 0] rfl (ih a0 a3 a4 (a5 + (1 : Int32)) ta0 h2)
def f_X8_alias_66  (a0 : Nat) (a3 : Int32) (s0 : Int32) (h : Mem) : Option (Int32 × Mem) :=
  b2 (f_X8_flag s0 h) fun v2 h1 =>
  f_X8_alias_74 xFU a0 a3 v2 (0 : Int32) h1
set_option maxRecDepth 20000 in
theorem t_X8_alias_66 {G : xG}  (a0 : Nat) (a3 : Int32) (s0 : Int32) (ta0 : xTy a0 7) (h : Mem) : Rn G 3 FX8_alias xcI 66 [(0, .ref (G.1 a0)), (3, .int a3)] [.int s0] h (f_X8_alias_66 a0 a3 s0 h) := by
  unfold f_X8_alias_66
  refine r_callSI (rest := []) dX8_alias_66 m_X8_flag lk_X8_260 (c_X8_flag s0 h) (by decide) rfl rfl (Nat.le_of_ble_eq_true rfl) (fun v2 h1 => ?_)
  refine r_istore (ls' := [(4, .int v2), (0, .ref (G.1 a0)), (3, .int a3)]) dX8_alias_69 (by decide) rfl ?_
  refine r_iconst dX8_alias_71 xc_0 ?_
  refine r_istore (ls' := [(5, .int (0 : Int32)), (4, .int v2), (0, .ref (G.1 a0)), (3, .int a3)]) dX8_alias_72 (by decide) rfl ?_
  exact r_sub [2, 3, 1, 0] rfl (t_X8_alias_74 xFU a0 a3 v2 (0 : Int32) ta0 h1)
def f_X8_alias (a0 : Nat) (a1 : Int32) (a2 : Int32) (h : Mem) : Option (Int32 × Mem) :=
  b2 (f_X8_isClient a1 h) fun v2 h1 =>
  if v2 = 0 then
      some ((-1 : Int32), h1)
  else
      b2 (f_X8_in a2.toInt64 (1 : Int64) (4 : Int64) h1) fun v4 h3 =>
      if v4 = 0 then
          some ((-1 : Int32), h3)
      else
          b2 (f_X8_isAwake a0 a1 h3) fun v6 h5 =>
          if v6 = 0 then
              some ((-2 : Int32), h5)
          else
              b2 (f_X8_isTopic a0 h5) fun v8 h7 =>
              if v8 = 0 then
                  some ((-2 : Int32), h7)
              else
                  b2 (f_X8_at a1 ((29 : Int32) + ((4 : Int32) * (a2 - (1 : Int32)))) h7) fun v10 h9 =>
                  ald h9 (xrf a0 0) v10 fun v11 =>
                  if v11 ≤ 0 then
                      f_X8_alias_66 a0 v10 (0 : Int32) h9
                  else
                      f_X8_alias_66 a0 v10 (1 : Int32) h9
set_option maxRecDepth 20000 in
theorem c_X8_alias {G : xG} (a0 : Nat) (ta0 : xTy a0 7) (a1 : Int32) (a2 : Int32) (h : Mem) : Sm G 3 yX8_alias FX8_alias xcI [.ref (G.1 a0), .int a1, .int a2] h (f_X8_alias a0 a1 a2 h) := by
  refine Sm.of pn_X8 rfl (Nat.le_of_ble_eq_true rfl) (ls := [(0, .ref (G.1 a0)), (1, .int a1), (2, .int a2)]) rfl ?_
  unfold f_X8_alias
  refine r_iload_n (place := 1) dX8_alias_0 rfl rfl ?_
  refine r_callSI (rest := []) dX8_alias_1 m_X8_isClient lk_X8_249 (c_X8_isClient a1 h) (by decide) rfl rfl (Nat.le_of_ble_eq_true rfl) (fun v2 h1 => ?_)
  refine r_if_eq (tgt := 19) dX8_alias_4 (by decide) ?_ ?_
  · refine r_iconst dX8_alias_19 xc_m1 ?_
    exact r_iret dX8_alias_20 rfl
  · refine r_iload_n (place := 2) dX8_alias_7 rfl rfl ?_
    refine r_i2l dX8_alias_8 ?_
    refine r_lconst dX8_alias_9 xl_1 ?_
    refine r_ldc2 dX8_alias_10 ll_X8_284 ?_
    refine r_callSI (rest := []) dX8_alias_13 m_X8_in lk_X8_59 (c_X8_in a2.toInt64 (1 : Int64) (4 : Int64) h1) (by decide) rfl rfl (Nat.le_of_ble_eq_true rfl) (fun v4 h3 => ?_)
    refine r_if_ne (tgt := 21) dX8_alias_16 (by decide) ?_ ?_
    · refine r_aload_n (place := 0) dX8_alias_21 rfl rfl ?_
      refine r_iload_n (place := 1) dX8_alias_22 rfl rfl ?_
      refine r_callVI (rest := []) dX8_alias_23 m_X8_isAwake lk_X8_177 rfl (by decide) ta0 (c_X8_isAwake a0 ta0 a1 h3) (by decide) rfl rfl (Nat.le_of_ble_eq_true rfl) (fun v6 h5 => ?_)
      refine r_if_eq (tgt := 36) dX8_alias_26 (by decide) ?_ ?_
      · refine r_bipush dX8_alias_36 xb_m2 ?_
        exact r_iret dX8_alias_38 rfl
      · refine r_aload_n (place := 0) dX8_alias_29 rfl rfl ?_
        refine r_callVI (rest := []) dX8_alias_30 m_X8_isTopic lk_X8_275 rfl (by decide) ta0 (c_X8_isTopic a0 ta0 h5) (by decide) rfl rfl (Nat.le_of_ble_eq_true rfl) (fun v8 h7 => ?_)
        refine r_if_ne (tgt := 39) dX8_alias_33 (by decide) ?_ ?_
        · refine r_iload_n (place := 1) dX8_alias_39 rfl rfl ?_
          refine r_bipush dX8_alias_40 xb_29 ?_
          refine r_iconst dX8_alias_42 xc_4 ?_
          refine r_iload_n (place := 2) dX8_alias_43 rfl rfl ?_
          refine r_iconst dX8_alias_44 xc_1 ?_
          refine r_isub dX8_alias_45 ?_
          refine r_imul dX8_alias_46 ?_
          refine r_iadd dX8_alias_47 ?_
          refine r_callSI (rest := []) dX8_alias_48 m_X8_at lk_X8_115 (c_X8_at a1 ((29 : Int32) + ((4 : Int32) * (a2 - (1 : Int32)))) h7) (by decide) rfl rfl (Nat.le_of_ble_eq_true rfl) (fun v10 h9 => ?_)
          refine r_istore_n (ls' := [(3, .int v10), (0, .ref (G.1 a0)), (1, .int a1), (2, .int a2)]) dX8_alias_51 rfl (by decide) rfl ?_
          refine r_aload_n (place := 1) dX8_alias_52 rfl rfl ?_
          refine r_getR dX8_alias_53 fg_X8_7 ta0 ?_
          refine r_iload_n (place := 0) dX8_alias_56 rfl rfl ?_
          refine r_iald dX8_alias_57 (xt_7_0 ta0) (fun v11 => ?_)
          refine r_if_le (tgt := 65) dX8_alias_58 (by decide) ?_ ?_
          · refine r_iconst dX8_alias_65 xc_0 ?_
            exact r_sub [1, 0] rfl (t_X8_alias_66 a0 v10 (0 : Int32) ta0 h9)
          · refine r_iconst dX8_alias_61 xc_1 ?_
            refine r_goto (tgt := 66) dX8_alias_62 (by decide) ?_
            exact r_sub [1, 0] rfl (t_X8_alias_66 a0 v10 (1 : Int32) ta0 h9)
        · refine r_bipush dX8_alias_36 xb_m2 ?_
          exact r_iret dX8_alias_38 rfl
    · refine r_iconst dX8_alias_19 xc_m1 ?_
      exact r_iret dX8_alias_20 rfl
def f_X8_say_143 (kk101 : Nat → Int32 → Int32 → Int32 → Int32 → Int32 → Int32 → Mem → Option (Int32 × Mem)) (a0 : Nat) (a1 : Int32) (a2 : Int32) (a3 : Int32) (a4 : Int32) (a5 : Int32) (a6 : Int32) (s0 : Nat) (s1 : Int32) (s2 : Int32) (h : Mem) : Option (Int32 × Mem) :=
  ast h s0 s1 s2 fun h1 =>
  kk101 a0 a1 a2 a3 a4 a5 (a6 + (1 : Int32)) h1
set_option maxRecDepth 20000 in
theorem t_X8_say_143 {G : xG} (kk101 : Nat → Int32 → Int32 → Int32 → Int32 → Int32 → Int32 → Mem → Option (Int32 × Mem)) (hk101 : ∀ (a0 : Nat) (a1 : Int32) (a2 : Int32) (a3 : Int32) (a4 : Int32) (a5 : Int32) (a6 : Int32) (ta0 : xTy a0 7) (h : Mem), Rn G 8 FX8_say xcI 101 [(0, .ref (G.1 a0)), (1, .int a1), (2, .int a2), (3, .int a3), (4, .int a4), (5, .int a5), (6, .int a6)] [] h (kk101 a0 a1 a2 a3 a4 a5 a6 h)) (a0 : Nat) (a1 : Int32) (a2 : Int32) (a3 : Int32) (a4 : Int32) (a5 : Int32) (a6 : Int32) (s0 : Nat) (s1 : Int32) (s2 : Int32) (ta0 : xTy a0 7) (ts0 : xTy s0 8) (h : Mem) : Rn G 8 FX8_say xcI 143 [(0, .ref (G.1 a0)), (1, .int a1), (2, .int a2), (3, .int a3), (4, .int a4), (5, .int a5), (6, .int a6)] [.int s2, .int s1, .ref (G.1 s0)] h (f_X8_say_143 kk101 a0 a1 a2 a3 a4 a5 a6 s0 s1 s2 h) := by
  unfold f_X8_say_143
  refine r_iast dX8_say_143 ts0 (fun h1 => ?_)
  refine r_iincC (place := 6) (ls' := [(6, .int (a6 + (1 : Int32))), (0, .ref (G.1 a0)), (1, .int a1), (2, .int a2), (3, .int a3), (4, .int a4), (5, .int a5)]) dX8_say_144 rfl xc_1 (by decide) rfl ?_
  refine r_goto (tgt := 101) dX8_say_147 (by decide) ?_
  exact r_sub [1, 2, 3, 4, 5, 6, 0] rfl (hk101 a0 a1 a2 a3 a4 a5 (a6 + (1 : Int32)) ta0 h1)
def f_X8_say_101  : Nat → Nat → Int32 → Int32 → Int32 → Int32 → Int32 → Int32 → Mem → Option (Int32 × Mem)
  | 0, _, _, _, _, _, _, _, _ => none
  | n + 1, a0, a1, a2, a3, a4, a5, a6, h =>
    if (4 : Int32) ≤ a6 then
        b2 (f_X8_says a0 (xrf a0 21) a3 a4 a5 h) fun v2 h1 =>
        some (v2, h1)
    else
        if a2 = 0 then
            ald h (xrf a0 4) a6 fun v5 =>
            f_X8_say_143 (f_X8_say_101 n) a0 a1 a2 a3 a4 a5 a6 (xrf a0 21) a6 v5 h
        else
            b2 (f_X8_of a0 a1 (((29 : Int32) + ((4 : Int32) * (a2 - (1 : Int32)))) + a6) h) fun v4 h3 =>
            f_X8_say_143 (f_X8_say_101 n) a0 a1 a2 a3 a4 a5 a6 (xrf a0 21) a6 v4 h3
set_option maxRecDepth 20000 in
theorem t_X8_say_101 {G : xG}  : ∀ (n : Nat) (a0 : Nat) (a1 : Int32) (a2 : Int32) (a3 : Int32) (a4 : Int32) (a5 : Int32) (a6 : Int32) (ta0 : xTy a0 7) (h : Mem), Rn G 8 FX8_say xcI 101 [(0, .ref (G.1 a0)), (1, .int a1), (2, .int a2), (3, .int a3), (4, .int a4), (5, .int a5), (6, .int a6)] [] h (f_X8_say_101 n a0 a1 a2 a3 a4 a5 a6 h) := by
  intro n
  induction n with
  | zero => intros; intro r hr; cases hr
  | succ n ih =>
    intro a0 a1 a2 a3 a4 a5 a6 ta0 h
    unfold f_X8_say_101
    refine r_iload (place := 6) dX8_say_101 rfl ?_
    refine r_iconst dX8_say_103 xc_4 ?_
    refine r_ic_ge (tgt := 150) dX8_say_104 (by decide) ?_ ?_
    · refine r_aload_n (place := 0) dX8_say_150 rfl rfl ?_
      refine r_aload_n (place := 0) dX8_say_151 rfl rfl ?_
      refine r_getR dX8_say_152 fg_X8_47 ta0 ?_
      refine r_iload_n (place := 3) dX8_say_155 rfl rfl ?_
      refine r_iload (place := 4) dX8_say_156 rfl ?_
      refine r_iload (place := 5) dX8_say_158 rfl ?_
      refine r_callVI (rest := []) dX8_say_160 m_X8_says lk_X8_264 rfl (by decide) ta0 (c_X8_says a0 ta0 (xrf a0 21) (xt_7_21 ta0) a3 a4 a5 h) (by decide) rfl rfl (Nat.le_of_ble_eq_true rfl) (fun v2 h1 => ?_)
      exact r_iret dX8_say_163 rfl
    · refine r_aload_n (place := 0) dX8_say_107 rfl rfl ?_
      refine r_getR dX8_say_108 fg_X8_47 ta0 ?_
      refine r_iload (place := 6) dX8_say_111 rfl ?_
      refine r_iload_n (place := 2) dX8_say_113 rfl rfl ?_
      refine r_if_ne (tgt := 127) dX8_say_114 (by decide) ?_ ?_
      · refine r_aload_n (place := 0) dX8_say_127 rfl rfl ?_
        refine r_iload_n (place := 1) dX8_say_128 rfl rfl ?_
        refine r_bipush dX8_say_129 xb_29 ?_
        refine r_iconst dX8_say_131 xc_4 ?_
        refine r_iload_n (place := 2) dX8_say_132 rfl rfl ?_
        refine r_iconst dX8_say_133 xc_1 ?_
        refine r_isub dX8_say_134 ?_
        refine r_imul dX8_say_135 ?_
        refine r_iadd dX8_say_136 ?_
        refine r_iload (place := 6) dX8_say_137 rfl ?_
        refine r_iadd dX8_say_139 ?_
        refine r_callVI (rest := [.int a6, .ref (G.1 (xrf a0 21))]) dX8_say_140 m_X8_of lk_X8_166 rfl (by decide) ta0 (c_X8_of a0 ta0 a1 (((29 : Int32) + ((4 : Int32) * (a2 - (1 : Int32)))) + a6) h) (by decide) rfl rfl (Nat.le_of_ble_eq_true rfl) (fun v4 h3 => ?_)
        exact r_sub [0, 1, 2, 3, 4, 5, 6] rfl (t_X8_say_143 (f_X8_say_101 n) ih a0 a1 a2 a3 a4 a5 a6 (xrf a0 21) a6 v4 ta0 (xt_7_21 ta0) h3)
      · refine r_aload_n (place := 0) dX8_say_117 rfl rfl ?_
        refine r_getR dX8_say_118 fg_X8_23 ta0 ?_
        refine r_iload (place := 6) dX8_say_121 rfl ?_
        refine r_iald dX8_say_123 (xt_7_4 ta0) (fun v5 => ?_)
        refine r_goto (tgt := 143) dX8_say_124 (by decide) ?_
        exact r_sub [0, 1, 2, 3, 4, 5, 6] rfl (t_X8_say_143 (f_X8_say_101 n) ih a0 a1 a2 a3 a4 a5 a6 (xrf a0 21) a6 v5 ta0 (xt_7_21 ta0) h)
def f_X8_say_98  (a0 : Nat) (a1 : Int32) (a2 : Int32) (a3 : Int32) (a4 : Int32) (a5 : Int32) (h : Mem) : Option (Int32 × Mem) :=
  f_X8_say_101 xFU a0 a1 a2 a3 a4 a5 (0 : Int32) h
set_option maxRecDepth 20000 in
theorem t_X8_say_98 {G : xG}  (a0 : Nat) (a1 : Int32) (a2 : Int32) (a3 : Int32) (a4 : Int32) (a5 : Int32) (ta0 : xTy a0 7) (h : Mem) : Rn G 8 FX8_say xcI 98 [(0, .ref (G.1 a0)), (1, .int a1), (2, .int a2), (3, .int a3), (4, .int a4), (5, .int a5)] [] h (f_X8_say_98 a0 a1 a2 a3 a4 a5 h) := by
  unfold f_X8_say_98
  refine r_iconst dX8_say_98 xc_0 ?_
  refine r_istore (ls' := [(6, .int (0 : Int32)), (0, .ref (G.1 a0)), (1, .int a1), (2, .int a2), (3, .int a3), (4, .int a4), (5, .int a5)]) dX8_say_99 (by decide) rfl ?_
  exact r_sub [1, 2, 3, 4, 5, 6, 0] rfl (t_X8_say_101 xFU a0 a1 a2 a3 a4 a5 (0 : Int32) ta0 h)
def f_X8_say (a0 : Nat) (a1 : Int32) (a2 : Int32) (a3 : Int32) (a4 : Int32) (a5 : Int32) (h : Mem) : Option (Int32 × Mem) :=
  b2 (f_X8_isClient a1 h) fun v2 h1 =>
  if v2 = 0 then
      some ((-1 : Int32), h1)
  else
      b2 (f_X8_in a2.toInt64 (0 : Int64) (4 : Int64) h1) fun v4 h3 =>
      if v4 = 0 then
          some ((-1 : Int32), h3)
      else
          b2 (f_X8_in a3.toInt64 (0 : Int64) (99 : Int64) h3) fun v6 h5 =>
          if v6 = 0 then
              some ((-1 : Int32), h5)
          else
              b2 (f_X8_in a4.toInt64 (0 : Int64) (2 : Int64) h5) fun v8 h7 =>
              if v8 = 0 then
                  some ((-1 : Int32), h7)
              else
                  b2 (f_X8_in a5.toInt64 (0 : Int64) (1 : Int64) h7) fun v10 h9 =>
                  if v10 = 0 then
                      some ((-1 : Int32), h9)
                  else
                      b2 (f_X8_isAwake a0 a1 h9) fun v12 h11 =>
                      if v12 = 0 then
                          some ((-2 : Int32), h11)
                      else
                          if a2 = 0 then
                              b2 (f_X8_isTopic a0 h11) fun v16 h15 =>
                              if v16 = 0 then
                                  some ((-2 : Int32), h15)
                              else
                                  f_X8_say_98 a0 a1 a2 a3 a4 a5 h15
                          else
                              b2 (f_X8_of a0 a1 ((29 : Int32) + ((4 : Int32) * (a2 - (1 : Int32)))) h11) fun v14 h13 =>
                              if v14 = 0 then
                                  some ((-2 : Int32), h13)
                              else
                                  f_X8_say_98 a0 a1 a2 a3 a4 a5 h13
set_option maxRecDepth 20000 in
theorem c_X8_say {G : xG} (a0 : Nat) (ta0 : xTy a0 7) (a1 : Int32) (a2 : Int32) (a3 : Int32) (a4 : Int32) (a5 : Int32) (h : Mem) : Sm G 8 yX8_say FX8_say xcI [.ref (G.1 a0), .int a1, .int a2, .int a3, .int a4, .int a5] h (f_X8_say a0 a1 a2 a3 a4 a5 h) := by
  refine Sm.of pn_X8 rfl (Nat.le_of_ble_eq_true rfl) (ls := [(0, .ref (G.1 a0)), (1, .int a1), (2, .int a2), (3, .int a3), (4, .int a4), (5, .int a5)]) rfl ?_
  unfold f_X8_say
  refine r_iload_n (place := 1) dX8_say_0 rfl rfl ?_
  refine r_callSI (rest := []) dX8_say_1 m_X8_isClient lk_X8_249 (c_X8_isClient a1 h) (by decide) rfl rfl (Nat.le_of_ble_eq_true rfl) (fun v2 h1 => ?_)
  refine r_if_eq (tgt := 55) dX8_say_4 (by decide) ?_ ?_
  · refine r_iconst dX8_say_55 xc_m1 ?_
    exact r_iret dX8_say_56 rfl
  · refine r_iload_n (place := 2) dX8_say_7 rfl rfl ?_
    refine r_i2l dX8_say_8 ?_
    refine r_lconst dX8_say_9 xl_0 ?_
    refine r_ldc2 dX8_say_10 ll_X8_284 ?_
    refine r_callSI (rest := []) dX8_say_13 m_X8_in lk_X8_59 (c_X8_in a2.toInt64 (0 : Int64) (4 : Int64) h1) (by decide) rfl rfl (Nat.le_of_ble_eq_true rfl) (fun v4 h3 => ?_)
    refine r_if_eq (tgt := 55) dX8_say_16 (by decide) ?_ ?_
    · refine r_iconst dX8_say_55 xc_m1 ?_
      exact r_iret dX8_say_56 rfl
    · refine r_iload_n (place := 3) dX8_say_19 rfl rfl ?_
      refine r_i2l dX8_say_20 ?_
      refine r_lconst dX8_say_21 xl_0 ?_
      refine r_ldc2 dX8_say_22 ll_X8_252 ?_
      refine r_callSI (rest := []) dX8_say_25 m_X8_in lk_X8_59 (c_X8_in a3.toInt64 (0 : Int64) (99 : Int64) h3) (by decide) rfl rfl (Nat.le_of_ble_eq_true rfl) (fun v6 h5 => ?_)
      refine r_if_eq (tgt := 55) dX8_say_28 (by decide) ?_ ?_
      · refine r_iconst dX8_say_55 xc_m1 ?_
        exact r_iret dX8_say_56 rfl
      · refine r_iload (place := 4) dX8_say_31 rfl ?_
        refine r_i2l dX8_say_33 ?_
        refine r_lconst dX8_say_34 xl_0 ?_
        refine r_ldc2 dX8_say_35 ll_X8_271 ?_
        refine r_callSI (rest := []) dX8_say_38 m_X8_in lk_X8_59 (c_X8_in a4.toInt64 (0 : Int64) (2 : Int64) h5) (by decide) rfl rfl (Nat.le_of_ble_eq_true rfl) (fun v8 h7 => ?_)
        refine r_if_eq (tgt := 55) dX8_say_41 (by decide) ?_ ?_
        · refine r_iconst dX8_say_55 xc_m1 ?_
          exact r_iret dX8_say_56 rfl
        · refine r_iload (place := 5) dX8_say_44 rfl ?_
          refine r_i2l dX8_say_46 ?_
          refine r_lconst dX8_say_47 xl_0 ?_
          refine r_lconst dX8_say_48 xl_1 ?_
          refine r_callSI (rest := []) dX8_say_49 m_X8_in lk_X8_59 (c_X8_in a5.toInt64 (0 : Int64) (1 : Int64) h7) (by decide) rfl rfl (Nat.le_of_ble_eq_true rfl) (fun v10 h9 => ?_)
          refine r_if_ne (tgt := 57) dX8_say_52 (by decide) ?_ ?_
          · refine r_aload_n (place := 0) dX8_say_57 rfl rfl ?_
            refine r_iload_n (place := 1) dX8_say_58 rfl rfl ?_
            refine r_callVI (rest := []) dX8_say_59 m_X8_isAwake lk_X8_177 rfl (by decide) ta0 (c_X8_isAwake a0 ta0 a1 h9) (by decide) rfl rfl (Nat.le_of_ble_eq_true rfl) (fun v12 h11 => ?_)
            refine r_if_eq (tgt := 95) dX8_say_62 (by decide) ?_ ?_
            · refine r_bipush dX8_say_95 xb_m2 ?_
              exact r_iret dX8_say_97 rfl
            · refine r_iload_n (place := 2) dX8_say_65 rfl rfl ?_
              refine r_if_ne (tgt := 79) dX8_say_66 (by decide) ?_ ?_
              · refine r_aload_n (place := 0) dX8_say_79 rfl rfl ?_
                refine r_iload_n (place := 1) dX8_say_80 rfl rfl ?_
                refine r_bipush dX8_say_81 xb_29 ?_
                refine r_iconst dX8_say_83 xc_4 ?_
                refine r_iload_n (place := 2) dX8_say_84 rfl rfl ?_
                refine r_iconst dX8_say_85 xc_1 ?_
                refine r_isub dX8_say_86 ?_
                refine r_imul dX8_say_87 ?_
                refine r_iadd dX8_say_88 ?_
                refine r_callVI (rest := []) dX8_say_89 m_X8_of lk_X8_166 rfl (by decide) ta0 (c_X8_of a0 ta0 a1 ((29 : Int32) + ((4 : Int32) * (a2 - (1 : Int32)))) h11) (by decide) rfl rfl (Nat.le_of_ble_eq_true rfl) (fun v14 h13 => ?_)
                refine r_if_ne (tgt := 98) dX8_say_92 (by decide) ?_ ?_
                · exact r_sub [0, 1, 2, 3, 4, 5] rfl (t_X8_say_98 a0 a1 a2 a3 a4 a5 ta0 h13)
                · refine r_bipush dX8_say_95 xb_m2 ?_
                  exact r_iret dX8_say_97 rfl
              · refine r_aload_n (place := 0) dX8_say_69 rfl rfl ?_
                refine r_callVI (rest := []) dX8_say_70 m_X8_isTopic lk_X8_275 rfl (by decide) ta0 (c_X8_isTopic a0 ta0 h11) (by decide) rfl rfl (Nat.le_of_ble_eq_true rfl) (fun v16 h15 => ?_)
                refine r_if_ne (tgt := 98) dX8_say_73 (by decide) ?_ ?_
                · exact r_sub [0, 1, 2, 3, 4, 5] rfl (t_X8_say_98 a0 a1 a2 a3 a4 a5 ta0 h15)
                · refine r_goto (tgt := 95) dX8_say_76 (by decide) ?_
                  refine r_bipush dX8_say_95 xb_m2 ?_
                  exact r_iret dX8_say_97 rfl
          · refine r_iconst dX8_say_55 xc_m1 ?_
            exact r_iret dX8_say_56 rfl
def f_X8_knownOf_2  : Nat → Nat → Int32 → Int32 → Int32 → Mem → Option (Int32 × Mem)
  | 0, _, _, _, _, _ => none
  | n + 1, a0, a1, a2, a3, h =>
    b2 (f_X8_of a0 a1 (8 : Int32) h) fun v2 h1 =>
    if v2 ≤ a3 then
        some ((-4 : Int32), h1)
    else
        b2 (f_X8_of a0 a1 ((401 : Int32) + a3) h1) fun v4 h3 =>
        if v4 = a2 then
            some (a3, h3)
        else
            (f_X8_knownOf_2 n) a0 a1 a2 (a3 + (1 : Int32)) h3
set_option maxRecDepth 20000 in
theorem t_X8_knownOf_2 {G : xG}  : ∀ (n : Nat) (a0 : Nat) (a1 : Int32) (a2 : Int32) (a3 : Int32) (ta0 : xTy a0 7) (h : Mem), Rn G 2 FX8_knownOf xcI 2 [(0, .ref (G.1 a0)), (1, .int a1), (2, .int a2), (3, .int a3)] [] h (f_X8_knownOf_2 n a0 a1 a2 a3 h) := by
  intro n
  induction n with
  | zero => intros; intro r hr; cases hr
  | succ n ih =>
    intro a0 a1 a2 a3 ta0 h
    unfold f_X8_knownOf_2
    refine r_iload_n (place := 3) dX8_knownOf_2 rfl rfl ?_
    refine r_aload_n (place := 0) dX8_knownOf_3 rfl rfl ?_
    refine r_iload_n (place := 1) dX8_knownOf_4 rfl rfl ?_
    refine r_bipush dX8_knownOf_5 xb_8 ?_
    refine r_callVI (rest := [.int a3]) dX8_knownOf_7 m_X8_of lk_X8_166 rfl (by decide) ta0 (c_X8_of a0 ta0 a1 (8 : Int32) h) (by decide) rfl rfl (Nat.le_of_ble_eq_true rfl) (fun v2 h1 => ?_)
    refine r_ic_ge (tgt := 35) dX8_knownOf_10 (by decide) ?_ ?_
    · refine r_bipush dX8_knownOf_35 xb_m4 ?_
      exact r_iret dX8_knownOf_37 rfl
    · refine r_aload_n (place := 0) dX8_knownOf_13 rfl rfl ?_
      refine r_iload_n (place := 1) dX8_knownOf_14 rfl rfl ?_
      refine r_sipush dX8_knownOf_15 xs_401 ?_
      refine r_iload_n (place := 3) dX8_knownOf_18 rfl rfl ?_
      refine r_iadd dX8_knownOf_19 ?_
      refine r_callVI (rest := []) dX8_knownOf_20 m_X8_of lk_X8_166 rfl (by decide) ta0 (c_X8_of a0 ta0 a1 ((401 : Int32) + a3) h1) (by decide) rfl rfl (Nat.le_of_ble_eq_true rfl) (fun v4 h3 => ?_)
      refine r_iload_n (place := 2) dX8_knownOf_23 rfl rfl ?_
      refine r_ic_ne (tgt := 29) dX8_knownOf_24 (by decide) ?_ ?_
      · refine r_iincC (place := 3) (ls' := [(3, .int (a3 + (1 : Int32))), (0, .ref (G.1 a0)), (1, .int a1), (2, .int a2)]) dX8_knownOf_29 rfl xc_1 (by decide) rfl ?_
        refine r_goto (tgt := 2) dX8_knownOf_32 (by decide) ?_
        exact r_sub [1, 2, 3, 0] rfl (ih a0 a1 a2 (a3 + (1 : Int32)) ta0 h3)
      · refine r_iload_n (place := 3) dX8_knownOf_27 rfl rfl ?_
        exact r_iret dX8_knownOf_28 rfl
def f_X8_knownOf (a0 : Nat) (a1 : Int32) (a2 : Int32) (h : Mem) : Option (Int32 × Mem) :=
  f_X8_knownOf_2 xFU a0 a1 a2 (0 : Int32) h
set_option maxRecDepth 20000 in
theorem c_X8_knownOf {G : xG} (a0 : Nat) (ta0 : xTy a0 7) (a1 : Int32) (a2 : Int32) (h : Mem) : Sm G 2 yX8_knownOf FX8_knownOf xcI [.ref (G.1 a0), .int a1, .int a2] h (f_X8_knownOf a0 a1 a2 h) := by
  refine Sm.of pn_X8 rfl (Nat.le_of_ble_eq_true rfl) (ls := [(0, .ref (G.1 a0)), (1, .int a1), (2, .int a2)]) rfl ?_
  unfold f_X8_knownOf
  refine r_iconst dX8_knownOf_0 xc_0 ?_
  refine r_istore_n (ls' := [(3, .int (0 : Int32)), (0, .ref (G.1 a0)), (1, .int a1), (2, .int a2)]) dX8_knownOf_1 rfl (by decide) rfl ?_
  exact r_sub [1, 2, 3, 0] rfl (t_X8_knownOf_2 xFU a0 a1 a2 (0 : Int32) ta0 h)
def f_X8_takes_100  (a0 : Nat) (a1 : Int32) (a2 : Int32) (a3 : Int32) (a4 : Int32) (a5 : Int32) (h : Mem) : Option (Unit × Mem) :=
  b2 (f_X8_of a0 a1 (11 : Int32) h) fun v2 h1 =>
  b2 (f_X8_at a1 ((281 : Int32) + ((4 : Int32) * v2)) h1) fun v4 h3 =>
  ast h3 (xrf a0 0) v4 a2 fun h5 =>
  ast h5 (xrf a0 0) (v4 + (1 : Int32)) a4 fun h6 =>
  ast h6 (xrf a0 0) (v4 + (2 : Int32)) a3 fun h7 =>
  ast h7 (xrf a0 0) (v4 + (3 : Int32)) a5 fun h8 =>
  b2 (f_X8_at a1 (11 : Int32) h8) fun v10 h9 =>
  ald h9 (xrf a0 0) v10 fun v11 =>
  ast h9 (xrf a0 0) v10 (v11 + (1 : Int32)) fun h12 =>
  some ((), h12)
set_option maxRecDepth 20000 in
theorem t_X8_takes_100 {G : xG}  (a0 : Nat) (a1 : Int32) (a2 : Int32) (a3 : Int32) (a4 : Int32) (a5 : Int32) (ta0 : xTy a0 7) (h : Mem) : Rn G 2 FX8_takes xcV 100 [(0, .ref (G.1 a0)), (1, .int a1), (2, .int a2), (3, .int a3), (4, .int a4), (5, .int a5)] [] h (f_X8_takes_100 a0 a1 a2 a3 a4 a5 h) := by
  unfold f_X8_takes_100
  refine r_iload_n (place := 1) dX8_takes_100 rfl rfl ?_
  refine r_sipush dX8_takes_101 xs_281 ?_
  refine r_iconst dX8_takes_104 xc_4 ?_
  refine r_aload_n (place := 0) dX8_takes_105 rfl rfl ?_
  refine r_iload_n (place := 1) dX8_takes_106 rfl rfl ?_
  refine r_bipush dX8_takes_107 xb_11 ?_
  refine r_callVI (rest := [.int (4 : Int32), .int (281 : Int32), .int a1]) dX8_takes_109 m_X8_of lk_X8_166 rfl (by decide) ta0 (c_X8_of a0 ta0 a1 (11 : Int32) h) (by decide) rfl rfl (Nat.le_of_ble_eq_true rfl) (fun v2 h1 => ?_)
  refine r_imul dX8_takes_112 ?_
  refine r_iadd dX8_takes_113 ?_
  refine r_callSI (rest := []) dX8_takes_114 m_X8_at lk_X8_115 (c_X8_at a1 ((281 : Int32) + ((4 : Int32) * v2)) h1) (by decide) rfl rfl (Nat.le_of_ble_eq_true rfl) (fun v4 h3 => ?_)
  refine r_istore (ls' := [(6, .int v4), (0, .ref (G.1 a0)), (1, .int a1), (2, .int a2), (3, .int a3), (4, .int a4), (5, .int a5)]) dX8_takes_117 (by decide) rfl ?_
  refine r_aload_n (place := 1) dX8_takes_119 rfl rfl ?_
  refine r_getR dX8_takes_120 fg_X8_7 ta0 ?_
  refine r_iload (place := 0) dX8_takes_123 rfl ?_
  refine r_iload_n (place := 3) dX8_takes_125 rfl rfl ?_
  refine r_iast dX8_takes_126 (xt_7_0 ta0) (fun h5 => ?_)
  refine r_aload_n (place := 1) dX8_takes_127 rfl rfl ?_
  refine r_getR dX8_takes_128 fg_X8_7 ta0 ?_
  refine r_iload (place := 0) dX8_takes_131 rfl ?_
  refine r_iconst dX8_takes_133 xc_1 ?_
  refine r_iadd dX8_takes_134 ?_
  refine r_iload (place := 5) dX8_takes_135 rfl ?_
  refine r_iast dX8_takes_137 (xt_7_0 ta0) (fun h6 => ?_)
  refine r_aload_n (place := 1) dX8_takes_138 rfl rfl ?_
  refine r_getR dX8_takes_139 fg_X8_7 ta0 ?_
  refine r_iload (place := 0) dX8_takes_142 rfl ?_
  refine r_iconst dX8_takes_144 xc_2 ?_
  refine r_iadd dX8_takes_145 ?_
  refine r_iload_n (place := 4) dX8_takes_146 rfl rfl ?_
  refine r_iast dX8_takes_147 (xt_7_0 ta0) (fun h7 => ?_)
  refine r_aload_n (place := 1) dX8_takes_148 rfl rfl ?_
  refine r_getR dX8_takes_149 fg_X8_7 ta0 ?_
  refine r_iload (place := 0) dX8_takes_152 rfl ?_
  refine r_iconst dX8_takes_154 xc_3 ?_
  refine r_iadd dX8_takes_155 ?_
  refine r_iload (place := 6) dX8_takes_156 rfl ?_
  refine r_iast dX8_takes_158 (xt_7_0 ta0) (fun h8 => ?_)
  refine r_aload_n (place := 1) dX8_takes_159 rfl rfl ?_
  refine r_getR dX8_takes_160 fg_X8_7 ta0 ?_
  refine r_iload_n (place := 2) dX8_takes_163 rfl rfl ?_
  refine r_bipush dX8_takes_164 xb_11 ?_
  refine r_callSI (rest := [.ref (G.1 (xrf a0 0))]) dX8_takes_166 m_X8_at lk_X8_115 (c_X8_at a1 (11 : Int32) h8) (by decide) rfl rfl (Nat.le_of_ble_eq_true rfl) (fun v10 h9 => ?_)
  refine r_dup2 dX8_takes_169 rfl rfl ?_
  refine r_iald dX8_takes_170 (xt_7_0 ta0) (fun v11 => ?_)
  refine r_iconst dX8_takes_171 xc_1 ?_
  refine r_iadd dX8_takes_172 ?_
  refine r_iast dX8_takes_173 (xt_7_0 ta0) (fun h12 => ?_)
  exact r_ret dX8_takes_174 rfl
def f_X8_takes_40  : Nat → Nat → Int32 → Int32 → Int32 → Int32 → Int32 → Int32 → Mem → Option (Unit × Mem)
  | 0, _, _, _, _, _, _, _, _ => none
  | n + 1, a0, a1, a2, a3, a4, a5, a6, h =>
    if (116 : Int32) ≤ a6 then
        b2 (f_X8_at a1 (11 : Int32) h) fun v2 h1 =>
        ald h1 (xrf a0 0) v2 fun v3 =>
        ast h1 (xrf a0 0) v2 (v3 - (1 : Int32)) fun h4 =>
        f_X8_takes_100 a0 a1 a2 a3 a4 a5 h4
    else
        b2 (f_X8_at a1 ((281 : Int32) + a6) h) fun v6 h5 =>
        b2 (f_X8_at a1 (((281 : Int32) + a6) + (4 : Int32)) h5) fun v8 h7 =>
        ald h7 (xrf a0 0) v8 fun v9 =>
        ast h7 (xrf a0 0) v6 v9 fun h10 =>
        (f_X8_takes_40 n) a0 a1 a2 a3 a4 a5 (a6 + (1 : Int32)) h10
set_option maxRecDepth 20000 in
theorem t_X8_takes_40 {G : xG}  : ∀ (n : Nat) (a0 : Nat) (a1 : Int32) (a2 : Int32) (a3 : Int32) (a4 : Int32) (a5 : Int32) (a6 : Int32) (ta0 : xTy a0 7) (h : Mem), Rn G 2 FX8_takes xcV 40 [(0, .ref (G.1 a0)), (1, .int a1), (2, .int a2), (3, .int a3), (4, .int a4), (5, .int a5), (6, .int a6)] [] h (f_X8_takes_40 n a0 a1 a2 a3 a4 a5 a6 h) := by
  intro n
  induction n with
  | zero => intros; intro r hr; cases hr
  | succ n ih =>
    intro a0 a1 a2 a3 a4 a5 a6 ta0 h
    unfold f_X8_takes_40
    refine r_iload (place := 6) dX8_takes_40 rfl ?_
    refine r_bipush dX8_takes_42 xb_116 ?_
    refine r_ic_ge (tgt := 85) dX8_takes_44 (by decide) ?_ ?_
    · refine r_aload_n (place := 0) dX8_takes_85 rfl rfl ?_
      refine r_getR dX8_takes_86 fg_X8_7 ta0 ?_
      refine r_iload_n (place := 1) dX8_takes_89 rfl rfl ?_
      refine r_bipush dX8_takes_90 xb_11 ?_
      refine r_callSI (rest := [.ref (G.1 (xrf a0 0))]) dX8_takes_92 m_X8_at lk_X8_115 (c_X8_at a1 (11 : Int32) h) (by decide) rfl rfl (Nat.le_of_ble_eq_true rfl) (fun v2 h1 => ?_)
      refine r_dup2 dX8_takes_95 rfl rfl ?_
      refine r_iald dX8_takes_96 (xt_7_0 ta0) (fun v3 => ?_)
      refine r_iconst dX8_takes_97 xc_1 ?_
      refine r_isub dX8_takes_98 ?_
      refine r_iast dX8_takes_99 (xt_7_0 ta0) (fun h4 => ?_)
      exact r_sub [0, 1, 2, 3, 4, 5] rfl (t_X8_takes_100 a0 a1 a2 a3 a4 a5 ta0 h4)
    · refine r_aload_n (place := 0) dX8_takes_47 rfl rfl ?_
      refine r_getR dX8_takes_48 fg_X8_7 ta0 ?_
      refine r_iload_n (place := 1) dX8_takes_51 rfl rfl ?_
      refine r_sipush dX8_takes_52 xs_281 ?_
      refine r_iload (place := 6) dX8_takes_55 rfl ?_
      refine r_iadd dX8_takes_57 ?_
      refine r_callSI (rest := [.ref (G.1 (xrf a0 0))]) dX8_takes_58 m_X8_at lk_X8_115 (c_X8_at a1 ((281 : Int32) + a6) h) (by decide) rfl rfl (Nat.le_of_ble_eq_true rfl) (fun v6 h5 => ?_)
      refine r_aload_n (place := 0) dX8_takes_61 rfl rfl ?_
      refine r_getR dX8_takes_62 fg_X8_7 ta0 ?_
      refine r_iload_n (place := 1) dX8_takes_65 rfl rfl ?_
      refine r_sipush dX8_takes_66 xs_281 ?_
      refine r_iload (place := 6) dX8_takes_69 rfl ?_
      refine r_iadd dX8_takes_71 ?_
      refine r_iconst dX8_takes_72 xc_4 ?_
      refine r_iadd dX8_takes_73 ?_
      refine r_callSI (rest := [.ref (G.1 (xrf a0 0)), .int v6, .ref (G.1 (xrf a0 0))]) dX8_takes_74 m_X8_at lk_X8_115 (c_X8_at a1 (((281 : Int32) + a6) + (4 : Int32)) h5) (by decide) rfl rfl (Nat.le_of_ble_eq_true rfl) (fun v8 h7 => ?_)
      refine r_iald dX8_takes_77 (xt_7_0 ta0) (fun v9 => ?_)
      refine r_iast dX8_takes_78 (xt_7_0 ta0) (fun h10 => ?_)
      refine r_iincC (place := 6) (ls' := [(6, .int (a6 + (1 : Int32))), (0, .ref (G.1 a0)), (1, .int a1), (2, .int a2), (3, .int a3), (4, .int a4), (5, .int a5)]) dX8_takes_79 rfl xc_1 (by decide) rfl ?_
      refine r_goto (tgt := 40) dX8_takes_82 (by decide) ?_
      exact r_sub [1, 2, 3, 4, 5, 6, 0] rfl (ih a0 a1 a2 a3 a4 a5 (a6 + (1 : Int32)) ta0 h10)
def f_X8_takes (a0 : Nat) (a1 : Int32) (a2 : Int32) (a3 : Int32) (a4 : Int32) (a5 : Int32) (h : Mem) : Option (Unit × Mem) :=
  ald h (xrf a0 0) (4 : Int32) fun v1 =>
  ast h (xrf a0 0) (4 : Int32) (v1 + (1 : Int32)) fun h2 =>
  b2 (f_X8_at a1 (10 : Int32) h2) fun v4 h3 =>
  ald h3 (xrf a0 0) v4 fun v5 =>
  ast h3 (xrf a0 0) v4 (v5 + (1 : Int32)) fun h6 =>
  b2 (f_X8_of a0 a1 (11 : Int32) h6) fun v8 h7 =>
  if v8 = (30 : Int32) then
      f_X8_takes_40 xFU a0 a1 a2 a3 a4 a5 (0 : Int32) h7
  else
      f_X8_takes_100 a0 a1 a2 a3 a4 a5 h7
set_option maxRecDepth 20000 in
theorem c_X8_takes {G : xG} (a0 : Nat) (ta0 : xTy a0 7) (a1 : Int32) (a2 : Int32) (a3 : Int32) (a4 : Int32) (a5 : Int32) (h : Mem) : Sm G 2 yX8_takes FX8_takes xcV [.ref (G.1 a0), .int a1, .int a2, .int a3, .int a4, .int a5] h (f_X8_takes a0 a1 a2 a3 a4 a5 h) := by
  refine Sm.of pn_X8 rfl (Nat.le_of_ble_eq_true rfl) (ls := [(0, .ref (G.1 a0)), (1, .int a1), (2, .int a2), (3, .int a3), (4, .int a4), (5, .int a5)]) rfl ?_
  unfold f_X8_takes
  refine r_aload_n (place := 0) dX8_takes_0 rfl rfl ?_
  refine r_getR dX8_takes_1 fg_X8_7 ta0 ?_
  refine r_iconst dX8_takes_4 xc_4 ?_
  refine r_dup2 dX8_takes_5 rfl rfl ?_
  refine r_iald dX8_takes_6 (xt_7_0 ta0) (fun v1 => ?_)
  refine r_iconst dX8_takes_7 xc_1 ?_
  refine r_iadd dX8_takes_8 ?_
  refine r_iast dX8_takes_9 (xt_7_0 ta0) (fun h2 => ?_)
  refine r_aload_n (place := 0) dX8_takes_10 rfl rfl ?_
  refine r_getR dX8_takes_11 fg_X8_7 ta0 ?_
  refine r_iload_n (place := 1) dX8_takes_14 rfl rfl ?_
  refine r_bipush dX8_takes_15 xb_10 ?_
  refine r_callSI (rest := [.ref (G.1 (xrf a0 0))]) dX8_takes_17 m_X8_at lk_X8_115 (c_X8_at a1 (10 : Int32) h2) (by decide) rfl rfl (Nat.le_of_ble_eq_true rfl) (fun v4 h3 => ?_)
  refine r_dup2 dX8_takes_20 rfl rfl ?_
  refine r_iald dX8_takes_21 (xt_7_0 ta0) (fun v5 => ?_)
  refine r_iconst dX8_takes_22 xc_1 ?_
  refine r_iadd dX8_takes_23 ?_
  refine r_iast dX8_takes_24 (xt_7_0 ta0) (fun h6 => ?_)
  refine r_aload_n (place := 0) dX8_takes_25 rfl rfl ?_
  refine r_iload_n (place := 1) dX8_takes_26 rfl rfl ?_
  refine r_bipush dX8_takes_27 xb_11 ?_
  refine r_callVI (rest := []) dX8_takes_29 m_X8_of lk_X8_166 rfl (by decide) ta0 (c_X8_of a0 ta0 a1 (11 : Int32) h6) (by decide) rfl rfl (Nat.le_of_ble_eq_true rfl) (fun v8 h7 => ?_)
  refine r_bipush dX8_takes_32 xb_30 ?_
  refine r_ic_ne (tgt := 100) dX8_takes_34 (by decide) ?_ ?_
  · exact r_sub [0, 1, 2, 3, 4, 5] rfl (t_X8_takes_100 a0 a1 a2 a3 a4 a5 ta0 h7)
  · refine r_iconst dX8_takes_37 xc_0 ?_
    refine r_istore (ls' := [(6, .int (0 : Int32)), (0, .ref (G.1 a0)), (1, .int a1), (2, .int a2), (3, .int a3), (4, .int a4), (5, .int a5)]) dX8_takes_38 (by decide) rfl ?_
    exact r_sub [1, 2, 3, 4, 5, 6, 0] rfl (t_X8_takes_40 xFU a0 a1 a2 a3 a4 a5 (0 : Int32) ta0 h7)
def f_X8_known (a0 : Nat) (a1 : Int32) (a2 : Int32) (h : Mem) : Option (Unit × Mem) :=
  b2 (f_X8_of a0 a1 (8 : Int32) h) fun v2 h1 =>
  b2 (f_X8_at a1 ((401 : Int32) + v2) h1) fun v4 h3 =>
  ast h3 (xrf a0 0) v4 a2 fun h5 =>
  b2 (f_X8_at a1 (8 : Int32) h5) fun v7 h6 =>
  ald h6 (xrf a0 0) v7 fun v8 =>
  ast h6 (xrf a0 0) v7 (v8 + (1 : Int32)) fun h9 =>
  some ((), h9)
set_option maxRecDepth 20000 in
theorem c_X8_known {G : xG} (a0 : Nat) (ta0 : xTy a0 7) (a1 : Int32) (a2 : Int32) (h : Mem) : Sm G 2 yX8_known FX8_known xcV [.ref (G.1 a0), .int a1, .int a2] h (f_X8_known a0 a1 a2 h) := by
  refine Sm.of pn_X8 rfl (Nat.le_of_ble_eq_true rfl) (ls := [(0, .ref (G.1 a0)), (1, .int a1), (2, .int a2)]) rfl ?_
  unfold f_X8_known
  refine r_aload_n (place := 0) dX8_known_0 rfl rfl ?_
  refine r_getR dX8_known_1 fg_X8_7 ta0 ?_
  refine r_iload_n (place := 1) dX8_known_4 rfl rfl ?_
  refine r_sipush dX8_known_5 xs_401 ?_
  refine r_aload_n (place := 0) dX8_known_8 rfl rfl ?_
  refine r_iload_n (place := 1) dX8_known_9 rfl rfl ?_
  refine r_bipush dX8_known_10 xb_8 ?_
  refine r_callVI (rest := [.int (401 : Int32), .int a1, .ref (G.1 (xrf a0 0))]) dX8_known_12 m_X8_of lk_X8_166 rfl (by decide) ta0 (c_X8_of a0 ta0 a1 (8 : Int32) h) (by decide) rfl rfl (Nat.le_of_ble_eq_true rfl) (fun v2 h1 => ?_)
  refine r_iadd dX8_known_15 ?_
  refine r_callSI (rest := [.ref (G.1 (xrf a0 0))]) dX8_known_16 m_X8_at lk_X8_115 (c_X8_at a1 ((401 : Int32) + v2) h1) (by decide) rfl rfl (Nat.le_of_ble_eq_true rfl) (fun v4 h3 => ?_)
  refine r_iload_n (place := 2) dX8_known_19 rfl rfl ?_
  refine r_iast dX8_known_20 (xt_7_0 ta0) (fun h5 => ?_)
  refine r_aload_n (place := 0) dX8_known_21 rfl rfl ?_
  refine r_getR dX8_known_22 fg_X8_7 ta0 ?_
  refine r_iload_n (place := 1) dX8_known_25 rfl rfl ?_
  refine r_bipush dX8_known_26 xb_8 ?_
  refine r_callSI (rest := [.ref (G.1 (xrf a0 0))]) dX8_known_28 m_X8_at lk_X8_115 (c_X8_at a1 (8 : Int32) h5) (by decide) rfl rfl (Nat.le_of_ble_eq_true rfl) (fun v7 h6 => ?_)
  refine r_dup2 dX8_known_31 rfl rfl ?_
  refine r_iald dX8_known_32 (xt_7_0 ta0) (fun v8 => ?_)
  refine r_iconst dX8_known_33 xc_1 ?_
  refine r_iadd dX8_known_34 ?_
  refine r_iast dX8_known_35 (xt_7_0 ta0) (fun h9 => ?_)
  exact r_ret dX8_known_36 rfl
def f_X8_unknown (a0 : Nat) (a1 : Int32) (a2 : Int32) (h : Mem) : Option (Unit × Mem) :=
  b2 (f_X8_knownOf a0 a1 a2 h) fun v2 h1 =>
  if v2 = (-4 : Int32) then
      some ((), h1)
  else
      b2 (f_X8_at a1 (8 : Int32) h1) fun v4 h3 =>
      ald h3 (xrf a0 0) v4 fun v5 =>
      ast h3 (xrf a0 0) v4 (v5 - (1 : Int32)) fun h6 =>
      b2 (f_X8_at a1 ((401 : Int32) + v2) h6) fun v8 h7 =>
      b2 (f_X8_of a0 a1 (8 : Int32) h7) fun v10 h9 =>
      b2 (f_X8_of a0 a1 ((401 : Int32) + v10) h9) fun v12 h11 =>
      ast h11 (xrf a0 0) v8 v12 fun h13 =>
      some ((), h13)
set_option maxRecDepth 20000 in
theorem c_X8_unknown {G : xG} (a0 : Nat) (ta0 : xTy a0 7) (a1 : Int32) (a2 : Int32) (h : Mem) : Sm G 3 yX8_unknown FX8_unknown xcV [.ref (G.1 a0), .int a1, .int a2] h (f_X8_unknown a0 a1 a2 h) := by
  refine Sm.of pn_X8 rfl (Nat.le_of_ble_eq_true rfl) (ls := [(0, .ref (G.1 a0)), (1, .int a1), (2, .int a2)]) rfl ?_
  unfold f_X8_unknown
  refine r_aload_n (place := 0) dX8_unknown_0 rfl rfl ?_
  refine r_iload_n (place := 1) dX8_unknown_1 rfl rfl ?_
  refine r_iload_n (place := 2) dX8_unknown_2 rfl rfl ?_
  refine r_callVI (rest := []) dX8_unknown_3 m_X8_knownOf lk_X8_286 rfl (by decide) ta0 (c_X8_knownOf a0 ta0 a1 a2 h) (by decide) rfl rfl (Nat.le_of_ble_eq_true rfl) (fun v2 h1 => ?_)
  refine r_istore_n (ls' := [(3, .int v2), (0, .ref (G.1 a0)), (1, .int a1), (2, .int a2)]) dX8_unknown_6 rfl (by decide) rfl ?_
  refine r_iload_n (place := 0) dX8_unknown_7 rfl rfl ?_
  refine r_bipush dX8_unknown_8 xb_m4 ?_
  refine r_ic_eq (tgt := 58) dX8_unknown_10 (by decide) ?_ ?_
  · exact r_ret dX8_unknown_58 rfl
  · refine r_aload_n (place := 1) dX8_unknown_13 rfl rfl ?_
    refine r_getR dX8_unknown_14 fg_X8_7 ta0 ?_
    refine r_iload_n (place := 2) dX8_unknown_17 rfl rfl ?_
    refine r_bipush dX8_unknown_18 xb_8 ?_
    refine r_callSI (rest := [.ref (G.1 (xrf a0 0))]) dX8_unknown_20 m_X8_at lk_X8_115 (c_X8_at a1 (8 : Int32) h1) (by decide) rfl rfl (Nat.le_of_ble_eq_true rfl) (fun v4 h3 => ?_)
    refine r_dup2 dX8_unknown_23 rfl rfl ?_
    refine r_iald dX8_unknown_24 (xt_7_0 ta0) (fun v5 => ?_)
    refine r_iconst dX8_unknown_25 xc_1 ?_
    refine r_isub dX8_unknown_26 ?_
    refine r_iast dX8_unknown_27 (xt_7_0 ta0) (fun h6 => ?_)
    refine r_aload_n (place := 1) dX8_unknown_28 rfl rfl ?_
    refine r_getR dX8_unknown_29 fg_X8_7 ta0 ?_
    refine r_iload_n (place := 2) dX8_unknown_32 rfl rfl ?_
    refine r_sipush dX8_unknown_33 xs_401 ?_
    refine r_iload_n (place := 0) dX8_unknown_36 rfl rfl ?_
    refine r_iadd dX8_unknown_37 ?_
    refine r_callSI (rest := [.ref (G.1 (xrf a0 0))]) dX8_unknown_38 m_X8_at lk_X8_115 (c_X8_at a1 ((401 : Int32) + v2) h6) (by decide) rfl rfl (Nat.le_of_ble_eq_true rfl) (fun v8 h7 => ?_)
    refine r_aload_n (place := 1) dX8_unknown_41 rfl rfl ?_
    refine r_iload_n (place := 2) dX8_unknown_42 rfl rfl ?_
    refine r_sipush dX8_unknown_43 xs_401 ?_
    refine r_aload_n (place := 1) dX8_unknown_46 rfl rfl ?_
    refine r_iload_n (place := 2) dX8_unknown_47 rfl rfl ?_
    refine r_bipush dX8_unknown_48 xb_8 ?_
    refine r_callVI (rest := [.int (401 : Int32), .int a1, .ref (G.1 a0), .int v8, .ref (G.1 (xrf a0 0))]) dX8_unknown_50 m_X8_of lk_X8_166 rfl (by decide) ta0 (c_X8_of a0 ta0 a1 (8 : Int32) h7) (by decide) rfl rfl (Nat.le_of_ble_eq_true rfl) (fun v10 h9 => ?_)
    refine r_iadd dX8_unknown_53 ?_
    refine r_callVI (rest := [.int v8, .ref (G.1 (xrf a0 0))]) dX8_unknown_54 m_X8_of lk_X8_166 rfl (by decide) ta0 (c_X8_of a0 ta0 a1 ((401 : Int32) + v10) h9) (by decide) rfl rfl (Nat.le_of_ble_eq_true rfl) (fun v12 h11 => ?_)
    refine r_iast dX8_unknown_57 (xt_7_0 ta0) (fun h13 => ?_)
    exact r_ret dX8_unknown_58 rfl
def f_X8_carriedDown_86  (a0 : Nat) (a1 : Int32) (a3 : Int32) (h : Mem) : Option (Unit × Mem) :=
  b2 (f_X8_packetUp a0 a1 (2 : Int32) a3 h) fun _ h1 =>
  some ((), h1)
set_option maxRecDepth 20000 in
theorem t_X8_carriedDown_86 {G : xG}  (a0 : Nat) (a1 : Int32) (a3 : Int32) (ta0 : xTy a0 7) (h : Mem) : Rn G 4 FX8_carriedDown xcV 86 [(0, .ref (G.1 a0)), (1, .int a1), (3, .int a3)] [] h (f_X8_carriedDown_86 a0 a1 a3 h) := by
  unfold f_X8_carriedDown_86
  refine r_aload_n (place := 0) dX8_carriedDown_86 rfl rfl ?_
  refine r_iload_n (place := 1) dX8_carriedDown_87 rfl rfl ?_
  refine r_iconst dX8_carriedDown_88 xc_2 ?_
  refine r_iload_n (place := 2) dX8_carriedDown_89 rfl rfl ?_
  refine r_callVV (rest := []) dX8_carriedDown_90 m_X8_packetUp lk_X8_292 rfl (by decide) ta0 (c_X8_packetUp a0 ta0 a1 (2 : Int32) a3 h) (by decide) rfl rfl (Nat.le_of_ble_eq_true rfl) (fun h1 => ?_)
  exact r_ret dX8_carriedDown_93 rfl
def f_X8_carriedDown (a0 : Nat) (a1 : Int32) (a2 : Int32) (a3 : Int32) (a4 : Int32) (a5 : Int32) (a6 : Int32) (a7 : Int32) (h : Mem) : Option (Unit × Mem) :=
  if a2 = (3 : Int32) then
      b2 (f_X8_unknown a0 a1 a3 h) fun _ h7 =>
      b2 (f_X8_packetUp a0 a1 (4 : Int32) a3 h7) fun _ h8 =>
      some ((), h8)
  else
      if (2 : Int32) ≤ a5 then
          b2 (f_X8_knownOf a0 a1 a3 h) fun v2 h1 =>
          if v2 = (-4 : Int32) then
              b2 (f_X8_takes a0 a1 a4 a5 a6 a7 h1) fun _ h3 =>
              b2 (f_X8_known a0 a1 a3 h3) fun _ h4 =>
              f_X8_carriedDown_86 a0 a1 a3 h4
          else
              f_X8_carriedDown_86 a0 a1 a3 h1
      else
          b2 (f_X8_takes a0 a1 a4 a5 a6 a7 h) fun _ h5 =>
          if a5 = (1 : Int32) then
              b2 (f_X8_packetUp a0 a1 (1 : Int32) a3 h5) fun _ h6 =>
              some ((), h6)
          else
              some ((), h5)
set_option maxRecDepth 20000 in
theorem c_X8_carriedDown {G : xG} (a0 : Nat) (ta0 : xTy a0 7) (a1 : Int32) (a2 : Int32) (a3 : Int32) (a4 : Int32) (a5 : Int32) (a6 : Int32) (a7 : Int32) (h : Mem) : Sm G 4 yX8_carriedDown FX8_carriedDown xcV [.ref (G.1 a0), .int a1, .int a2, .int a3, .int a4, .int a5, .int a6, .int a7] h (f_X8_carriedDown a0 a1 a2 a3 a4 a5 a6 a7 h) := by
  refine Sm.of pn_X8 rfl (Nat.le_of_ble_eq_true rfl) (ls := [(0, .ref (G.1 a0)), (1, .int a1), (2, .int a2), (3, .int a3), (4, .int a4), (5, .int a5), (6, .int a6), (7, .int a7)]) rfl ?_
  unfold f_X8_carriedDown
  refine r_iload_n (place := 2) dX8_carriedDown_0 rfl rfl ?_
  refine r_iconst dX8_carriedDown_1 xc_3 ?_
  refine r_ic_ne (tgt := 21) dX8_carriedDown_2 (by decide) ?_ ?_
  · refine r_iload (place := 5) dX8_carriedDown_21 rfl ?_
    refine r_iconst dX8_carriedDown_23 xc_2 ?_
    refine r_ic_ge (tgt := 56) dX8_carriedDown_24 (by decide) ?_ ?_
    · refine r_aload_n (place := 0) dX8_carriedDown_56 rfl rfl ?_
      refine r_iload_n (place := 1) dX8_carriedDown_57 rfl rfl ?_
      refine r_iload_n (place := 3) dX8_carriedDown_58 rfl rfl ?_
      refine r_callVI (rest := []) dX8_carriedDown_59 m_X8_knownOf lk_X8_286 rfl (by decide) ta0 (c_X8_knownOf a0 ta0 a1 a3 h) (by decide) rfl rfl (Nat.le_of_ble_eq_true rfl) (fun v2 h1 => ?_)
      refine r_bipush dX8_carriedDown_62 xb_m4 ?_
      refine r_ic_ne (tgt := 86) dX8_carriedDown_64 (by decide) ?_ ?_
      · exact r_sub [0, 1, 3] rfl (t_X8_carriedDown_86 a0 a1 a3 ta0 h1)
      · refine r_aload_n (place := 0) dX8_carriedDown_67 rfl rfl ?_
        refine r_iload_n (place := 1) dX8_carriedDown_68 rfl rfl ?_
        refine r_iload (place := 4) dX8_carriedDown_69 rfl ?_
        refine r_iload (place := 5) dX8_carriedDown_71 rfl ?_
        refine r_iload (place := 6) dX8_carriedDown_73 rfl ?_
        refine r_iload (place := 7) dX8_carriedDown_75 rfl ?_
        refine r_callVV (rest := []) dX8_carriedDown_77 m_X8_takes lk_X8_295 rfl (by decide) ta0 (c_X8_takes a0 ta0 a1 a4 a5 a6 a7 h1) (by decide) rfl rfl (Nat.le_of_ble_eq_true rfl) (fun h3 => ?_)
        refine r_aload_n (place := 0) dX8_carriedDown_80 rfl rfl ?_
        refine r_iload_n (place := 1) dX8_carriedDown_81 rfl rfl ?_
        refine r_iload_n (place := 3) dX8_carriedDown_82 rfl rfl ?_
        refine r_callVV (rest := []) dX8_carriedDown_83 m_X8_known lk_X8_298 rfl (by decide) ta0 (c_X8_known a0 ta0 a1 a3 h3) (by decide) rfl rfl (Nat.le_of_ble_eq_true rfl) (fun h4 => ?_)
        exact r_sub [0, 1, 3] rfl (t_X8_carriedDown_86 a0 a1 a3 ta0 h4)
    · refine r_aload_n (place := 0) dX8_carriedDown_27 rfl rfl ?_
      refine r_iload_n (place := 1) dX8_carriedDown_28 rfl rfl ?_
      refine r_iload (place := 4) dX8_carriedDown_29 rfl ?_
      refine r_iload (place := 5) dX8_carriedDown_31 rfl ?_
      refine r_iload (place := 6) dX8_carriedDown_33 rfl ?_
      refine r_iload (place := 7) dX8_carriedDown_35 rfl ?_
      refine r_callVV (rest := []) dX8_carriedDown_37 m_X8_takes lk_X8_295 rfl (by decide) ta0 (c_X8_takes a0 ta0 a1 a4 a5 a6 a7 h) (by decide) rfl rfl (Nat.le_of_ble_eq_true rfl) (fun h5 => ?_)
      refine r_iload (place := 5) dX8_carriedDown_40 rfl ?_
      refine r_iconst dX8_carriedDown_42 xc_1 ?_
      refine r_ic_ne (tgt := 93) dX8_carriedDown_43 (by decide) ?_ ?_
      · exact r_ret dX8_carriedDown_93 rfl
      · refine r_aload_n (place := 0) dX8_carriedDown_46 rfl rfl ?_
        refine r_iload_n (place := 1) dX8_carriedDown_47 rfl rfl ?_
        refine r_iconst dX8_carriedDown_48 xc_1 ?_
        refine r_iload_n (place := 3) dX8_carriedDown_49 rfl rfl ?_
        refine r_callVV (rest := []) dX8_carriedDown_50 m_X8_packetUp lk_X8_292 rfl (by decide) ta0 (c_X8_packetUp a0 ta0 a1 (1 : Int32) a3 h5) (by decide) rfl rfl (Nat.le_of_ble_eq_true rfl) (fun h6 => ?_)
        refine r_goto (tgt := 93) dX8_carriedDown_53 (by decide) ?_
        exact r_ret dX8_carriedDown_93 rfl
  · refine r_aload_n (place := 0) dX8_carriedDown_5 rfl rfl ?_
    refine r_iload_n (place := 1) dX8_carriedDown_6 rfl rfl ?_
    refine r_iload_n (place := 3) dX8_carriedDown_7 rfl rfl ?_
    refine r_callVV (rest := []) dX8_carriedDown_8 m_X8_unknown lk_X8_289 rfl (by decide) ta0 (c_X8_unknown a0 ta0 a1 a3 h) (by decide) rfl rfl (Nat.le_of_ble_eq_true rfl) (fun h7 => ?_)
    refine r_aload_n (place := 0) dX8_carriedDown_11 rfl rfl ?_
    refine r_iload_n (place := 1) dX8_carriedDown_12 rfl rfl ?_
    refine r_iconst dX8_carriedDown_13 xc_4 ?_
    refine r_iload_n (place := 3) dX8_carriedDown_14 rfl rfl ?_
    refine r_callVV (rest := []) dX8_carriedDown_15 m_X8_packetUp lk_X8_292 rfl (by decide) ta0 (c_X8_packetUp a0 ta0 a1 (4 : Int32) a3 h7) (by decide) rfl rfl (Nat.le_of_ble_eq_true rfl) (fun h8 => ?_)
    refine r_goto (tgt := 93) dX8_carriedDown_18 (by decide) ?_
    exact r_ret dX8_carriedDown_93 rfl
def f_X8_flightOf_55 (kk3 : Nat → Int32 → Int32 → Int32 → Int32 → Mem → Option (Int32 × Mem)) (a0 : Nat) (a1 : Int32) (a2 : Int32) (a3 : Int32) (a4 : Int32) (h : Mem) : Option (Int32 × Mem) :=
  kk3 a0 a1 a2 a3 (a4 + (1 : Int32)) h
set_option maxRecDepth 20000 in
theorem t_X8_flightOf_55 {G : xG} (kk3 : Nat → Int32 → Int32 → Int32 → Int32 → Mem → Option (Int32 × Mem)) (hk3 : ∀ (a0 : Nat) (a1 : Int32) (a2 : Int32) (a3 : Int32) (a4 : Int32) (ta0 : xTy a0 7) (h : Mem), Rn G 2 FX8_flightOf xcI 3 [(0, .ref (G.1 a0)), (1, .int a1), (2, .int a2), (3, .int a3), (4, .int a4)] [] h (kk3 a0 a1 a2 a3 a4 h)) (a0 : Nat) (a1 : Int32) (a2 : Int32) (a3 : Int32) (a4 : Int32) (ta0 : xTy a0 7) (h : Mem) : Rn G 2 FX8_flightOf xcI 55 [(0, .ref (G.1 a0)), (1, .int a1), (2, .int a2), (3, .int a3), (4, .int a4)] [] h (f_X8_flightOf_55 kk3 a0 a1 a2 a3 a4 h) := by
  unfold f_X8_flightOf_55
  refine r_iincC (place := 4) (ls' := [(4, .int (a4 + (1 : Int32))), (0, .ref (G.1 a0)), (1, .int a1), (2, .int a2), (3, .int a3)]) dX8_flightOf_55 rfl xc_1 (by decide) rfl ?_
  refine r_goto (tgt := 3) dX8_flightOf_58 (by decide) ?_
  exact r_sub [1, 2, 3, 4, 0] rfl (hk3 a0 a1 a2 a3 (a4 + (1 : Int32)) ta0 h)
def f_X8_flightOf_3  : Nat → Nat → Int32 → Int32 → Int32 → Int32 → Mem → Option (Int32 × Mem)
  | 0, _, _, _, _, _, _ => none
  | n + 1, a0, a1, a2, a3, a4, h =>
    b2 (f_X8_of a0 a1 (4 : Int32) h) fun v2 h1 =>
    if v2 ≤ a4 then
        some ((-4 : Int32), h1)
    else
        b2 (f_X8_at a1 ((81 : Int32) + ((6 : Int32) * a4)) h1) fun v4 h3 =>
        ald h3 (xrf a0 0) v4 fun v5 =>
        if v5 = a2 then
            ald h3 (xrf a0 0) (v4 + (2 : Int32)) fun v6 =>
            if v6 = a3 then
                some (a4, h3)
            else
                f_X8_flightOf_55 (f_X8_flightOf_3 n) a0 a1 a2 a3 a4 h3
        else
            f_X8_flightOf_55 (f_X8_flightOf_3 n) a0 a1 a2 a3 a4 h3
set_option maxRecDepth 20000 in
theorem t_X8_flightOf_3 {G : xG}  : ∀ (n : Nat) (a0 : Nat) (a1 : Int32) (a2 : Int32) (a3 : Int32) (a4 : Int32) (ta0 : xTy a0 7) (h : Mem), Rn G 2 FX8_flightOf xcI 3 [(0, .ref (G.1 a0)), (1, .int a1), (2, .int a2), (3, .int a3), (4, .int a4)] [] h (f_X8_flightOf_3 n a0 a1 a2 a3 a4 h) := by
  intro n
  induction n with
  | zero => intros; intro r hr; cases hr
  | succ n ih =>
    intro a0 a1 a2 a3 a4 ta0 h
    unfold f_X8_flightOf_3
    refine r_iload (place := 4) dX8_flightOf_3 rfl ?_
    refine r_aload_n (place := 0) dX8_flightOf_5 rfl rfl ?_
    refine r_iload_n (place := 1) dX8_flightOf_6 rfl rfl ?_
    refine r_iconst dX8_flightOf_7 xc_4 ?_
    refine r_callVI (rest := [.int a4]) dX8_flightOf_8 m_X8_of lk_X8_166 rfl (by decide) ta0 (c_X8_of a0 ta0 a1 (4 : Int32) h) (by decide) rfl rfl (Nat.le_of_ble_eq_true rfl) (fun v2 h1 => ?_)
    refine r_ic_ge (tgt := 61) dX8_flightOf_11 (by decide) ?_ ?_
    · refine r_bipush dX8_flightOf_61 xb_m4 ?_
      exact r_iret dX8_flightOf_63 rfl
    · refine r_iload_n (place := 1) dX8_flightOf_14 rfl rfl ?_
      refine r_bipush dX8_flightOf_15 xb_81 ?_
      refine r_bipush dX8_flightOf_17 xb_6 ?_
      refine r_iload (place := 4) dX8_flightOf_19 rfl ?_
      refine r_imul dX8_flightOf_21 ?_
      refine r_iadd dX8_flightOf_22 ?_
      refine r_callSI (rest := []) dX8_flightOf_23 m_X8_at lk_X8_115 (c_X8_at a1 ((81 : Int32) + ((6 : Int32) * a4)) h1) (by decide) rfl rfl (Nat.le_of_ble_eq_true rfl) (fun v4 h3 => ?_)
      refine r_istore (ls' := [(5, .int v4), (0, .ref (G.1 a0)), (1, .int a1), (2, .int a2), (3, .int a3), (4, .int a4)]) dX8_flightOf_26 (by decide) rfl ?_
      refine r_aload_n (place := 1) dX8_flightOf_28 rfl rfl ?_
      refine r_getR dX8_flightOf_29 fg_X8_7 ta0 ?_
      refine r_iload (place := 0) dX8_flightOf_32 rfl ?_
      refine r_iald dX8_flightOf_34 (xt_7_0 ta0) (fun v5 => ?_)
      refine r_iload_n (place := 3) dX8_flightOf_35 rfl rfl ?_
      refine r_ic_ne (tgt := 55) dX8_flightOf_36 (by decide) ?_ ?_
      · exact r_sub [1, 2, 3, 4, 5] rfl (t_X8_flightOf_55 (f_X8_flightOf_3 n) ih a0 a1 a2 a3 a4 ta0 h3)
      · refine r_aload_n (place := 1) dX8_flightOf_39 rfl rfl ?_
        refine r_getR dX8_flightOf_40 fg_X8_7 ta0 ?_
        refine r_iload (place := 0) dX8_flightOf_43 rfl ?_
        refine r_iconst dX8_flightOf_45 xc_2 ?_
        refine r_iadd dX8_flightOf_46 ?_
        refine r_iald dX8_flightOf_47 (xt_7_0 ta0) (fun v6 => ?_)
        refine r_iload_n (place := 4) dX8_flightOf_48 rfl rfl ?_
        refine r_ic_ne (tgt := 55) dX8_flightOf_49 (by decide) ?_ ?_
        · exact r_sub [1, 2, 3, 4, 5] rfl (t_X8_flightOf_55 (f_X8_flightOf_3 n) ih a0 a1 a2 a3 a4 ta0 h3)
        · refine r_iload (place := 5) dX8_flightOf_52 rfl ?_
          exact r_iret dX8_flightOf_54 rfl
def f_X8_flightOf (a0 : Nat) (a1 : Int32) (a2 : Int32) (a3 : Int32) (h : Mem) : Option (Int32 × Mem) :=
  f_X8_flightOf_3 xFU a0 a1 a2 a3 (0 : Int32) h
set_option maxRecDepth 20000 in
theorem c_X8_flightOf {G : xG} (a0 : Nat) (ta0 : xTy a0 7) (a1 : Int32) (a2 : Int32) (a3 : Int32) (h : Mem) : Sm G 2 yX8_flightOf FX8_flightOf xcI [.ref (G.1 a0), .int a1, .int a2, .int a3] h (f_X8_flightOf a0 a1 a2 a3 h) := by
  refine Sm.of pn_X8 rfl (Nat.le_of_ble_eq_true rfl) (ls := [(0, .ref (G.1 a0)), (1, .int a1), (2, .int a2), (3, .int a3)]) rfl ?_
  unfold f_X8_flightOf
  refine r_iconst dX8_flightOf_0 xc_0 ?_
  refine r_istore (ls' := [(4, .int (0 : Int32)), (0, .ref (G.1 a0)), (1, .int a1), (2, .int a2), (3, .int a3)]) dX8_flightOf_1 (by decide) rfl ?_
  exact r_sub [1, 2, 3, 4, 0] rfl (t_X8_flightOf_3 xFU a0 a1 a2 a3 (0 : Int32) ta0 h)
def f_X8_off_29  : Nat → Nat → Int32 → Int32 → Mem → Option (Unit × Mem)
  | 0, _, _, _, _ => none
  | n + 1, a0, a1, a3, h =>
    b2 (f_X8_of a0 a1 (4 : Int32) h) fun v2 h1 =>
    if ((6 : Int32) * v2) ≤ a3 then
        b2 (f_X8_queueGoesOn a0 a1 h1) fun _ h3 =>
        some ((), h3)
    else
        b2 (f_X8_at a1 ((81 : Int32) + a3) h1) fun v5 h4 =>
        b2 (f_X8_at a1 (((81 : Int32) + a3) + (6 : Int32)) h4) fun v7 h6 =>
        ald h6 (xrf a0 0) v7 fun v8 =>
        ast h6 (xrf a0 0) v5 v8 fun h9 =>
        (f_X8_off_29 n) a0 a1 (a3 + (1 : Int32)) h9
set_option maxRecDepth 20000 in
theorem t_X8_off_29 {G : xG}  : ∀ (n : Nat) (a0 : Nat) (a1 : Int32) (a3 : Int32) (ta0 : xTy a0 7) (h : Mem), Rn G 6 FX8_off xcV 29 [(0, .ref (G.1 a0)), (1, .int a1), (3, .int a3)] [] h (f_X8_off_29 n a0 a1 a3 h) := by
  intro n
  induction n with
  | zero => intros; intro r hr; cases hr
  | succ n ih =>
    intro a0 a1 a3 ta0 h
    unfold f_X8_off_29
    refine r_iload_n (place := 2) dX8_off_29 rfl rfl ?_
    refine r_bipush dX8_off_30 xb_6 ?_
    refine r_aload_n (place := 0) dX8_off_32 rfl rfl ?_
    refine r_iload_n (place := 1) dX8_off_33 rfl rfl ?_
    refine r_iconst dX8_off_34 xc_4 ?_
    refine r_callVI (rest := [.int (6 : Int32), .int a3]) dX8_off_35 m_X8_of lk_X8_166 rfl (by decide) ta0 (c_X8_of a0 ta0 a1 (4 : Int32) h) (by decide) rfl rfl (Nat.le_of_ble_eq_true rfl) (fun v2 h1 => ?_)
    refine r_imul dX8_off_38 ?_
    refine r_ic_ge (tgt := 77) dX8_off_39 (by decide) ?_ ?_
    · refine r_aload_n (place := 0) dX8_off_77 rfl rfl ?_
      refine r_iload_n (place := 1) dX8_off_78 rfl rfl ?_
      refine r_callVV (rest := []) dX8_off_79 m_X8_queueGoesOn lk_X8_257 rfl (by decide) ta0 (c_X8_queueGoesOn a0 ta0 a1 h1) (by decide) rfl rfl (Nat.le_of_ble_eq_true rfl) (fun h3 => ?_)
      exact r_ret dX8_off_82 rfl
    · refine r_aload_n (place := 0) dX8_off_42 rfl rfl ?_
      refine r_getR dX8_off_43 fg_X8_7 ta0 ?_
      refine r_iload_n (place := 1) dX8_off_46 rfl rfl ?_
      refine r_bipush dX8_off_47 xb_81 ?_
      refine r_iload_n (place := 2) dX8_off_49 rfl rfl ?_
      refine r_iadd dX8_off_50 ?_
      refine r_callSI (rest := [.ref (G.1 (xrf a0 0))]) dX8_off_51 m_X8_at lk_X8_115 (c_X8_at a1 ((81 : Int32) + a3) h1) (by decide) rfl rfl (Nat.le_of_ble_eq_true rfl) (fun v5 h4 => ?_)
      refine r_aload_n (place := 0) dX8_off_54 rfl rfl ?_
      refine r_getR dX8_off_55 fg_X8_7 ta0 ?_
      refine r_iload_n (place := 1) dX8_off_58 rfl rfl ?_
      refine r_bipush dX8_off_59 xb_81 ?_
      refine r_iload_n (place := 2) dX8_off_61 rfl rfl ?_
      refine r_iadd dX8_off_62 ?_
      refine r_bipush dX8_off_63 xb_6 ?_
      refine r_iadd dX8_off_65 ?_
      refine r_callSI (rest := [.ref (G.1 (xrf a0 0)), .int v5, .ref (G.1 (xrf a0 0))]) dX8_off_66 m_X8_at lk_X8_115 (c_X8_at a1 (((81 : Int32) + a3) + (6 : Int32)) h4) (by decide) rfl rfl (Nat.le_of_ble_eq_true rfl) (fun v7 h6 => ?_)
      refine r_iald dX8_off_69 (xt_7_0 ta0) (fun v8 => ?_)
      refine r_iast dX8_off_70 (xt_7_0 ta0) (fun h9 => ?_)
      refine r_iincC (place := 2) (ls' := [(3, .int (a3 + (1 : Int32))), (0, .ref (G.1 a0)), (1, .int a1)]) dX8_off_71 rfl xc_1 (by decide) rfl ?_
      refine r_goto (tgt := 29) dX8_off_74 (by decide) ?_
      exact r_sub [1, 2, 0] rfl (ih a0 a1 (a3 + (1 : Int32)) ta0 h9)
def f_X8_off (a0 : Nat) (a1 : Int32) (a2 : Int32) (h : Mem) : Option (Unit × Mem) :=
  ald h (xrf a0 0) (5 : Int32) fun v1 =>
  ast h (xrf a0 0) (5 : Int32) (v1 + (1 : Int32)) fun h2 =>
  b2 (f_X8_at a1 (4 : Int32) h2) fun v4 h3 =>
  ald h3 (xrf a0 0) v4 fun v5 =>
  ast h3 (xrf a0 0) v4 (v5 - (1 : Int32)) fun h6 =>
  f_X8_off_29 xFU a0 a1 ((6 : Int32) * a2) h6
set_option maxRecDepth 20000 in
theorem c_X8_off {G : xG} (a0 : Nat) (ta0 : xTy a0 7) (a1 : Int32) (a2 : Int32) (h : Mem) : Sm G 6 yX8_off FX8_off xcV [.ref (G.1 a0), .int a1, .int a2] h (f_X8_off a0 a1 a2 h) := by
  refine Sm.of pn_X8 rfl (Nat.le_of_ble_eq_true rfl) (ls := [(0, .ref (G.1 a0)), (1, .int a1), (2, .int a2)]) rfl ?_
  unfold f_X8_off
  refine r_aload_n (place := 0) dX8_off_0 rfl rfl ?_
  refine r_getR dX8_off_1 fg_X8_7 ta0 ?_
  refine r_iconst dX8_off_4 xc_5 ?_
  refine r_dup2 dX8_off_5 rfl rfl ?_
  refine r_iald dX8_off_6 (xt_7_0 ta0) (fun v1 => ?_)
  refine r_iconst dX8_off_7 xc_1 ?_
  refine r_iadd dX8_off_8 ?_
  refine r_iast dX8_off_9 (xt_7_0 ta0) (fun h2 => ?_)
  refine r_aload_n (place := 0) dX8_off_10 rfl rfl ?_
  refine r_getR dX8_off_11 fg_X8_7 ta0 ?_
  refine r_iload_n (place := 1) dX8_off_14 rfl rfl ?_
  refine r_iconst dX8_off_15 xc_4 ?_
  refine r_callSI (rest := [.ref (G.1 (xrf a0 0))]) dX8_off_16 m_X8_at lk_X8_115 (c_X8_at a1 (4 : Int32) h2) (by decide) rfl rfl (Nat.le_of_ble_eq_true rfl) (fun v4 h3 => ?_)
  refine r_dup2 dX8_off_19 rfl rfl ?_
  refine r_iald dX8_off_20 (xt_7_0 ta0) (fun v5 => ?_)
  refine r_iconst dX8_off_21 xc_1 ?_
  refine r_isub dX8_off_22 ?_
  refine r_iast dX8_off_23 (xt_7_0 ta0) (fun h6 => ?_)
  refine r_bipush dX8_off_24 xb_6 ?_
  refine r_iload_n (place := 2) dX8_off_26 rfl rfl ?_
  refine r_imul dX8_off_27 ?_
  refine r_istore_n (ls' := [(3, .int ((6 : Int32) * a2)), (0, .ref (G.1 a0)), (1, .int a1), (2, .int a2)]) dX8_off_28 rfl (by decide) rfl ?_
  exact r_sub [1, 2, 0] rfl (t_X8_off_29 xFU a0 a1 ((6 : Int32) * a2) ta0 h6)
def f_X8_carriedUp_104  (a0 : Nat) (a1 : Int32) (a4 : Int32) (h : Mem) : Option (Unit × Mem) :=
  b2 (f_X8_off a0 a1 a4 h) fun _ h1 =>
  some ((), h1)
set_option maxRecDepth 20000 in
theorem t_X8_carriedUp_104 {G : xG}  (a0 : Nat) (a1 : Int32) (a4 : Int32) (ta0 : xTy a0 7) (h : Mem) : Rn G 7 FX8_carriedUp xcV 104 [(0, .ref (G.1 a0)), (1, .int a1), (4, .int a4)] [] h (f_X8_carriedUp_104 a0 a1 a4 h) := by
  unfold f_X8_carriedUp_104
  refine r_aload_n (place := 0) dX8_carriedUp_104 rfl rfl ?_
  refine r_iload_n (place := 1) dX8_carriedUp_105 rfl rfl ?_
  refine r_iload (place := 2) dX8_carriedUp_106 rfl ?_
  refine r_callVV (rest := []) dX8_carriedUp_108 m_X8_off lk_X8_304 rfl (by decide) ta0 (c_X8_off a0 ta0 a1 a4 h) (by decide) rfl rfl (Nat.le_of_ble_eq_true rfl) (fun h1 => ?_)
  exact r_ret dX8_carriedUp_111 rfl
def f_X8_carriedUp_50  (a0 : Nat) (a1 : Int32) (a2 : Int32) (a3 : Int32) (a4 : Int32) (s0 : Int32) (h : Mem) : Option (Unit × Mem) :=
  if a2 = (2 : Int32) then
      b2 (f_X8_at a1 (((81 : Int32) + ((6 : Int32) * a4)) + (5 : Int32)) h) fun v2 h1 =>
      ast h1 (xrf a0 0) v2 (1 : Int32) fun h3 =>
      b2 (f_X8_packetDown a0 a1 (3 : Int32) a3 (-4 : Int32) (-4 : Int32) (-4 : Int32) (0 : Int32) h3) fun _ h4 =>
      some ((), h4)
  else
      if a2 = (1 : Int32) then
          f_X8_carriedUp_104 a0 a1 a4 h
      else
          if s0 = 0 then
              some ((), h)
          else
              f_X8_carriedUp_104 a0 a1 a4 h
set_option maxRecDepth 20000 in
theorem t_X8_carriedUp_50 {G : xG}  (a0 : Nat) (a1 : Int32) (a2 : Int32) (a3 : Int32) (a4 : Int32) (s0 : Int32) (ta0 : xTy a0 7) (h : Mem) : Rn G 7 FX8_carriedUp xcV 50 [(0, .ref (G.1 a0)), (1, .int a1), (2, .int a2), (3, .int a3), (4, .int a4)] [.int s0] h (f_X8_carriedUp_50 a0 a1 a2 a3 a4 s0 h) := by
  unfold f_X8_carriedUp_50
  refine r_istore (ls' := [(5, .int s0), (0, .ref (G.1 a0)), (1, .int a1), (2, .int a2), (3, .int a3), (4, .int a4)]) dX8_carriedUp_50 (by decide) rfl ?_
  refine r_iload_n (place := 3) dX8_carriedUp_52 rfl rfl ?_
  refine r_iconst dX8_carriedUp_53 xc_2 ?_
  refine r_ic_ne (tgt := 94) dX8_carriedUp_54 (by decide) ?_ ?_
  · refine r_iload_n (place := 3) dX8_carriedUp_94 rfl rfl ?_
    refine r_iconst dX8_carriedUp_95 xc_1 ?_
    refine r_ic_eq (tgt := 104) dX8_carriedUp_96 (by decide) ?_ ?_
    · exact r_sub [1, 2, 5] rfl (t_X8_carriedUp_104 a0 a1 a4 ta0 h)
    · refine r_iload (place := 0) dX8_carriedUp_99 rfl ?_
      refine r_if_eq (tgt := 111) dX8_carriedUp_101 (by decide) ?_ ?_
      · exact r_ret dX8_carriedUp_111 rfl
      · exact r_sub [1, 2, 5] rfl (t_X8_carriedUp_104 a0 a1 a4 ta0 h)
  · refine r_aload_n (place := 1) dX8_carriedUp_57 rfl rfl ?_
    refine r_getR dX8_carriedUp_58 fg_X8_7 ta0 ?_
    refine r_iload_n (place := 2) dX8_carriedUp_61 rfl rfl ?_
    refine r_bipush dX8_carriedUp_62 xb_81 ?_
    refine r_bipush dX8_carriedUp_64 xb_6 ?_
    refine r_iload (place := 5) dX8_carriedUp_66 rfl ?_
    refine r_imul dX8_carriedUp_68 ?_
    refine r_iadd dX8_carriedUp_69 ?_
    refine r_iconst dX8_carriedUp_70 xc_5 ?_
    refine r_iadd dX8_carriedUp_71 ?_
    refine r_callSI (rest := [.ref (G.1 (xrf a0 0))]) dX8_carriedUp_72 m_X8_at lk_X8_115 (c_X8_at a1 (((81 : Int32) + ((6 : Int32) * a4)) + (5 : Int32)) h) (by decide) rfl rfl (Nat.le_of_ble_eq_true rfl) (fun v2 h1 => ?_)
    refine r_iconst dX8_carriedUp_75 xc_1 ?_
    refine r_iast dX8_carriedUp_76 (xt_7_0 ta0) (fun h3 => ?_)
    refine r_aload_n (place := 1) dX8_carriedUp_77 rfl rfl ?_
    refine r_iload_n (place := 2) dX8_carriedUp_78 rfl rfl ?_
    refine r_iconst dX8_carriedUp_79 xc_3 ?_
    refine r_iload_n (place := 4) dX8_carriedUp_80 rfl rfl ?_
    refine r_bipush dX8_carriedUp_81 xb_m4 ?_
    refine r_bipush dX8_carriedUp_83 xb_m4 ?_
    refine r_bipush dX8_carriedUp_85 xb_m4 ?_
    refine r_iconst dX8_carriedUp_87 xc_0 ?_
    refine r_callVV (rest := []) dX8_carriedUp_88 m_X8_packetDown lk_X8_169 rfl (by decide) ta0 (c_X8_packetDown a0 ta0 a1 (3 : Int32) a3 (-4 : Int32) (-4 : Int32) (-4 : Int32) (0 : Int32) h3) (by decide) rfl rfl (Nat.le_of_ble_eq_true rfl) (fun h4 => ?_)
    refine r_goto (tgt := 111) dX8_carriedUp_91 (by decide) ?_
    exact r_ret dX8_carriedUp_111 rfl
def f_X8_carriedUp_13  (a0 : Nat) (a1 : Int32) (a2 : Int32) (a3 : Int32) (s0 : Nat) (s1 : Int32) (s2 : Int32) (s3 : Int32) (h : Mem) : Option (Unit × Mem) :=
  b2 (f_X8_flightOf s0 s1 s2 s3 h) fun v2 h1 =>
  if v2 = (-4 : Int32) then
      some ((), h1)
  else
      b2 (f_X8_of a0 a1 (((81 : Int32) + ((6 : Int32) * v2)) + (5 : Int32)) h1) fun v4 h3 =>
      if v4 = (1 : Int32) then
          f_X8_carriedUp_50 a0 a1 a2 a3 v2 (1 : Int32) h3
      else
          f_X8_carriedUp_50 a0 a1 a2 a3 v2 (0 : Int32) h3
set_option maxRecDepth 20000 in
theorem t_X8_carriedUp_13 {G : xG}  (a0 : Nat) (a1 : Int32) (a2 : Int32) (a3 : Int32) (s0 : Nat) (s1 : Int32) (s2 : Int32) (s3 : Int32) (ta0 : xTy a0 7) (ts0 : xTy s0 7) (h : Mem) : Rn G 7 FX8_carriedUp xcV 13 [(0, .ref (G.1 a0)), (1, .int a1), (2, .int a2), (3, .int a3)] [.int s3, .int s2, .int s1, .ref (G.1 s0)] h (f_X8_carriedUp_13 a0 a1 a2 a3 s0 s1 s2 s3 h) := by
  unfold f_X8_carriedUp_13
  refine r_callVI (rest := []) dX8_carriedUp_13 m_X8_flightOf lk_X8_301 rfl (by decide) ts0 (c_X8_flightOf s0 ts0 s1 s2 s3 h) (by decide) rfl rfl (Nat.le_of_ble_eq_true rfl) (fun v2 h1 => ?_)
  refine r_istore (ls' := [(4, .int v2), (0, .ref (G.1 a0)), (1, .int a1), (2, .int a2), (3, .int a3)]) dX8_carriedUp_16 (by decide) rfl ?_
  refine r_iload (place := 0) dX8_carriedUp_18 rfl ?_
  refine r_bipush dX8_carriedUp_20 xb_m4 ?_
  refine r_ic_ne (tgt := 26) dX8_carriedUp_22 (by decide) ?_ ?_
  · refine r_aload_n (place := 1) dX8_carriedUp_26 rfl rfl ?_
    refine r_iload_n (place := 2) dX8_carriedUp_27 rfl rfl ?_
    refine r_bipush dX8_carriedUp_28 xb_81 ?_
    refine r_bipush dX8_carriedUp_30 xb_6 ?_
    refine r_iload (place := 0) dX8_carriedUp_32 rfl ?_
    refine r_imul dX8_carriedUp_34 ?_
    refine r_iadd dX8_carriedUp_35 ?_
    refine r_iconst dX8_carriedUp_36 xc_5 ?_
    refine r_iadd dX8_carriedUp_37 ?_
    refine r_callVI (rest := []) dX8_carriedUp_38 m_X8_of lk_X8_166 rfl (by decide) ta0 (c_X8_of a0 ta0 a1 (((81 : Int32) + ((6 : Int32) * v2)) + (5 : Int32)) h1) (by decide) rfl rfl (Nat.le_of_ble_eq_true rfl) (fun v4 h3 => ?_)
    refine r_iconst dX8_carriedUp_41 xc_1 ?_
    refine r_ic_ne (tgt := 49) dX8_carriedUp_42 (by decide) ?_ ?_
    · refine r_iconst dX8_carriedUp_49 xc_0 ?_
      exact r_sub [1, 2, 3, 4, 0] rfl (t_X8_carriedUp_50 a0 a1 a2 a3 v2 (0 : Int32) ta0 h3)
    · refine r_iconst dX8_carriedUp_45 xc_1 ?_
      refine r_goto (tgt := 50) dX8_carriedUp_46 (by decide) ?_
      exact r_sub [1, 2, 3, 4, 0] rfl (t_X8_carriedUp_50 a0 a1 a2 a3 v2 (1 : Int32) ta0 h3)
  · exact r_ret dX8_carriedUp_25 rfl
def f_X8_carriedUp (a0 : Nat) (a1 : Int32) (a2 : Int32) (a3 : Int32) (h : Mem) : Option (Unit × Mem) :=
  if a2 = (1 : Int32) then
      f_X8_carriedUp_13 a0 a1 a2 a3 a0 a1 a3 (1 : Int32) h
  else
      f_X8_carriedUp_13 a0 a1 a2 a3 a0 a1 a3 (2 : Int32) h
set_option maxRecDepth 20000 in
theorem c_X8_carriedUp {G : xG} (a0 : Nat) (ta0 : xTy a0 7) (a1 : Int32) (a2 : Int32) (a3 : Int32) (h : Mem) : Sm G 7 yX8_carriedUp FX8_carriedUp xcV [.ref (G.1 a0), .int a1, .int a2, .int a3] h (f_X8_carriedUp a0 a1 a2 a3 h) := by
  refine Sm.of pn_X8 rfl (Nat.le_of_ble_eq_true rfl) (ls := [(0, .ref (G.1 a0)), (1, .int a1), (2, .int a2), (3, .int a3)]) rfl ?_
  unfold f_X8_carriedUp
  refine r_aload_n (place := 0) dX8_carriedUp_0 rfl rfl ?_
  refine r_iload_n (place := 1) dX8_carriedUp_1 rfl rfl ?_
  refine r_iload_n (place := 3) dX8_carriedUp_2 rfl rfl ?_
  refine r_iload_n (place := 2) dX8_carriedUp_3 rfl rfl ?_
  refine r_iconst dX8_carriedUp_4 xc_1 ?_
  refine r_ic_ne (tgt := 12) dX8_carriedUp_5 (by decide) ?_ ?_
  · refine r_iconst dX8_carriedUp_12 xc_2 ?_
    exact r_sub [0, 1, 2, 3] rfl (t_X8_carriedUp_13 a0 a1 a2 a3 a0 a1 a3 (2 : Int32) ta0 ta0 h)
  · refine r_iconst dX8_carriedUp_8 xc_1 ?_
    refine r_goto (tgt := 13) dX8_carriedUp_9 (by decide) ?_
    exact r_sub [0, 1, 2, 3] rfl (t_X8_carriedUp_13 a0 a1 a2 a3 a0 a1 a3 (1 : Int32) ta0 ta0 h)
def f_X8_dropsFirst_56  : Nat → Nat → Int32 → Int32 → Int32 → Int32 → Int32 → Mem → Option (Unit × Mem)
  | 0, _, _, _, _, _, _, _ => none
  | n + 1, a0, a1, a3, a4, a5, a6, h =>
    b2 (f_X8_of a0 a1 a3 h) fun v2 h1 =>
    if (a4 * v2) ≤ a6 then
        some ((), h1)
    else
        b2 (f_X8_at a1 (a5 + a6) h1) fun v4 h3 =>
        b2 (f_X8_at a1 ((a5 + a6) + a4) h3) fun v6 h5 =>
        ald h5 (xrf a0 0) v6 fun v7 =>
        ast h5 (xrf a0 0) v4 v7 fun h8 =>
        (f_X8_dropsFirst_56 n) a0 a1 a3 a4 a5 (a6 + (1 : Int32)) h8
set_option maxRecDepth 20000 in
theorem t_X8_dropsFirst_56 {G : xG}  : ∀ (n : Nat) (a0 : Nat) (a1 : Int32) (a3 : Int32) (a4 : Int32) (a5 : Int32) (a6 : Int32) (ta0 : xTy a0 7) (h : Mem), Rn G 2 FX8_dropsFirst xcV 56 [(0, .ref (G.1 a0)), (1, .int a1), (3, .int a3), (4, .int a4), (5, .int a5), (6, .int a6)] [] h (f_X8_dropsFirst_56 n a0 a1 a3 a4 a5 a6 h) := by
  intro n
  induction n with
  | zero => intros; intro r hr; cases hr
  | succ n ih =>
    intro a0 a1 a3 a4 a5 a6 ta0 h
    unfold f_X8_dropsFirst_56
    refine r_iload (place := 5) dX8_dropsFirst_56 rfl ?_
    refine r_iload (place := 3) dX8_dropsFirst_58 rfl ?_
    refine r_aload_n (place := 0) dX8_dropsFirst_60 rfl rfl ?_
    refine r_iload_n (place := 1) dX8_dropsFirst_61 rfl rfl ?_
    refine r_iload_n (place := 2) dX8_dropsFirst_62 rfl rfl ?_
    refine r_callVI (rest := [.int a4, .int a6]) dX8_dropsFirst_63 m_X8_of lk_X8_166 rfl (by decide) ta0 (c_X8_of a0 ta0 a1 a3 h) (by decide) rfl rfl (Nat.le_of_ble_eq_true rfl) (fun v2 h1 => ?_)
    refine r_imul dX8_dropsFirst_66 ?_
    refine r_ic_ge (tgt := 107) dX8_dropsFirst_67 (by decide) ?_ ?_
    · exact r_ret dX8_dropsFirst_107 rfl
    · refine r_aload_n (place := 0) dX8_dropsFirst_70 rfl rfl ?_
      refine r_getR dX8_dropsFirst_71 fg_X8_7 ta0 ?_
      refine r_iload_n (place := 1) dX8_dropsFirst_74 rfl rfl ?_
      refine r_iload (place := 4) dX8_dropsFirst_75 rfl ?_
      refine r_iload (place := 5) dX8_dropsFirst_77 rfl ?_
      refine r_iadd dX8_dropsFirst_79 ?_
      refine r_callSI (rest := [.ref (G.1 (xrf a0 0))]) dX8_dropsFirst_80 m_X8_at lk_X8_115 (c_X8_at a1 (a5 + a6) h1) (by decide) rfl rfl (Nat.le_of_ble_eq_true rfl) (fun v4 h3 => ?_)
      refine r_aload_n (place := 0) dX8_dropsFirst_83 rfl rfl ?_
      refine r_getR dX8_dropsFirst_84 fg_X8_7 ta0 ?_
      refine r_iload_n (place := 1) dX8_dropsFirst_87 rfl rfl ?_
      refine r_iload (place := 4) dX8_dropsFirst_88 rfl ?_
      refine r_iload (place := 5) dX8_dropsFirst_90 rfl ?_
      refine r_iadd dX8_dropsFirst_92 ?_
      refine r_iload (place := 3) dX8_dropsFirst_93 rfl ?_
      refine r_iadd dX8_dropsFirst_95 ?_
      refine r_callSI (rest := [.ref (G.1 (xrf a0 0)), .int v4, .ref (G.1 (xrf a0 0))]) dX8_dropsFirst_96 m_X8_at lk_X8_115 (c_X8_at a1 ((a5 + a6) + a4) h3) (by decide) rfl rfl (Nat.le_of_ble_eq_true rfl) (fun v6 h5 => ?_)
      refine r_iald dX8_dropsFirst_99 (xt_7_0 ta0) (fun v7 => ?_)
      refine r_iast dX8_dropsFirst_100 (xt_7_0 ta0) (fun h8 => ?_)
      refine r_iincC (place := 5) (ls' := [(6, .int (a6 + (1 : Int32))), (0, .ref (G.1 a0)), (1, .int a1), (3, .int a3), (4, .int a4), (5, .int a5)]) dX8_dropsFirst_101 rfl xc_1 (by decide) rfl ?_
      refine r_goto (tgt := 56) dX8_dropsFirst_104 (by decide) ?_
      exact r_sub [1, 2, 3, 4, 5, 0] rfl (ih a0 a1 a3 a4 a5 (a6 + (1 : Int32)) ta0 h8)
def f_X8_dropsFirst_37  (a0 : Nat) (a1 : Int32) (a3 : Int32) (a4 : Int32) (s0 : Int32) (h : Mem) : Option (Unit × Mem) :=
  b2 (f_X8_at a1 a3 h) fun v2 h1 =>
  ald h1 (xrf a0 0) v2 fun v3 =>
  ast h1 (xrf a0 0) v2 (v3 - (1 : Int32)) fun h4 =>
  f_X8_dropsFirst_56 xFU a0 a1 a3 a4 s0 (0 : Int32) h4
set_option maxRecDepth 20000 in
theorem t_X8_dropsFirst_37 {G : xG}  (a0 : Nat) (a1 : Int32) (a3 : Int32) (a4 : Int32) (s0 : Int32) (ta0 : xTy a0 7) (h : Mem) : Rn G 2 FX8_dropsFirst xcV 37 [(0, .ref (G.1 a0)), (1, .int a1), (3, .int a3), (4, .int a4)] [.int s0] h (f_X8_dropsFirst_37 a0 a1 a3 a4 s0 h) := by
  unfold f_X8_dropsFirst_37
  refine r_istore (ls' := [(5, .int s0), (0, .ref (G.1 a0)), (1, .int a1), (3, .int a3), (4, .int a4)]) dX8_dropsFirst_37 (by decide) rfl ?_
  refine r_aload_n (place := 1) dX8_dropsFirst_39 rfl rfl ?_
  refine r_getR dX8_dropsFirst_40 fg_X8_7 ta0 ?_
  refine r_iload_n (place := 2) dX8_dropsFirst_43 rfl rfl ?_
  refine r_iload_n (place := 3) dX8_dropsFirst_44 rfl rfl ?_
  refine r_callSI (rest := [.ref (G.1 (xrf a0 0))]) dX8_dropsFirst_45 m_X8_at lk_X8_115 (c_X8_at a1 a3 h) (by decide) rfl rfl (Nat.le_of_ble_eq_true rfl) (fun v2 h1 => ?_)
  refine r_dup2 dX8_dropsFirst_48 rfl rfl ?_
  refine r_iald dX8_dropsFirst_49 (xt_7_0 ta0) (fun v3 => ?_)
  refine r_iconst dX8_dropsFirst_50 xc_1 ?_
  refine r_isub dX8_dropsFirst_51 ?_
  refine r_iast dX8_dropsFirst_52 (xt_7_0 ta0) (fun h4 => ?_)
  refine r_iconst dX8_dropsFirst_53 xc_0 ?_
  refine r_istore (ls' := [(6, .int (0 : Int32)), (5, .int s0), (0, .ref (G.1 a0)), (1, .int a1), (3, .int a3), (4, .int a4)]) dX8_dropsFirst_54 (by decide) rfl ?_
  exact r_sub [2, 3, 4, 5, 1, 0] rfl (t_X8_dropsFirst_56 xFU a0 a1 a3 a4 s0 (0 : Int32) ta0 h4)
def f_X8_dropsFirst_22  (a0 : Nat) (a1 : Int32) (a2 : Int32) (a3 : Int32) (s0 : Int32) (h : Mem) : Option (Unit × Mem) :=
  if a2 = 0 then
      f_X8_dropsFirst_37 a0 a1 a3 s0 (153 : Int32) h
  else
      f_X8_dropsFirst_37 a0 a1 a3 s0 (249 : Int32) h
set_option maxRecDepth 20000 in
theorem t_X8_dropsFirst_22 {G : xG}  (a0 : Nat) (a1 : Int32) (a2 : Int32) (a3 : Int32) (s0 : Int32) (ta0 : xTy a0 7) (h : Mem) : Rn G 2 FX8_dropsFirst xcV 22 [(0, .ref (G.1 a0)), (1, .int a1), (2, .int a2), (3, .int a3)] [.int s0] h (f_X8_dropsFirst_22 a0 a1 a2 a3 s0 h) := by
  unfold f_X8_dropsFirst_22
  refine r_istore (ls' := [(4, .int s0), (0, .ref (G.1 a0)), (1, .int a1), (2, .int a2), (3, .int a3)]) dX8_dropsFirst_22 (by decide) rfl ?_
  refine r_iload_n (place := 3) dX8_dropsFirst_24 rfl rfl ?_
  refine r_if_ne (tgt := 34) dX8_dropsFirst_25 (by decide) ?_ ?_
  · refine r_sipush dX8_dropsFirst_34 xs_249 ?_
    exact r_sub [1, 2, 4, 0] rfl (t_X8_dropsFirst_37 a0 a1 a3 s0 (249 : Int32) ta0 h)
  · refine r_sipush dX8_dropsFirst_28 xs_153 ?_
    refine r_goto (tgt := 37) dX8_dropsFirst_31 (by decide) ?_
    exact r_sub [1, 2, 4, 0] rfl (t_X8_dropsFirst_37 a0 a1 a3 s0 (153 : Int32) ta0 h)
def f_X8_dropsFirst_11  (a0 : Nat) (a1 : Int32) (a2 : Int32) (s0 : Int32) (h : Mem) : Option (Unit × Mem) :=
  if a2 = 0 then
      f_X8_dropsFirst_22 a0 a1 a2 s0 (6 : Int32) h
  else
      f_X8_dropsFirst_22 a0 a1 a2 s0 (2 : Int32) h
set_option maxRecDepth 20000 in
theorem t_X8_dropsFirst_11 {G : xG}  (a0 : Nat) (a1 : Int32) (a2 : Int32) (s0 : Int32) (ta0 : xTy a0 7) (h : Mem) : Rn G 2 FX8_dropsFirst xcV 11 [(0, .ref (G.1 a0)), (1, .int a1), (2, .int a2)] [.int s0] h (f_X8_dropsFirst_11 a0 a1 a2 s0 h) := by
  unfold f_X8_dropsFirst_11
  refine r_istore_n (ls' := [(3, .int s0), (0, .ref (G.1 a0)), (1, .int a1), (2, .int a2)]) dX8_dropsFirst_11 rfl (by decide) rfl ?_
  refine r_iload_n (place := 3) dX8_dropsFirst_12 rfl rfl ?_
  refine r_if_ne (tgt := 21) dX8_dropsFirst_13 (by decide) ?_ ?_
  · refine r_iconst dX8_dropsFirst_21 xc_2 ?_
    exact r_sub [1, 2, 3, 0] rfl (t_X8_dropsFirst_22 a0 a1 a2 s0 (2 : Int32) ta0 h)
  · refine r_bipush dX8_dropsFirst_16 xb_6 ?_
    refine r_goto (tgt := 22) dX8_dropsFirst_18 (by decide) ?_
    exact r_sub [1, 2, 3, 0] rfl (t_X8_dropsFirst_22 a0 a1 a2 s0 (6 : Int32) ta0 h)
def f_X8_dropsFirst (a0 : Nat) (a1 : Int32) (a2 : Int32) (h : Mem) : Option (Unit × Mem) :=
  if a2 = 0 then
      f_X8_dropsFirst_11 a0 a1 a2 (6 : Int32) h
  else
      f_X8_dropsFirst_11 a0 a1 a2 (7 : Int32) h
set_option maxRecDepth 20000 in
theorem c_X8_dropsFirst {G : xG} (a0 : Nat) (ta0 : xTy a0 7) (a1 : Int32) (a2 : Int32) (h : Mem) : Sm G 2 yX8_dropsFirst FX8_dropsFirst xcV [.ref (G.1 a0), .int a1, .int a2] h (f_X8_dropsFirst a0 a1 a2 h) := by
  refine Sm.of pn_X8 rfl (Nat.le_of_ble_eq_true rfl) (ls := [(0, .ref (G.1 a0)), (1, .int a1), (2, .int a2)]) rfl ?_
  unfold f_X8_dropsFirst
  refine r_iload_n (place := 2) dX8_dropsFirst_0 rfl rfl ?_
  refine r_if_ne (tgt := 9) dX8_dropsFirst_1 (by decide) ?_ ?_
  · refine r_bipush dX8_dropsFirst_9 xb_7 ?_
    exact r_sub [0, 1, 2] rfl (t_X8_dropsFirst_11 a0 a1 a2 (7 : Int32) ta0 h)
  · refine r_bipush dX8_dropsFirst_4 xb_6 ?_
    refine r_goto (tgt := 11) dX8_dropsFirst_6 (by decide) ?_
    exact r_sub [0, 1, 2] rfl (t_X8_dropsFirst_11 a0 a1 a2 (6 : Int32) ta0 h)
def f_X8_carry_120 (kk67 : Nat → Int32 → Int32 → Int32 → Int32 → Mem → Option (Int32 × Mem)) (a0 : Nat) (a1 : Int32) (a2 : Int32) (a3 : Int32) (a4 : Int32) (s0 : Nat) (s1 : Int32) (s2 : Int32) (h : Mem) : Option (Int32 × Mem) :=
  ast h s0 s1 s2 fun h1 =>
  kk67 a0 a1 a2 a3 (a4 + (1 : Int32)) h1
set_option maxRecDepth 20000 in
theorem t_X8_carry_120 {G : xG} (kk67 : Nat → Int32 → Int32 → Int32 → Int32 → Mem → Option (Int32 × Mem)) (hk67 : ∀ (a0 : Nat) (a1 : Int32) (a2 : Int32) (a3 : Int32) (a4 : Int32) (ta0 : xTy a0 7) (h : Mem), Rn G 8 FX8_carry xcI 67 [(0, .ref (G.1 a0)), (1, .int a1), (2, .int a2), (3, .int a3), (4, .int a4)] [] h (kk67 a0 a1 a2 a3 a4 h)) (a0 : Nat) (a1 : Int32) (a2 : Int32) (a3 : Int32) (a4 : Int32) (s0 : Nat) (s1 : Int32) (s2 : Int32) (ta0 : xTy a0 7) (ts0 : xTy s0 8) (h : Mem) : Rn G 8 FX8_carry xcI 120 [(0, .ref (G.1 a0)), (1, .int a1), (2, .int a2), (3, .int a3), (4, .int a4)] [.int s2, .int s1, .ref (G.1 s0)] h (f_X8_carry_120 kk67 a0 a1 a2 a3 a4 s0 s1 s2 h) := by
  unfold f_X8_carry_120
  refine r_iast dX8_carry_120 ts0 (fun h1 => ?_)
  refine r_iincC (place := 4) (ls' := [(4, .int (a4 + (1 : Int32))), (0, .ref (G.1 a0)), (1, .int a1), (2, .int a2), (3, .int a3)]) dX8_carry_121 rfl xc_1 (by decide) rfl ?_
  refine r_goto (tgt := 67) dX8_carry_124 (by decide) ?_
  exact r_sub [1, 2, 3, 4, 0] rfl (hk67 a0 a1 a2 a3 (a4 + (1 : Int32)) ta0 h1)
def f_X8_carry_195  (a0 : Nat) (a1 : Int32) (a3 : Int32) (a4 : Int32) (h : Mem) : Option (Int32 × Mem) :=
  if a3 = (1 : Int32) then
      some (a4, h)
  else
      ald h (xrf a0 22) (1 : Int32) fun v1 =>
      b2 (f_X8_carriedUp a0 a1 a4 v1 h) fun _ h2 =>
      some (a4, h2)
set_option maxRecDepth 20000 in
theorem t_X8_carry_195 {G : xG}  (a0 : Nat) (a1 : Int32) (a3 : Int32) (a4 : Int32) (ta0 : xTy a0 7) (h : Mem) : Rn G 8 FX8_carry xcI 195 [(0, .ref (G.1 a0)), (1, .int a1), (3, .int a3), (4, .int a4)] [] h (f_X8_carry_195 a0 a1 a3 a4 h) := by
  unfold f_X8_carry_195
  refine r_iload_n (place := 2) dX8_carry_195 rfl rfl ?_
  refine r_iconst dX8_carry_196 xc_1 ?_
  refine r_ic_eq (tgt := 213) dX8_carry_197 (by decide) ?_ ?_
  · refine r_iload (place := 3) dX8_carry_213 rfl ?_
    exact r_iret dX8_carry_215 rfl
  · refine r_aload_n (place := 0) dX8_carry_200 rfl rfl ?_
    refine r_iload_n (place := 1) dX8_carry_201 rfl rfl ?_
    refine r_iload (place := 3) dX8_carry_202 rfl ?_
    refine r_aload_n (place := 0) dX8_carry_204 rfl rfl ?_
    refine r_getR dX8_carry_205 fg_X8_50 ta0 ?_
    refine r_iconst dX8_carry_208 xc_1 ?_
    refine r_iald dX8_carry_209 (xt_7_22 ta0) (fun v1 => ?_)
    refine r_callVV (rest := []) dX8_carry_210 m_X8_carriedUp lk_X8_313 rfl (by decide) ta0 (c_X8_carriedUp a0 ta0 a1 a4 v1 h) (by decide) rfl rfl (Nat.le_of_ble_eq_true rfl) (fun h2 => ?_)
    refine r_iload (place := 3) dX8_carry_213 rfl ?_
    exact r_iret dX8_carry_215 rfl
def f_X8_carry_146  (a0 : Nat) (a1 : Int32) (a2 : Int32) (a3 : Int32) (a4 : Int32) (h : Mem) : Option (Int32 × Mem) :=
  if a3 = (1 : Int32) then
      f_X8_carry_195 a0 a1 a3 a4 h
  else
      if a2 = 0 then
          ald h (xrf a0 22) (1 : Int32) fun v1 =>
          ald h (xrf a0 22) (2 : Int32) fun v2 =>
          ald h (xrf a0 22) (3 : Int32) fun v3 =>
          ald h (xrf a0 22) (4 : Int32) fun v4 =>
          ald h (xrf a0 22) (5 : Int32) fun v5 =>
          b2 (f_X8_carriedDown a0 a1 a4 v1 v2 v3 v4 v5 h) fun _ h6 =>
          some (a4, h6)
      else
          f_X8_carry_195 a0 a1 a3 a4 h
set_option maxRecDepth 20000 in
theorem t_X8_carry_146 {G : xG}  (a0 : Nat) (a1 : Int32) (a2 : Int32) (a3 : Int32) (a4 : Int32) (ta0 : xTy a0 7) (h : Mem) : Rn G 8 FX8_carry xcI 146 [(0, .ref (G.1 a0)), (1, .int a1), (2, .int a2), (3, .int a3), (4, .int a4)] [] h (f_X8_carry_146 a0 a1 a2 a3 a4 h) := by
  unfold f_X8_carry_146
  refine r_iload_n (place := 3) dX8_carry_146 rfl rfl ?_
  refine r_iconst dX8_carry_147 xc_1 ?_
  refine r_ic_eq (tgt := 195) dX8_carry_148 (by decide) ?_ ?_
  · exact r_sub [0, 1, 3, 4] rfl (t_X8_carry_195 a0 a1 a3 a4 ta0 h)
  · refine r_iload_n (place := 2) dX8_carry_151 rfl rfl ?_
    refine r_if_ne (tgt := 195) dX8_carry_152 (by decide) ?_ ?_
    · exact r_sub [0, 1, 3, 4] rfl (t_X8_carry_195 a0 a1 a3 a4 ta0 h)
    · refine r_aload_n (place := 0) dX8_carry_155 rfl rfl ?_
      refine r_iload_n (place := 1) dX8_carry_156 rfl rfl ?_
      refine r_iload (place := 4) dX8_carry_157 rfl ?_
      refine r_aload_n (place := 0) dX8_carry_159 rfl rfl ?_
      refine r_getR dX8_carry_160 fg_X8_50 ta0 ?_
      refine r_iconst dX8_carry_163 xc_1 ?_
      refine r_iald dX8_carry_164 (xt_7_22 ta0) (fun v1 => ?_)
      refine r_aload_n (place := 0) dX8_carry_165 rfl rfl ?_
      refine r_getR dX8_carry_166 fg_X8_50 ta0 ?_
      refine r_iconst dX8_carry_169 xc_2 ?_
      refine r_iald dX8_carry_170 (xt_7_22 ta0) (fun v2 => ?_)
      refine r_aload_n (place := 0) dX8_carry_171 rfl rfl ?_
      refine r_getR dX8_carry_172 fg_X8_50 ta0 ?_
      refine r_iconst dX8_carry_175 xc_3 ?_
      refine r_iald dX8_carry_176 (xt_7_22 ta0) (fun v3 => ?_)
      refine r_aload_n (place := 0) dX8_carry_177 rfl rfl ?_
      refine r_getR dX8_carry_178 fg_X8_50 ta0 ?_
      refine r_iconst dX8_carry_181 xc_4 ?_
      refine r_iald dX8_carry_182 (xt_7_22 ta0) (fun v4 => ?_)
      refine r_aload_n (place := 0) dX8_carry_183 rfl rfl ?_
      refine r_getR dX8_carry_184 fg_X8_50 ta0 ?_
      refine r_iconst dX8_carry_187 xc_5 ?_
      refine r_iald dX8_carry_188 (xt_7_22 ta0) (fun v5 => ?_)
      refine r_callVV (rest := []) dX8_carry_189 m_X8_carriedDown lk_X8_310 rfl (by decide) ta0 (c_X8_carriedDown a0 ta0 a1 a4 v1 v2 v3 v4 v5 h) (by decide) rfl rfl (Nat.le_of_ble_eq_true rfl) (fun h6 => ?_)
      refine r_goto (tgt := 213) dX8_carry_192 (by decide) ?_
      refine r_iload (place := 4) dX8_carry_213 rfl ?_
      exact r_iret dX8_carry_215 rfl
def f_X8_carry_67  : Nat → Nat → Int32 → Int32 → Int32 → Int32 → Mem → Option (Int32 × Mem)
  | 0, _, _, _, _, _, _ => none
  | n + 1, a0, a1, a2, a3, a4, h =>
    if (6 : Int32) ≤ a4 then
        ald h (xrf a0 22) (0 : Int32) fun v1 =>
        if (2 : Int32) ≤ a3 then
            f_X8_carry_146 a0 a1 a2 a3 v1 h
        else
            b2 (f_X8_dropsFirst a0 a1 a2 h) fun _ h2 =>
            f_X8_carry_146 a0 a1 a2 a3 v1 h2
    else
        if a2 = 0 then
            b2 (f_X8_of a0 a1 ((153 : Int32) + a4) h) fun v6 h5 =>
            f_X8_carry_120 (f_X8_carry_67 n) a0 a1 a2 a3 a4 (xrf a0 22) a4 v6 h5
        else
            if (2 : Int32) ≤ a4 then
                f_X8_carry_120 (f_X8_carry_67 n) a0 a1 a2 a3 a4 (xrf a0 22) a4 (-4 : Int32) h
            else
                b2 (f_X8_of a0 a1 ((249 : Int32) + a4) h) fun v4 h3 =>
                f_X8_carry_120 (f_X8_carry_67 n) a0 a1 a2 a3 a4 (xrf a0 22) a4 v4 h3
set_option maxRecDepth 20000 in
theorem t_X8_carry_67 {G : xG}  : ∀ (n : Nat) (a0 : Nat) (a1 : Int32) (a2 : Int32) (a3 : Int32) (a4 : Int32) (ta0 : xTy a0 7) (h : Mem), Rn G 8 FX8_carry xcI 67 [(0, .ref (G.1 a0)), (1, .int a1), (2, .int a2), (3, .int a3), (4, .int a4)] [] h (f_X8_carry_67 n a0 a1 a2 a3 a4 h) := by
  intro n
  induction n with
  | zero => intros; intro r hr; cases hr
  | succ n ih =>
    intro a0 a1 a2 a3 a4 ta0 h
    unfold f_X8_carry_67
    refine r_iload (place := 4) dX8_carry_67 rfl ?_
    refine r_bipush dX8_carry_69 xb_6 ?_
    refine r_ic_ge (tgt := 127) dX8_carry_71 (by decide) ?_ ?_
    · refine r_aload_n (place := 0) dX8_carry_127 rfl rfl ?_
      refine r_getR dX8_carry_128 fg_X8_50 ta0 ?_
      refine r_iconst dX8_carry_131 xc_0 ?_
      refine r_iald dX8_carry_132 (xt_7_22 ta0) (fun v1 => ?_)
      refine r_istore (ls' := [(4, .int v1), (0, .ref (G.1 a0)), (1, .int a1), (2, .int a2), (3, .int a3)]) dX8_carry_133 (by decide) rfl ?_
      refine r_iload_n (place := 4) dX8_carry_135 rfl rfl ?_
      refine r_iconst dX8_carry_136 xc_2 ?_
      refine r_ic_ge (tgt := 146) dX8_carry_137 (by decide) ?_ ?_
      · exact r_sub [1, 2, 3, 4, 0] rfl (t_X8_carry_146 a0 a1 a2 a3 v1 ta0 h)
      · refine r_aload_n (place := 1) dX8_carry_140 rfl rfl ?_
        refine r_iload_n (place := 2) dX8_carry_141 rfl rfl ?_
        refine r_iload_n (place := 3) dX8_carry_142 rfl rfl ?_
        refine r_callVV (rest := []) dX8_carry_143 m_X8_dropsFirst lk_X8_307 rfl (by decide) ta0 (c_X8_dropsFirst a0 ta0 a1 a2 h) (by decide) rfl rfl (Nat.le_of_ble_eq_true rfl) (fun h2 => ?_)
        exact r_sub [1, 2, 3, 4, 0] rfl (t_X8_carry_146 a0 a1 a2 a3 v1 ta0 h2)
    · refine r_aload_n (place := 0) dX8_carry_74 rfl rfl ?_
      refine r_getR dX8_carry_75 fg_X8_50 ta0 ?_
      refine r_iload (place := 4) dX8_carry_78 rfl ?_
      refine r_iload_n (place := 2) dX8_carry_80 rfl rfl ?_
      refine r_if_ne (tgt := 98) dX8_carry_81 (by decide) ?_ ?_
      · refine r_iload (place := 4) dX8_carry_98 rfl ?_
        refine r_iconst dX8_carry_100 xc_2 ?_
        refine r_ic_ge (tgt := 118) dX8_carry_101 (by decide) ?_ ?_
        · refine r_bipush dX8_carry_118 xb_m4 ?_
          exact r_sub [0, 1, 2, 3, 4] rfl (t_X8_carry_120 (f_X8_carry_67 n) ih a0 a1 a2 a3 a4 (xrf a0 22) a4 (-4 : Int32) ta0 (xt_7_22 ta0) h)
        · refine r_aload_n (place := 0) dX8_carry_104 rfl rfl ?_
          refine r_iload_n (place := 1) dX8_carry_105 rfl rfl ?_
          refine r_sipush dX8_carry_106 xs_249 ?_
          refine r_iload (place := 4) dX8_carry_109 rfl ?_
          refine r_iadd dX8_carry_111 ?_
          refine r_callVI (rest := [.int a4, .ref (G.1 (xrf a0 22))]) dX8_carry_112 m_X8_of lk_X8_166 rfl (by decide) ta0 (c_X8_of a0 ta0 a1 ((249 : Int32) + a4) h) (by decide) rfl rfl (Nat.le_of_ble_eq_true rfl) (fun v4 h3 => ?_)
          refine r_goto (tgt := 120) dX8_carry_115 (by decide) ?_
          exact r_sub [0, 1, 2, 3, 4] rfl (t_X8_carry_120 (f_X8_carry_67 n) ih a0 a1 a2 a3 a4 (xrf a0 22) a4 v4 ta0 (xt_7_22 ta0) h3)
      · refine r_aload_n (place := 0) dX8_carry_84 rfl rfl ?_
        refine r_iload_n (place := 1) dX8_carry_85 rfl rfl ?_
        refine r_sipush dX8_carry_86 xs_153 ?_
        refine r_iload (place := 4) dX8_carry_89 rfl ?_
        refine r_iadd dX8_carry_91 ?_
        refine r_callVI (rest := [.int a4, .ref (G.1 (xrf a0 22))]) dX8_carry_92 m_X8_of lk_X8_166 rfl (by decide) ta0 (c_X8_of a0 ta0 a1 ((153 : Int32) + a4) h) (by decide) rfl rfl (Nat.le_of_ble_eq_true rfl) (fun v6 h5 => ?_)
        refine r_goto (tgt := 120) dX8_carry_95 (by decide) ?_
        exact r_sub [0, 1, 2, 3, 4] rfl (t_X8_carry_120 (f_X8_carry_67 n) ih a0 a1 a2 a3 a4 (xrf a0 22) a4 v6 ta0 (xt_7_22 ta0) h5)
def f_X8_carry_55  (a0 : Nat) (a1 : Int32) (a2 : Int32) (a3 : Int32) (s0 : Nat) (s1 : Int32) (s2 : Int32) (h : Mem) : Option (Int32 × Mem) :=
  b2 (f_X8_of s0 s1 s2 h) fun v2 h1 =>
  if v2 = 0 then
      some ((-4 : Int32), h1)
  else
      f_X8_carry_67 xFU a0 a1 a2 a3 (0 : Int32) h1
set_option maxRecDepth 20000 in
theorem t_X8_carry_55 {G : xG}  (a0 : Nat) (a1 : Int32) (a2 : Int32) (a3 : Int32) (s0 : Nat) (s1 : Int32) (s2 : Int32) (ta0 : xTy a0 7) (ts0 : xTy s0 7) (h : Mem) : Rn G 8 FX8_carry xcI 55 [(0, .ref (G.1 a0)), (1, .int a1), (2, .int a2), (3, .int a3)] [.int s2, .int s1, .ref (G.1 s0)] h (f_X8_carry_55 a0 a1 a2 a3 s0 s1 s2 h) := by
  unfold f_X8_carry_55
  refine r_callVI (rest := []) dX8_carry_55 m_X8_of lk_X8_166 rfl (by decide) ts0 (c_X8_of s0 ts0 s1 s2 h) (by decide) rfl rfl (Nat.le_of_ble_eq_true rfl) (fun v2 h1 => ?_)
  refine r_if_ne (tgt := 64) dX8_carry_58 (by decide) ?_ ?_
  · refine r_iconst dX8_carry_64 xc_0 ?_
    refine r_istore (ls' := [(4, .int (0 : Int32)), (0, .ref (G.1 a0)), (1, .int a1), (2, .int a2), (3, .int a3)]) dX8_carry_65 (by decide) rfl ?_
    exact r_sub [1, 2, 3, 4, 0] rfl (t_X8_carry_67 xFU a0 a1 a2 a3 (0 : Int32) ta0 h1)
  · refine r_bipush dX8_carry_61 xb_m4 ?_
    exact r_iret dX8_carry_63 rfl
def f_X8_carry (a0 : Nat) (a1 : Int32) (a2 : Int32) (a3 : Int32) (h : Mem) : Option (Int32 × Mem) :=
  b2 (f_X8_isClient a1 h) fun v2 h1 =>
  if v2 = 0 then
      some ((-1 : Int32), h1)
  else
      b2 (f_X8_in a2.toInt64 (0 : Int64) (1 : Int64) h1) fun v4 h3 =>
      if v4 = 0 then
          some ((-1 : Int32), h3)
      else
          b2 (f_X8_in a3.toInt64 (0 : Int64) (2 : Int64) h3) fun v6 h5 =>
          if v6 = 0 then
              some ((-1 : Int32), h5)
          else
              b2 (f_X8_isAwake a0 a1 h5) fun v8 h7 =>
              if v8 = 0 then
                  some ((-2 : Int32), h7)
              else
                  if a2 = 0 then
                      f_X8_carry_55 a0 a1 a2 a3 a0 a1 (6 : Int32) h7
                  else
                      f_X8_carry_55 a0 a1 a2 a3 a0 a1 (7 : Int32) h7
set_option maxRecDepth 20000 in
theorem c_X8_carry {G : xG} (a0 : Nat) (ta0 : xTy a0 7) (a1 : Int32) (a2 : Int32) (a3 : Int32) (h : Mem) : Sm G 8 yX8_carry FX8_carry xcI [.ref (G.1 a0), .int a1, .int a2, .int a3] h (f_X8_carry a0 a1 a2 a3 h) := by
  refine Sm.of pn_X8 rfl (Nat.le_of_ble_eq_true rfl) (ls := [(0, .ref (G.1 a0)), (1, .int a1), (2, .int a2), (3, .int a3)]) rfl ?_
  unfold f_X8_carry
  refine r_iload_n (place := 1) dX8_carry_0 rfl rfl ?_
  refine r_callSI (rest := []) dX8_carry_1 m_X8_isClient lk_X8_249 (c_X8_isClient a1 h) (by decide) rfl rfl (Nat.le_of_ble_eq_true rfl) (fun v2 h1 => ?_)
  refine r_if_eq (tgt := 29) dX8_carry_4 (by decide) ?_ ?_
  · refine r_iconst dX8_carry_29 xc_m1 ?_
    exact r_iret dX8_carry_30 rfl
  · refine r_iload_n (place := 2) dX8_carry_7 rfl rfl ?_
    refine r_i2l dX8_carry_8 ?_
    refine r_lconst dX8_carry_9 xl_0 ?_
    refine r_lconst dX8_carry_10 xl_1 ?_
    refine r_callSI (rest := []) dX8_carry_11 m_X8_in lk_X8_59 (c_X8_in a2.toInt64 (0 : Int64) (1 : Int64) h1) (by decide) rfl rfl (Nat.le_of_ble_eq_true rfl) (fun v4 h3 => ?_)
    refine r_if_eq (tgt := 29) dX8_carry_14 (by decide) ?_ ?_
    · refine r_iconst dX8_carry_29 xc_m1 ?_
      exact r_iret dX8_carry_30 rfl
    · refine r_iload_n (place := 3) dX8_carry_17 rfl rfl ?_
      refine r_i2l dX8_carry_18 ?_
      refine r_lconst dX8_carry_19 xl_0 ?_
      refine r_ldc2 dX8_carry_20 ll_X8_271 ?_
      refine r_callSI (rest := []) dX8_carry_23 m_X8_in lk_X8_59 (c_X8_in a3.toInt64 (0 : Int64) (2 : Int64) h3) (by decide) rfl rfl (Nat.le_of_ble_eq_true rfl) (fun v6 h5 => ?_)
      refine r_if_ne (tgt := 31) dX8_carry_26 (by decide) ?_ ?_
      · refine r_aload_n (place := 0) dX8_carry_31 rfl rfl ?_
        refine r_iload_n (place := 1) dX8_carry_32 rfl rfl ?_
        refine r_callVI (rest := []) dX8_carry_33 m_X8_isAwake lk_X8_177 rfl (by decide) ta0 (c_X8_isAwake a0 ta0 a1 h5) (by decide) rfl rfl (Nat.le_of_ble_eq_true rfl) (fun v8 h7 => ?_)
        refine r_if_ne (tgt := 42) dX8_carry_36 (by decide) ?_ ?_
        · refine r_aload_n (place := 0) dX8_carry_42 rfl rfl ?_
          refine r_iload_n (place := 1) dX8_carry_43 rfl rfl ?_
          refine r_iload_n (place := 2) dX8_carry_44 rfl rfl ?_
          refine r_if_ne (tgt := 53) dX8_carry_45 (by decide) ?_ ?_
          · refine r_bipush dX8_carry_53 xb_7 ?_
            exact r_sub [0, 1, 2, 3] rfl (t_X8_carry_55 a0 a1 a2 a3 a0 a1 (7 : Int32) ta0 ta0 h7)
          · refine r_bipush dX8_carry_48 xb_6 ?_
            refine r_goto (tgt := 55) dX8_carry_50 (by decide) ?_
            exact r_sub [0, 1, 2, 3] rfl (t_X8_carry_55 a0 a1 a2 a3 a0 a1 (6 : Int32) ta0 ta0 h7)
        · refine r_bipush dX8_carry_39 xb_m2 ?_
          exact r_iret dX8_carry_41 rfl
      · refine r_iconst dX8_carry_29 xc_m1 ?_
        exact r_iret dX8_carry_30 rfl
def f_X8_again_22  : Nat → Nat → Int32 → Int32 → Mem → Option (Int32 × Mem)
  | 0, _, _, _, _ => none
  | n + 1, a0, a1, a2, h =>
    b2 (f_X8_of a0 a1 (4 : Int32) h) fun v2 h1 =>
    if v2 ≤ a2 then
        b2 (f_X8_of a0 a1 (4 : Int32) h1) fun v4 h3 =>
        some (v4, h3)
    else
        b2 (f_X8_sends a0 a1 a2 h1) fun _ h5 =>
        (f_X8_again_22 n) a0 a1 (a2 + (1 : Int32)) h5
set_option maxRecDepth 20000 in
theorem t_X8_again_22 {G : xG}  : ∀ (n : Nat) (a0 : Nat) (a1 : Int32) (a2 : Int32) (ta0 : xTy a0 7) (h : Mem), Rn G 4 FX8_again xcI 22 [(0, .ref (G.1 a0)), (1, .int a1), (2, .int a2)] [] h (f_X8_again_22 n a0 a1 a2 h) := by
  intro n
  induction n with
  | zero => intros; intro r hr; cases hr
  | succ n ih =>
    intro a0 a1 a2 ta0 h
    unfold f_X8_again_22
    refine r_iload_n (place := 2) dX8_again_22 rfl rfl ?_
    refine r_aload_n (place := 0) dX8_again_23 rfl rfl ?_
    refine r_iload_n (place := 1) dX8_again_24 rfl rfl ?_
    refine r_iconst dX8_again_25 xc_4 ?_
    refine r_callVI (rest := [.int a2]) dX8_again_26 m_X8_of lk_X8_166 rfl (by decide) ta0 (c_X8_of a0 ta0 a1 (4 : Int32) h) (by decide) rfl rfl (Nat.le_of_ble_eq_true rfl) (fun v2 h1 => ?_)
    refine r_ic_ge (tgt := 44) dX8_again_29 (by decide) ?_ ?_
    · refine r_aload_n (place := 0) dX8_again_44 rfl rfl ?_
      refine r_iload_n (place := 1) dX8_again_45 rfl rfl ?_
      refine r_iconst dX8_again_46 xc_4 ?_
      refine r_callVI (rest := []) dX8_again_47 m_X8_of lk_X8_166 rfl (by decide) ta0 (c_X8_of a0 ta0 a1 (4 : Int32) h1) (by decide) rfl rfl (Nat.le_of_ble_eq_true rfl) (fun v4 h3 => ?_)
      exact r_iret dX8_again_50 rfl
    · refine r_aload_n (place := 0) dX8_again_32 rfl rfl ?_
      refine r_iload_n (place := 1) dX8_again_33 rfl rfl ?_
      refine r_iload_n (place := 2) dX8_again_34 rfl rfl ?_
      refine r_callVV (rest := []) dX8_again_35 m_X8_sends lk_X8_173 rfl (by decide) ta0 (c_X8_sends a0 ta0 a1 a2 h1) (by decide) rfl rfl (Nat.le_of_ble_eq_true rfl) (fun h5 => ?_)
      refine r_iincC (place := 2) (ls' := [(2, .int (a2 + (1 : Int32))), (0, .ref (G.1 a0)), (1, .int a1)]) dX8_again_38 rfl xc_1 (by decide) rfl ?_
      refine r_goto (tgt := 22) dX8_again_41 (by decide) ?_
      exact r_sub [1, 2, 0] rfl (ih a0 a1 (a2 + (1 : Int32)) ta0 h5)
def f_X8_again (a0 : Nat) (a1 : Int32) (h : Mem) : Option (Int32 × Mem) :=
  b2 (f_X8_isClient a1 h) fun v2 h1 =>
  if v2 = 0 then
      some ((-1 : Int32), h1)
  else
      b2 (f_X8_isAwake a0 a1 h1) fun v4 h3 =>
      if v4 = 0 then
          some ((-2 : Int32), h3)
      else
          f_X8_again_22 xFU a0 a1 (0 : Int32) h3
set_option maxRecDepth 20000 in
theorem c_X8_again {G : xG} (a0 : Nat) (ta0 : xTy a0 7) (a1 : Int32) (h : Mem) : Sm G 4 yX8_again FX8_again xcI [.ref (G.1 a0), .int a1] h (f_X8_again a0 a1 h) := by
  refine Sm.of pn_X8 rfl (Nat.le_of_ble_eq_true rfl) (ls := [(0, .ref (G.1 a0)), (1, .int a1)]) rfl ?_
  unfold f_X8_again
  refine r_iload_n (place := 1) dX8_again_0 rfl rfl ?_
  refine r_callSI (rest := []) dX8_again_1 m_X8_isClient lk_X8_249 (c_X8_isClient a1 h) (by decide) rfl rfl (Nat.le_of_ble_eq_true rfl) (fun v2 h1 => ?_)
  refine r_if_ne (tgt := 9) dX8_again_4 (by decide) ?_ ?_
  · refine r_aload_n (place := 0) dX8_again_9 rfl rfl ?_
    refine r_iload_n (place := 1) dX8_again_10 rfl rfl ?_
    refine r_callVI (rest := []) dX8_again_11 m_X8_isAwake lk_X8_177 rfl (by decide) ta0 (c_X8_isAwake a0 ta0 a1 h1) (by decide) rfl rfl (Nat.le_of_ble_eq_true rfl) (fun v4 h3 => ?_)
    refine r_if_ne (tgt := 20) dX8_again_14 (by decide) ?_ ?_
    · refine r_iconst dX8_again_20 xc_0 ?_
      refine r_istore_n (ls' := [(2, .int (0 : Int32)), (0, .ref (G.1 a0)), (1, .int a1)]) dX8_again_21 rfl (by decide) rfl ?_
      exact r_sub [1, 2, 0] rfl (t_X8_again_22 xFU a0 a1 (0 : Int32) ta0 h3)
    · refine r_bipush dX8_again_17 xb_m2 ?_
      exact r_iret dX8_again_19 rfl
  · refine r_iconst dX8_again_7 xc_m1 ?_
    exact r_iret dX8_again_8 rfl
def f_X8_tick_104 (kk18 : Nat → Int32 → Int32 → Int32 → Mem → Option (Int32 × Mem)) (kk36 : Nat → Int32 → Int32 → Int32 → Int32 → Mem → Option (Int32 × Mem)) (a0 : Nat) (a1 : Int32) (a2 : Int32) (a3 : Int32) (a4 : Int32) (h : Mem) : Option (Int32 × Mem) :=
  kk36 a0 a1 a2 a3 (a4 + (1 : Int32)) h
set_option maxRecDepth 20000 in
theorem t_X8_tick_104 {G : xG} (kk18 : Nat → Int32 → Int32 → Int32 → Mem → Option (Int32 × Mem)) (hk18 : ∀ (a0 : Nat) (a1 : Int32) (a2 : Int32) (a3 : Int32) (ta0 : xTy a0 7) (h : Mem), Rn G 9 FX8_tick xcI 18 [(0, .ref (G.1 a0)), (1, .int a1), (2, .int a2), (3, .int a3)] [] h (kk18 a0 a1 a2 a3 h)) (kk36 : Nat → Int32 → Int32 → Int32 → Int32 → Mem → Option (Int32 × Mem)) (hk36 : ∀ (a0 : Nat) (a1 : Int32) (a2 : Int32) (a3 : Int32) (a4 : Int32) (ta0 : xTy a0 7) (h : Mem), Rn G 9 FX8_tick xcI 36 [(0, .ref (G.1 a0)), (1, .int a1), (2, .int a2), (3, .int a3), (4, .int a4)] [] h (kk36 a0 a1 a2 a3 a4 h)) (a0 : Nat) (a1 : Int32) (a2 : Int32) (a3 : Int32) (a4 : Int32) (ta0 : xTy a0 7) (h : Mem) : Rn G 9 FX8_tick xcI 104 [(0, .ref (G.1 a0)), (1, .int a1), (2, .int a2), (3, .int a3), (4, .int a4)] [] h (f_X8_tick_104 kk18 kk36 a0 a1 a2 a3 a4 h) := by
  unfold f_X8_tick_104
  refine r_iincC (place := 4) (ls' := [(4, .int (a4 + (1 : Int32))), (0, .ref (G.1 a0)), (1, .int a1), (2, .int a2), (3, .int a3)]) dX8_tick_104 rfl xc_1 (by decide) rfl ?_
  refine r_goto (tgt := 36) dX8_tick_107 (by decide) ?_
  exact r_sub [1, 2, 3, 4, 0] rfl (hk36 a0 a1 a2 a3 (a4 + (1 : Int32)) ta0 h)
def f_X8_tick_70 (kk18 : Nat → Int32 → Int32 → Int32 → Mem → Option (Int32 × Mem)) (kk36 : Nat → Int32 → Int32 → Int32 → Int32 → Mem → Option (Int32 × Mem)) (a0 : Nat) (a1 : Int32) (a2 : Int32) (a3 : Int32) (a4 : Int32) (h : Mem) : Option (Int32 × Mem) :=
  b2 (f_X8_of a0 a4 (0 : Int32) h) fun v2 h1 =>
  if v2 = (2 : Int32) then
      b2 (f_X8_of a0 a4 (2 : Int32) h1) fun v4 h3 =>
      ald h3 (xrf a0 0) (0 : Int32) fun v5 =>
      if v4 = v5 then
          b2 (f_X8_isNew a0 a4 (0 : Int32) h3) fun _ h6 =>
          f_X8_tick_104 kk18 kk36 a0 a1 a2 a3 a4 h6
      else
          f_X8_tick_104 kk18 kk36 a0 a1 a2 a3 a4 h3
  else
      f_X8_tick_104 kk18 kk36 a0 a1 a2 a3 a4 h1
set_option maxRecDepth 20000 in
theorem t_X8_tick_70 {G : xG} (kk18 : Nat → Int32 → Int32 → Int32 → Mem → Option (Int32 × Mem)) (hk18 : ∀ (a0 : Nat) (a1 : Int32) (a2 : Int32) (a3 : Int32) (ta0 : xTy a0 7) (h : Mem), Rn G 9 FX8_tick xcI 18 [(0, .ref (G.1 a0)), (1, .int a1), (2, .int a2), (3, .int a3)] [] h (kk18 a0 a1 a2 a3 h)) (kk36 : Nat → Int32 → Int32 → Int32 → Int32 → Mem → Option (Int32 × Mem)) (hk36 : ∀ (a0 : Nat) (a1 : Int32) (a2 : Int32) (a3 : Int32) (a4 : Int32) (ta0 : xTy a0 7) (h : Mem), Rn G 9 FX8_tick xcI 36 [(0, .ref (G.1 a0)), (1, .int a1), (2, .int a2), (3, .int a3), (4, .int a4)] [] h (kk36 a0 a1 a2 a3 a4 h)) (a0 : Nat) (a1 : Int32) (a2 : Int32) (a3 : Int32) (a4 : Int32) (ta0 : xTy a0 7) (h : Mem) : Rn G 9 FX8_tick xcI 70 [(0, .ref (G.1 a0)), (1, .int a1), (2, .int a2), (3, .int a3), (4, .int a4)] [] h (f_X8_tick_70 kk18 kk36 a0 a1 a2 a3 a4 h) := by
  unfold f_X8_tick_70
  refine r_aload_n (place := 0) dX8_tick_70 rfl rfl ?_
  refine r_iload (place := 4) dX8_tick_71 rfl ?_
  refine r_iconst dX8_tick_73 xc_0 ?_
  refine r_callVI (rest := []) dX8_tick_74 m_X8_of lk_X8_166 rfl (by decide) ta0 (c_X8_of a0 ta0 a4 (0 : Int32) h) (by decide) rfl rfl (Nat.le_of_ble_eq_true rfl) (fun v2 h1 => ?_)
  refine r_iconst dX8_tick_77 xc_2 ?_
  refine r_ic_ne (tgt := 104) dX8_tick_78 (by decide) ?_ ?_
  · exact r_sub [0, 1, 2, 3, 4] rfl (t_X8_tick_104 kk18 hk18 kk36 hk36 a0 a1 a2 a3 a4 ta0 h1)
  · refine r_aload_n (place := 0) dX8_tick_81 rfl rfl ?_
    refine r_iload (place := 4) dX8_tick_82 rfl ?_
    refine r_iconst dX8_tick_84 xc_2 ?_
    refine r_callVI (rest := []) dX8_tick_85 m_X8_of lk_X8_166 rfl (by decide) ta0 (c_X8_of a0 ta0 a4 (2 : Int32) h1) (by decide) rfl rfl (Nat.le_of_ble_eq_true rfl) (fun v4 h3 => ?_)
    refine r_aload_n (place := 0) dX8_tick_88 rfl rfl ?_
    refine r_getR dX8_tick_89 fg_X8_7 ta0 ?_
    refine r_iconst dX8_tick_92 xc_0 ?_
    refine r_iald dX8_tick_93 (xt_7_0 ta0) (fun v5 => ?_)
    refine r_ic_ne (tgt := 104) dX8_tick_94 (by decide) ?_ ?_
    · exact r_sub [0, 1, 2, 3, 4] rfl (t_X8_tick_104 kk18 hk18 kk36 hk36 a0 a1 a2 a3 a4 ta0 h3)
    · refine r_aload_n (place := 0) dX8_tick_97 rfl rfl ?_
      refine r_iload (place := 4) dX8_tick_98 rfl ?_
      refine r_iconst dX8_tick_100 xc_0 ?_
      refine r_callVV (rest := []) dX8_tick_101 m_X8_isNew lk_X8_254 rfl (by decide) ta0 (c_X8_isNew a0 ta0 a4 (0 : Int32) h3) (by decide) rfl rfl (Nat.le_of_ble_eq_true rfl) (fun h6 => ?_)
      exact r_sub [0, 1, 2, 3, 4] rfl (t_X8_tick_104 kk18 hk18 kk36 hk36 a0 a1 a2 a3 a4 ta0 h6)
def f_X8_tick_36 (kk18 : Nat → Int32 → Int32 → Int32 → Mem → Option (Int32 × Mem)) : Nat → Nat → Int32 → Int32 → Int32 → Int32 → Mem → Option (Int32 × Mem)
  | 0, _, _, _, _, _, _ => none
  | n + 1, a0, a1, a2, a3, a4, h =>
    if (6 : Int32) ≤ a4 then
        kk18 a0 a1 a2 (a3 + (1 : Int32)) h
    else
        b2 (f_X8_of a0 a4 (21 : Int32) h) fun v2 h1 =>
        ald h1 (xrf a0 0) (0 : Int32) fun v3 =>
        if v2 = v3 then
            b2 (f_X8_saysWill a0 a4 h1) fun v5 h4 =>
            f_X8_tick_70 kk18 (f_X8_tick_36 kk18 n) a0 a1 (a2 + (1 : Int32)) a3 a4 h4
        else
            f_X8_tick_70 kk18 (f_X8_tick_36 kk18 n) a0 a1 a2 a3 a4 h1
set_option maxRecDepth 20000 in
theorem t_X8_tick_36 {G : xG} (kk18 : Nat → Int32 → Int32 → Int32 → Mem → Option (Int32 × Mem)) (hk18 : ∀ (a0 : Nat) (a1 : Int32) (a2 : Int32) (a3 : Int32) (ta0 : xTy a0 7) (h : Mem), Rn G 9 FX8_tick xcI 18 [(0, .ref (G.1 a0)), (1, .int a1), (2, .int a2), (3, .int a3)] [] h (kk18 a0 a1 a2 a3 h)) : ∀ (n : Nat) (a0 : Nat) (a1 : Int32) (a2 : Int32) (a3 : Int32) (a4 : Int32) (ta0 : xTy a0 7) (h : Mem), Rn G 9 FX8_tick xcI 36 [(0, .ref (G.1 a0)), (1, .int a1), (2, .int a2), (3, .int a3), (4, .int a4)] [] h (f_X8_tick_36 kk18 n a0 a1 a2 a3 a4 h) := by
  intro n
  induction n with
  | zero => intros; intro r hr; cases hr
  | succ n ih =>
    intro a0 a1 a2 a3 a4 ta0 h
    unfold f_X8_tick_36
    refine r_iload (place := 4) dX8_tick_36 rfl ?_
    refine r_bipush dX8_tick_38 xb_6 ?_
    refine r_ic_ge (tgt := 110) dX8_tick_40 (by decide) ?_ ?_
    · refine r_iincC (place := 3) (ls' := [(3, .int (a3 + (1 : Int32))), (0, .ref (G.1 a0)), (1, .int a1), (2, .int a2), (4, .int a4)]) dX8_tick_110 rfl xc_1 (by decide) rfl ?_
      refine r_goto (tgt := 18) dX8_tick_113 (by decide) ?_
      exact r_sub [1, 2, 3, 0] rfl (hk18 a0 a1 a2 (a3 + (1 : Int32)) ta0 h)
    · refine r_aload_n (place := 0) dX8_tick_43 rfl rfl ?_
      refine r_iload (place := 4) dX8_tick_44 rfl ?_
      refine r_bipush dX8_tick_46 xb_21 ?_
      refine r_callVI (rest := []) dX8_tick_48 m_X8_of lk_X8_166 rfl (by decide) ta0 (c_X8_of a0 ta0 a4 (21 : Int32) h) (by decide) rfl rfl (Nat.le_of_ble_eq_true rfl) (fun v2 h1 => ?_)
      refine r_aload_n (place := 0) dX8_tick_51 rfl rfl ?_
      refine r_getR dX8_tick_52 fg_X8_7 ta0 ?_
      refine r_iconst dX8_tick_55 xc_0 ?_
      refine r_iald dX8_tick_56 (xt_7_0 ta0) (fun v3 => ?_)
      refine r_ic_ne (tgt := 70) dX8_tick_57 (by decide) ?_ ?_
      · exact r_sub [0, 1, 2, 3, 4] rfl (t_X8_tick_70 kk18 hk18 (f_X8_tick_36 kk18 n) ih a0 a1 a2 a3 a4 ta0 h1)
      · refine r_aload_n (place := 0) dX8_tick_60 rfl rfl ?_
        refine r_iload (place := 4) dX8_tick_61 rfl ?_
        refine r_callVI (rest := []) dX8_tick_63 m_X8_saysWill lk_X8_268 rfl (by decide) ta0 (c_X8_saysWill a0 ta0 a4 h1) (by decide) rfl rfl (Nat.le_of_ble_eq_true rfl) (fun v5 h4 => ?_)
        refine r_pop dX8_tick_66 rfl ?_
        refine r_iincC (place := 2) (ls' := [(2, .int (a2 + (1 : Int32))), (0, .ref (G.1 a0)), (1, .int a1), (3, .int a3), (4, .int a4)]) dX8_tick_67 rfl xc_1 (by decide) rfl ?_
        exact r_sub [1, 2, 0, 3, 4] rfl (t_X8_tick_70 kk18 hk18 (f_X8_tick_36 kk18 n) ih a0 a1 (a2 + (1 : Int32)) a3 a4 ta0 h4)
def f_X8_tick_18  : Nat → Nat → Int32 → Int32 → Int32 → Mem → Option (Int32 × Mem)
  | 0, _, _, _, _, _ => none
  | n + 1, a0, a1, a2, a3, h =>
    if a1 ≤ a3 then
        some (a2, h)
    else
        ald h (xrf a0 0) (0 : Int32) fun v1 =>
        ast h (xrf a0 0) (0 : Int32) (v1 + (1 : Int32)) fun h2 =>
        f_X8_tick_36 (f_X8_tick_18 n) xFU a0 a1 a2 a3 (0 : Int32) h2
set_option maxRecDepth 20000 in
theorem t_X8_tick_18 {G : xG}  : ∀ (n : Nat) (a0 : Nat) (a1 : Int32) (a2 : Int32) (a3 : Int32) (ta0 : xTy a0 7) (h : Mem), Rn G 9 FX8_tick xcI 18 [(0, .ref (G.1 a0)), (1, .int a1), (2, .int a2), (3, .int a3)] [] h (f_X8_tick_18 n a0 a1 a2 a3 h) := by
  intro n
  induction n with
  | zero => intros; intro r hr; cases hr
  | succ n ih =>
    intro a0 a1 a2 a3 ta0 h
    unfold f_X8_tick_18
    refine r_iload_n (place := 3) dX8_tick_18 rfl rfl ?_
    refine r_iload_n (place := 1) dX8_tick_19 rfl rfl ?_
    refine r_ic_ge (tgt := 116) dX8_tick_20 (by decide) ?_ ?_
    · refine r_iload_n (place := 2) dX8_tick_116 rfl rfl ?_
      exact r_iret dX8_tick_117 rfl
    · refine r_aload_n (place := 0) dX8_tick_23 rfl rfl ?_
      refine r_getR dX8_tick_24 fg_X8_7 ta0 ?_
      refine r_iconst dX8_tick_27 xc_0 ?_
      refine r_dup2 dX8_tick_28 rfl rfl ?_
      refine r_iald dX8_tick_29 (xt_7_0 ta0) (fun v1 => ?_)
      refine r_iconst dX8_tick_30 xc_1 ?_
      refine r_iadd dX8_tick_31 ?_
      refine r_iast dX8_tick_32 (xt_7_0 ta0) (fun h2 => ?_)
      refine r_iconst dX8_tick_33 xc_0 ?_
      refine r_istore (ls' := [(4, .int (0 : Int32)), (0, .ref (G.1 a0)), (1, .int a1), (2, .int a2), (3, .int a3)]) dX8_tick_34 (by decide) rfl ?_
      exact r_sub [1, 2, 3, 4, 0] rfl (t_X8_tick_36 (f_X8_tick_18 n) ih xFU a0 a1 a2 a3 (0 : Int32) ta0 h2)
def f_X8_tick (a0 : Nat) (a1 : Int32) (h : Mem) : Option (Int32 × Mem) :=
  b2 (f_X8_in a1.toInt64 (1 : Int64) (50 : Int64) h) fun v2 h1 =>
  if v2 = 0 then
      some ((-1 : Int32), h1)
  else
      f_X8_tick_18 xFU a0 a1 (0 : Int32) (0 : Int32) h1
set_option maxRecDepth 20000 in
theorem c_X8_tick {G : xG} (a0 : Nat) (ta0 : xTy a0 7) (a1 : Int32) (h : Mem) : Sm G 9 yX8_tick FX8_tick xcI [.ref (G.1 a0), .int a1] h (f_X8_tick a0 a1 h) := by
  refine Sm.of pn_X8 rfl (Nat.le_of_ble_eq_true rfl) (ls := [(0, .ref (G.1 a0)), (1, .int a1)]) rfl ?_
  unfold f_X8_tick
  refine r_iload_n (place := 1) dX8_tick_0 rfl rfl ?_
  refine r_i2l dX8_tick_1 ?_
  refine r_lconst dX8_tick_2 xl_1 ?_
  refine r_ldc2 dX8_tick_3 ll_X8_273 ?_
  refine r_callSI (rest := []) dX8_tick_6 m_X8_in lk_X8_59 (c_X8_in a1.toInt64 (1 : Int64) (50 : Int64) h) (by decide) rfl rfl (Nat.le_of_ble_eq_true rfl) (fun v2 h1 => ?_)
  refine r_if_ne (tgt := 14) dX8_tick_9 (by decide) ?_ ?_
  · refine r_iconst dX8_tick_14 xc_0 ?_
    refine r_istore_n (ls' := [(2, .int (0 : Int32)), (0, .ref (G.1 a0)), (1, .int a1)]) dX8_tick_15 rfl (by decide) rfl ?_
    refine r_iconst dX8_tick_16 xc_0 ?_
    refine r_istore_n (ls' := [(3, .int (0 : Int32)), (2, .int (0 : Int32)), (0, .ref (G.1 a0)), (1, .int a1)]) dX8_tick_17 rfl (by decide) rfl ?_
    exact r_sub [2, 3, 1, 0] rfl (t_X8_tick_18 xFU a0 a1 (0 : Int32) (0 : Int32) ta0 h1)
  · refine r_iconst dX8_tick_12 xc_m1 ?_
    exact r_iret dX8_tick_13 rfl
def f_X8_shares_6  : Nat → Nat → Int32 → Mem → Option (Int32 × Mem)
  | 0, _, _, _ => none
  | n + 1, a0, a1, h =>
    b2 (f_X8_nextShare a0 h) fun v2 h1 =>
    if v2 = 0 then
        some (a1, h1)
    else
        (f_X8_shares_6 n) a0 (a1 + (1 : Int32)) h1
set_option maxRecDepth 20000 in
theorem t_X8_shares_6 {G : xG}  : ∀ (n : Nat) (a0 : Nat) (a1 : Int32) (ta0 : xTy a0 7) (h : Mem), Rn G 3 FX8_shares xcI 6 [(0, .ref (G.1 a0)), (1, .int a1)] [] h (f_X8_shares_6 n a0 a1 h) := by
  intro n
  induction n with
  | zero => intros; intro r hr; cases hr
  | succ n ih =>
    intro a0 a1 ta0 h
    unfold f_X8_shares_6
    refine r_aload_n (place := 0) dX8_shares_6 rfl rfl ?_
    refine r_callVI (rest := []) dX8_shares_7 m_X8_nextShare lk_X8_227 rfl (by decide) ta0 (c_X8_nextShare a0 ta0 h) (by decide) rfl rfl (Nat.le_of_ble_eq_true rfl) (fun v2 h1 => ?_)
    refine r_if_eq (tgt := 19) dX8_shares_10 (by decide) ?_ ?_
    · refine r_iload_n (place := 1) dX8_shares_19 rfl rfl ?_
      exact r_iret dX8_shares_20 rfl
    · refine r_iincC (place := 1) (ls' := [(1, .int (a1 + (1 : Int32))), (0, .ref (G.1 a0))]) dX8_shares_13 rfl xc_1 (by decide) rfl ?_
      refine r_goto (tgt := 6) dX8_shares_16 (by decide) ?_
      exact r_sub [1, 0] rfl (ih a0 (a1 + (1 : Int32)) ta0 h1)
def f_X8_shares (a0 : Nat) (h : Mem) : Option (Int32 × Mem) :=
  b2 (f_X8_noShare a0 h) fun _ h1 =>
  f_X8_shares_6 xFU a0 (0 : Int32) h1
set_option maxRecDepth 20000 in
theorem c_X8_shares {G : xG} (a0 : Nat) (ta0 : xTy a0 7) (h : Mem) : Sm G 3 yX8_shares FX8_shares xcI [.ref (G.1 a0)] h (f_X8_shares a0 h) := by
  refine Sm.of pn_X8 rfl (Nat.le_of_ble_eq_true rfl) (ls := [(0, .ref (G.1 a0))]) rfl ?_
  unfold f_X8_shares
  refine r_iconst dX8_shares_0 xc_0 ?_
  refine r_istore_n (ls' := [(1, .int (0 : Int32)), (0, .ref (G.1 a0))]) dX8_shares_1 rfl (by decide) rfl ?_
  refine r_aload_n (place := 1) dX8_shares_2 rfl rfl ?_
  refine r_callVV (rest := []) dX8_shares_3 m_X8_noShare lk_X8_224 rfl (by decide) ta0 (c_X8_noShare a0 ta0 h) (by decide) rfl rfl (Nat.le_of_ble_eq_true rfl) (fun h1 => ?_)
  exact r_sub [1, 0] rfl (t_X8_shares_6 xFU a0 (0 : Int32) ta0 h1)
def f_X8_rule (a0 : Nat) (a1 : Int32) (h : Mem) : Option (Int32 × Mem) :=
  b2 (f_X8_in a1.toInt64 (0 : Int64) (10 : Int64) h) fun v2 h1 =>
  if v2 = 0 then
      some ((-1 : Int32), h1)
  else
      if a1 = (7 : Int32) then
          b2 (f_X8_shares a0 h1) fun v4 h3 =>
          some (v4, h3)
      else
      if a1 = (8 : Int32) then
          some ((h1 a0 5), h1)
      else
      if a1 = (9 : Int32) then
          some ((h1 a0 7), h1)
      else
      if a1 = (10 : Int32) then
          ald h1 (xrf a0 3) (0 : Int32) fun v5 =>
          b2 (f_X8_flag v5 h1) fun v7 h6 =>
          ald h6 (xrf a0 3) (1 : Int32) fun v8 =>
          b2 (f_X8_flag v8 h6) fun v10 h9 =>
          some ((v7 + v10), h9)
      else
      ald h1 (xrf a0 0) a1 fun v11 =>
      some (v11, h1)
set_option maxRecDepth 20000 in
theorem c_X8_rule {G : xG} (a0 : Nat) (ta0 : xTy a0 7) (a1 : Int32) (h : Mem) : Sm G 4 yX8_rule FX8_rule xcI [.ref (G.1 a0), .int a1] h (f_X8_rule a0 a1 h) := by
  refine Sm.of pn_X8 rfl (Nat.le_of_ble_eq_true rfl) (ls := [(0, .ref (G.1 a0)), (1, .int a1)]) rfl ?_
  unfold f_X8_rule
  refine r_iload_n (place := 1) dX8_rule_0 rfl rfl ?_
  refine r_i2l dX8_rule_1 ?_
  refine r_lconst dX8_rule_2 xl_0 ?_
  refine r_ldc2 dX8_rule_3 ll_X8_316 ?_
  refine r_callSI (rest := []) dX8_rule_6 m_X8_in lk_X8_59 (c_X8_in a1.toInt64 (0 : Int64) (10 : Int64) h) (by decide) rfl rfl (Nat.le_of_ble_eq_true rfl) (fun v2 h1 => ?_)
  refine r_if_ne (tgt := 14) dX8_rule_9 (by decide) ?_ ?_
  · refine r_iload_n (place := 1) dX8_rule_14 rfl rfl ?_
    refine r_tabI (tgt := 44) (off := 29) (7 : Int32) dX8_rule_15 (by decide +kernel) (by decide +kernel) (by decide +kernel) (by decide) ?_ (fun n15_7 => ?_)
    · refine r_aload_n (place := 0) dX8_rule_44 rfl rfl ?_
      refine r_callVI (rest := []) dX8_rule_45 m_X8_shares lk_X8_318 rfl (by decide) ta0 (c_X8_shares a0 ta0 h1) (by decide) rfl rfl (Nat.le_of_ble_eq_true rfl) (fun v4 h3 => ?_)
      exact r_iret dX8_rule_48 rfl
    refine r_tabI (tgt := 49) (off := 34) (8 : Int32) dX8_rule_15 (by decide +kernel) (by decide +kernel) (by decide +kernel) (by decide) ?_ (fun n15_8 => ?_)
    · refine r_aload_n (place := 0) dX8_rule_49 rfl rfl ?_
      refine r_getI dX8_rule_50 fg_X8_161 ta0 ?_
      exact r_iret dX8_rule_53 rfl
    refine r_tabI (tgt := 54) (off := 39) (9 : Int32) dX8_rule_15 (by decide +kernel) (by decide +kernel) (by decide +kernel) (by decide) ?_ (fun n15_9 => ?_)
    · refine r_aload_n (place := 0) dX8_rule_54 rfl rfl ?_
      refine r_getI dX8_rule_55 fg_X8_63 ta0 ?_
      exact r_iret dX8_rule_58 rfl
    refine r_tabI (tgt := 59) (off := 44) (10 : Int32) dX8_rule_15 (by decide +kernel) (by decide +kernel) (by decide +kernel) (by decide) ?_ (fun n15_10 => ?_)
    · refine r_aload_n (place := 0) dX8_rule_59 rfl rfl ?_
      refine r_getR dX8_rule_60 fg_X8_19 ta0 ?_
      refine r_iconst dX8_rule_63 xc_0 ?_
      refine r_zald dX8_rule_64 (xt_7_3 ta0) (fun v5 => ?_)
      refine r_callSI (rest := []) dX8_rule_65 m_X8_flag lk_X8_260 (c_X8_flag v5 h1) (by decide) rfl rfl (Nat.le_of_ble_eq_true rfl) (fun v7 h6 => ?_)
      refine r_aload_n (place := 0) dX8_rule_68 rfl rfl ?_
      refine r_getR dX8_rule_69 fg_X8_19 ta0 ?_
      refine r_iconst dX8_rule_72 xc_1 ?_
      refine r_zald dX8_rule_73 (xt_7_3 ta0) (fun v8 => ?_)
      refine r_callSI (rest := [.int v7]) dX8_rule_74 m_X8_flag lk_X8_260 (c_X8_flag v8 h6) (by decide) rfl rfl (Nat.le_of_ble_eq_true rfl) (fun v10 h9 => ?_)
      refine r_iadd dX8_rule_77 ?_
      exact r_iret dX8_rule_78 rfl
    have hx_15 : a1.toInt < 7 ∨ 10 < a1.toInt := by
      have z_n15_7 := lv_neT (a := 7) n15_7 (by decide +kernel)
      have z_n15_8 := lv_neT (a := 8) n15_8 (by decide +kernel)
      have z_n15_9 := lv_neT (a := 9) n15_9 (by decide +kernel)
      have z_n15_10 := lv_neT (a := 10) n15_10 (by decide +kernel)
      omega
    refine r_tabD (tgt := 79) dX8_rule_15 hx_15 (by decide) ?_
    refine r_aload_n (place := 0) dX8_rule_79 rfl rfl ?_
    refine r_getR dX8_rule_80 fg_X8_7 ta0 ?_
    refine r_iload_n (place := 1) dX8_rule_83 rfl rfl ?_
    refine r_iald dX8_rule_84 (xt_7_0 ta0) (fun v11 => ?_)
    exact r_iret dX8_rule_85 rfl
  · refine r_iconst dX8_rule_12 xc_m1 ?_
    exact r_iret dX8_rule_13 rfl
def f_X8_aliases_29 (kk4 : Nat → Int32 → Int32 → Int32 → Mem → Option (Int32 × Mem)) (a0 : Nat) (a1 : Int32) (a3 : Int32) (s0 : Int32) (s1 : Int32) (h : Mem) : Option (Int32 × Mem) :=
  b2 (f_X8_flag s1 h) fun v2 h1 =>
  kk4 a0 a1 (s0 + v2) (a3 + (1 : Int32)) h1
set_option maxRecDepth 20000 in
theorem t_X8_aliases_29 {G : xG} (kk4 : Nat → Int32 → Int32 → Int32 → Mem → Option (Int32 × Mem)) (hk4 : ∀ (a0 : Nat) (a1 : Int32) (a2 : Int32) (a3 : Int32) (ta0 : xTy a0 7) (h : Mem), Rn G 2 FX8_aliases xcI 4 [(0, .ref (G.1 a0)), (1, .int a1), (2, .int a2), (3, .int a3)] [] h (kk4 a0 a1 a2 a3 h)) (a0 : Nat) (a1 : Int32) (a3 : Int32) (s0 : Int32) (s1 : Int32) (ta0 : xTy a0 7) (h : Mem) : Rn G 2 FX8_aliases xcI 29 [(0, .ref (G.1 a0)), (1, .int a1), (3, .int a3)] [.int s1, .int s0] h (f_X8_aliases_29 kk4 a0 a1 a3 s0 s1 h) := by
  unfold f_X8_aliases_29
  refine r_callSI (rest := [.int s0]) dX8_aliases_29 m_X8_flag lk_X8_260 (c_X8_flag s1 h) (by decide) rfl rfl (Nat.le_of_ble_eq_true rfl) (fun v2 h1 => ?_)
  refine r_iadd dX8_aliases_32 ?_
  refine r_istore_n (ls' := [(2, .int (s0 + v2)), (0, .ref (G.1 a0)), (1, .int a1), (3, .int a3)]) dX8_aliases_33 rfl (by decide) rfl ?_
  refine r_iincC (place := 3) (ls' := [(3, .int (a3 + (1 : Int32))), (2, .int (s0 + v2)), (0, .ref (G.1 a0)), (1, .int a1)]) dX8_aliases_34 rfl xc_1 (by decide) rfl ?_
  refine r_goto (tgt := 4) dX8_aliases_37 (by decide) ?_
  exact r_sub [2, 3, 1, 0] rfl (hk4 a0 a1 (s0 + v2) (a3 + (1 : Int32)) ta0 h1)
def f_X8_aliases_4  : Nat → Nat → Int32 → Int32 → Int32 → Mem → Option (Int32 × Mem)
  | 0, _, _, _, _, _ => none
  | n + 1, a0, a1, a2, a3, h =>
    if (4 : Int32) ≤ a3 then
        some (a2, h)
    else
        b2 (f_X8_of a0 a1 ((29 : Int32) + ((4 : Int32) * a3)) h) fun v2 h1 =>
        if v2 ≤ 0 then
            f_X8_aliases_29 (f_X8_aliases_4 n) a0 a1 a3 a2 (0 : Int32) h1
        else
            f_X8_aliases_29 (f_X8_aliases_4 n) a0 a1 a3 a2 (1 : Int32) h1
set_option maxRecDepth 20000 in
theorem t_X8_aliases_4 {G : xG}  : ∀ (n : Nat) (a0 : Nat) (a1 : Int32) (a2 : Int32) (a3 : Int32) (ta0 : xTy a0 7) (h : Mem), Rn G 2 FX8_aliases xcI 4 [(0, .ref (G.1 a0)), (1, .int a1), (2, .int a2), (3, .int a3)] [] h (f_X8_aliases_4 n a0 a1 a2 a3 h) := by
  intro n
  induction n with
  | zero => intros; intro r hr; cases hr
  | succ n ih =>
    intro a0 a1 a2 a3 ta0 h
    unfold f_X8_aliases_4
    refine r_iload_n (place := 3) dX8_aliases_4 rfl rfl ?_
    refine r_iconst dX8_aliases_5 xc_4 ?_
    refine r_ic_ge (tgt := 40) dX8_aliases_6 (by decide) ?_ ?_
    · refine r_iload_n (place := 2) dX8_aliases_40 rfl rfl ?_
      exact r_iret dX8_aliases_41 rfl
    · refine r_iload_n (place := 2) dX8_aliases_9 rfl rfl ?_
      refine r_aload_n (place := 0) dX8_aliases_10 rfl rfl ?_
      refine r_iload_n (place := 1) dX8_aliases_11 rfl rfl ?_
      refine r_bipush dX8_aliases_12 xb_29 ?_
      refine r_iconst dX8_aliases_14 xc_4 ?_
      refine r_iload_n (place := 3) dX8_aliases_15 rfl rfl ?_
      refine r_imul dX8_aliases_16 ?_
      refine r_iadd dX8_aliases_17 ?_
      refine r_callVI (rest := [.int a2]) dX8_aliases_18 m_X8_of lk_X8_166 rfl (by decide) ta0 (c_X8_of a0 ta0 a1 ((29 : Int32) + ((4 : Int32) * a3)) h) (by decide) rfl rfl (Nat.le_of_ble_eq_true rfl) (fun v2 h1 => ?_)
      refine r_if_le (tgt := 28) dX8_aliases_21 (by decide) ?_ ?_
      · refine r_iconst dX8_aliases_28 xc_0 ?_
        exact r_sub [0, 1, 3] rfl (t_X8_aliases_29 (f_X8_aliases_4 n) ih a0 a1 a3 a2 (0 : Int32) ta0 h1)
      · refine r_iconst dX8_aliases_24 xc_1 ?_
        refine r_goto (tgt := 29) dX8_aliases_25 (by decide) ?_
        exact r_sub [0, 1, 3] rfl (t_X8_aliases_29 (f_X8_aliases_4 n) ih a0 a1 a3 a2 (1 : Int32) ta0 h1)
def f_X8_aliases (a0 : Nat) (a1 : Int32) (h : Mem) : Option (Int32 × Mem) :=
  f_X8_aliases_4 xFU a0 a1 (0 : Int32) (0 : Int32) h
set_option maxRecDepth 20000 in
theorem c_X8_aliases {G : xG} (a0 : Nat) (ta0 : xTy a0 7) (a1 : Int32) (h : Mem) : Sm G 2 yX8_aliases FX8_aliases xcI [.ref (G.1 a0), .int a1] h (f_X8_aliases a0 a1 h) := by
  refine Sm.of pn_X8 rfl (Nat.le_of_ble_eq_true rfl) (ls := [(0, .ref (G.1 a0)), (1, .int a1)]) rfl ?_
  unfold f_X8_aliases
  refine r_iconst dX8_aliases_0 xc_0 ?_
  refine r_istore_n (ls' := [(2, .int (0 : Int32)), (0, .ref (G.1 a0)), (1, .int a1)]) dX8_aliases_1 rfl (by decide) rfl ?_
  refine r_iconst dX8_aliases_2 xc_0 ?_
  refine r_istore_n (ls' := [(3, .int (0 : Int32)), (2, .int (0 : Int32)), (0, .ref (G.1 a0)), (1, .int a1)]) dX8_aliases_3 rfl (by decide) rfl ?_
  exact r_sub [2, 3, 1, 0] rfl (t_X8_aliases_4 xFU a0 a1 (0 : Int32) (0 : Int32) ta0 h)
def f_X8_client_154  (a0 : Nat) (a1 : Int32) (a2 : Int32) (h : Mem) : Option (Int32 × Mem) :=
  b2 (f_X8_of a0 a1 a2 h) fun v2 h1 =>
  some (v2, h1)
set_option maxRecDepth 20000 in
theorem t_X8_client_154 {G : xG}  (a0 : Nat) (a1 : Int32) (a2 : Int32) (ta0 : xTy a0 7) (h : Mem) : Rn G 3 FX8_client xcI 154 [(0, .ref (G.1 a0)), (1, .int a1), (2, .int a2)] [] h (f_X8_client_154 a0 a1 a2 h) := by
  unfold f_X8_client_154
  refine r_aload_n (place := 0) dX8_client_154 rfl rfl ?_
  refine r_iload_n (place := 1) dX8_client_155 rfl rfl ?_
  refine r_iload_n (place := 2) dX8_client_156 rfl rfl ?_
  refine r_callVI (rest := []) dX8_client_157 m_X8_of lk_X8_166 rfl (by decide) ta0 (c_X8_of a0 ta0 a1 a2 h) (by decide) rfl rfl (Nat.le_of_ble_eq_true rfl) (fun v2 h1 => ?_)
  exact r_iret dX8_client_160 rfl
def f_X8_client_45  (a0 : Nat) (a1 : Int32) (a2 : Int32) (h : Mem) : Option (Int32 × Mem) :=
  if a2 = (2 : Int32) then
      b2 (f_X8_isAwake a0 a1 h) fun v2 h1 =>
      if v2 = 0 then
          b2 (f_X8_of a0 a1 (2 : Int32) h1) fun v4 h3 =>
          some (v4, h3)
      else
          some ((-4 : Int32), h1)
  else
  if a2 = (3 : Int32) then
      f_X8_client_154 a0 a1 a2 h
  else
  if a2 = (4 : Int32) then
      f_X8_client_154 a0 a1 a2 h
  else
  if a2 = (5 : Int32) then
      f_X8_client_154 a0 a1 a2 h
  else
  if a2 = (6 : Int32) then
      f_X8_client_154 a0 a1 a2 h
  else
  if a2 = (7 : Int32) then
      f_X8_client_154 a0 a1 a2 h
  else
  if a2 = (8 : Int32) then
      f_X8_client_154 a0 a1 a2 h
  else
  if a2 = (9 : Int32) then
      b2 (f_X8_aliases a0 a1 h) fun v6 h5 =>
      some (v6, h5)
  else
  if a2 = (10 : Int32) then
      b2 (f_X8_of a0 a1 (12 : Int32) h) fun v8 h7 =>
      some (v8, h7)
  else
  if a2 = (11 : Int32) then
      b2 (f_X8_of a0 a1 (21 : Int32) h) fun v10 h9 =>
      some (v10, h9)
  else
  if a2 = (12 : Int32) then
      b2 (f_X8_of a0 a1 (10 : Int32) h) fun v12 h11 =>
      some (v12, h11)
  else
  f_X8_client_154 a0 a1 a2 h
set_option maxRecDepth 20000 in
theorem t_X8_client_45 {G : xG}  (a0 : Nat) (a1 : Int32) (a2 : Int32) (ta0 : xTy a0 7) (h : Mem) : Rn G 3 FX8_client xcI 45 [(0, .ref (G.1 a0)), (1, .int a1), (2, .int a2)] [] h (f_X8_client_45 a0 a1 a2 h) := by
  unfold f_X8_client_45
  refine r_iload_n (place := 2) dX8_client_45 rfl rfl ?_
  refine r_tabI (tgt := 104) (off := 58) (2 : Int32) dX8_client_46 (by decide +kernel) (by decide +kernel) (by decide +kernel) (by decide) ?_ (fun n46_2 => ?_)
  · refine r_aload_n (place := 0) dX8_client_104 rfl rfl ?_
    refine r_iload_n (place := 1) dX8_client_105 rfl rfl ?_
    refine r_callVI (rest := []) dX8_client_106 m_X8_isAwake lk_X8_177 rfl (by decide) ta0 (c_X8_isAwake a0 ta0 a1 h) (by decide) rfl rfl (Nat.le_of_ble_eq_true rfl) (fun v2 h1 => ?_)
    refine r_if_eq (tgt := 117) dX8_client_109 (by decide) ?_ ?_
    · refine r_aload_n (place := 0) dX8_client_117 rfl rfl ?_
      refine r_iload_n (place := 1) dX8_client_118 rfl rfl ?_
      refine r_iconst dX8_client_119 xc_2 ?_
      refine r_callVI (rest := []) dX8_client_120 m_X8_of lk_X8_166 rfl (by decide) ta0 (c_X8_of a0 ta0 a1 (2 : Int32) h1) (by decide) rfl rfl (Nat.le_of_ble_eq_true rfl) (fun v4 h3 => ?_)
      exact r_iret dX8_client_123 rfl
    · refine r_bipush dX8_client_112 xb_m4 ?_
      refine r_goto (tgt := 123) dX8_client_114 (by decide) ?_
      exact r_iret dX8_client_123 rfl
  refine r_tabI (tgt := 154) (off := 108) (3 : Int32) dX8_client_46 (by decide +kernel) (by decide +kernel) (by decide +kernel) (by decide) ?_ (fun n46_3 => ?_)
  · exact r_sub [0, 1, 2] rfl (t_X8_client_154 a0 a1 a2 ta0 h)
  refine r_tabI (tgt := 154) (off := 108) (4 : Int32) dX8_client_46 (by decide +kernel) (by decide +kernel) (by decide +kernel) (by decide) ?_ (fun n46_4 => ?_)
  · exact r_sub [0, 1, 2] rfl (t_X8_client_154 a0 a1 a2 ta0 h)
  refine r_tabI (tgt := 154) (off := 108) (5 : Int32) dX8_client_46 (by decide +kernel) (by decide +kernel) (by decide +kernel) (by decide) ?_ (fun n46_5 => ?_)
  · exact r_sub [0, 1, 2] rfl (t_X8_client_154 a0 a1 a2 ta0 h)
  refine r_tabI (tgt := 154) (off := 108) (6 : Int32) dX8_client_46 (by decide +kernel) (by decide +kernel) (by decide +kernel) (by decide) ?_ (fun n46_6 => ?_)
  · exact r_sub [0, 1, 2] rfl (t_X8_client_154 a0 a1 a2 ta0 h)
  refine r_tabI (tgt := 154) (off := 108) (7 : Int32) dX8_client_46 (by decide +kernel) (by decide +kernel) (by decide +kernel) (by decide) ?_ (fun n46_7 => ?_)
  · exact r_sub [0, 1, 2] rfl (t_X8_client_154 a0 a1 a2 ta0 h)
  refine r_tabI (tgt := 154) (off := 108) (8 : Int32) dX8_client_46 (by decide +kernel) (by decide +kernel) (by decide +kernel) (by decide) ?_ (fun n46_8 => ?_)
  · exact r_sub [0, 1, 2] rfl (t_X8_client_154 a0 a1 a2 ta0 h)
  refine r_tabI (tgt := 124) (off := 78) (9 : Int32) dX8_client_46 (by decide +kernel) (by decide +kernel) (by decide +kernel) (by decide) ?_ (fun n46_9 => ?_)
  · refine r_aload_n (place := 0) dX8_client_124 rfl rfl ?_
    refine r_iload_n (place := 1) dX8_client_125 rfl rfl ?_
    refine r_callVI (rest := []) dX8_client_126 m_X8_aliases lk_X8_323 rfl (by decide) ta0 (c_X8_aliases a0 ta0 a1 h) (by decide) rfl rfl (Nat.le_of_ble_eq_true rfl) (fun v6 h5 => ?_)
    exact r_iret dX8_client_129 rfl
  refine r_tabI (tgt := 130) (off := 84) (10 : Int32) dX8_client_46 (by decide +kernel) (by decide +kernel) (by decide +kernel) (by decide) ?_ (fun n46_10 => ?_)
  · refine r_aload_n (place := 0) dX8_client_130 rfl rfl ?_
    refine r_iload_n (place := 1) dX8_client_131 rfl rfl ?_
    refine r_bipush dX8_client_132 xb_12 ?_
    refine r_callVI (rest := []) dX8_client_134 m_X8_of lk_X8_166 rfl (by decide) ta0 (c_X8_of a0 ta0 a1 (12 : Int32) h) (by decide) rfl rfl (Nat.le_of_ble_eq_true rfl) (fun v8 h7 => ?_)
    exact r_iret dX8_client_137 rfl
  refine r_tabI (tgt := 138) (off := 92) (11 : Int32) dX8_client_46 (by decide +kernel) (by decide +kernel) (by decide +kernel) (by decide) ?_ (fun n46_11 => ?_)
  · refine r_aload_n (place := 0) dX8_client_138 rfl rfl ?_
    refine r_iload_n (place := 1) dX8_client_139 rfl rfl ?_
    refine r_bipush dX8_client_140 xb_21 ?_
    refine r_callVI (rest := []) dX8_client_142 m_X8_of lk_X8_166 rfl (by decide) ta0 (c_X8_of a0 ta0 a1 (21 : Int32) h) (by decide) rfl rfl (Nat.le_of_ble_eq_true rfl) (fun v10 h9 => ?_)
    exact r_iret dX8_client_145 rfl
  refine r_tabI (tgt := 146) (off := 100) (12 : Int32) dX8_client_46 (by decide +kernel) (by decide +kernel) (by decide +kernel) (by decide) ?_ (fun n46_12 => ?_)
  · refine r_aload_n (place := 0) dX8_client_146 rfl rfl ?_
    refine r_iload_n (place := 1) dX8_client_147 rfl rfl ?_
    refine r_bipush dX8_client_148 xb_10 ?_
    refine r_callVI (rest := []) dX8_client_150 m_X8_of lk_X8_166 rfl (by decide) ta0 (c_X8_of a0 ta0 a1 (10 : Int32) h) (by decide) rfl rfl (Nat.le_of_ble_eq_true rfl) (fun v12 h11 => ?_)
    exact r_iret dX8_client_153 rfl
  have hx_46 : a2.toInt < 2 ∨ 12 < a2.toInt := by
    have z_n46_2 := lv_neT (a := 2) n46_2 (by decide +kernel)
    have z_n46_3 := lv_neT (a := 3) n46_3 (by decide +kernel)
    have z_n46_4 := lv_neT (a := 4) n46_4 (by decide +kernel)
    have z_n46_5 := lv_neT (a := 5) n46_5 (by decide +kernel)
    have z_n46_6 := lv_neT (a := 6) n46_6 (by decide +kernel)
    have z_n46_7 := lv_neT (a := 7) n46_7 (by decide +kernel)
    have z_n46_8 := lv_neT (a := 8) n46_8 (by decide +kernel)
    have z_n46_9 := lv_neT (a := 9) n46_9 (by decide +kernel)
    have z_n46_10 := lv_neT (a := 10) n46_10 (by decide +kernel)
    have z_n46_11 := lv_neT (a := 11) n46_11 (by decide +kernel)
    have z_n46_12 := lv_neT (a := 12) n46_12 (by decide +kernel)
    omega
  refine r_tabD (tgt := 154) dX8_client_46 hx_46 (by decide) ?_
  exact r_sub [0, 1, 2] rfl (t_X8_client_154 a0 a1 a2 ta0 h)
def f_X8_client (a0 : Nat) (a1 : Int32) (a2 : Int32) (h : Mem) : Option (Int32 × Mem) :=
  b2 (f_X8_isClient a1 h) fun v2 h1 =>
  if v2 = 0 then
      some ((-1 : Int32), h1)
  else
      b2 (f_X8_in a2.toInt64 (0 : Int64) (12 : Int64) h1) fun v4 h3 =>
      if v4 = 0 then
          some ((-1 : Int32), h3)
      else
          b2 (f_X8_in a2.toInt64 (1 : Int64) (10 : Int64) h3) fun v6 h5 =>
          if v6 = 0 then
              f_X8_client_45 a0 a1 a2 h5
          else
              b2 (f_X8_of a0 a1 (0 : Int32) h5) fun v8 h7 =>
              if v8 = 0 then
                  some ((-4 : Int32), h7)
              else
                  f_X8_client_45 a0 a1 a2 h7
set_option maxRecDepth 20000 in
theorem c_X8_client {G : xG} (a0 : Nat) (ta0 : xTy a0 7) (a1 : Int32) (a2 : Int32) (h : Mem) : Sm G 3 yX8_client FX8_client xcI [.ref (G.1 a0), .int a1, .int a2] h (f_X8_client a0 a1 a2 h) := by
  refine Sm.of pn_X8 rfl (Nat.le_of_ble_eq_true rfl) (ls := [(0, .ref (G.1 a0)), (1, .int a1), (2, .int a2)]) rfl ?_
  unfold f_X8_client
  refine r_iload_n (place := 1) dX8_client_0 rfl rfl ?_
  refine r_callSI (rest := []) dX8_client_1 m_X8_isClient lk_X8_249 (c_X8_isClient a1 h) (by decide) rfl rfl (Nat.le_of_ble_eq_true rfl) (fun v2 h1 => ?_)
  refine r_if_eq (tgt := 19) dX8_client_4 (by decide) ?_ ?_
  · refine r_iconst dX8_client_19 xc_m1 ?_
    exact r_iret dX8_client_20 rfl
  · refine r_iload_n (place := 2) dX8_client_7 rfl rfl ?_
    refine r_i2l dX8_client_8 ?_
    refine r_lconst dX8_client_9 xl_0 ?_
    refine r_ldc2 dX8_client_10 ll_X8_321 ?_
    refine r_callSI (rest := []) dX8_client_13 m_X8_in lk_X8_59 (c_X8_in a2.toInt64 (0 : Int64) (12 : Int64) h1) (by decide) rfl rfl (Nat.le_of_ble_eq_true rfl) (fun v4 h3 => ?_)
    refine r_if_ne (tgt := 21) dX8_client_16 (by decide) ?_ ?_
    · refine r_iload_n (place := 2) dX8_client_21 rfl rfl ?_
      refine r_i2l dX8_client_22 ?_
      refine r_lconst dX8_client_23 xl_1 ?_
      refine r_ldc2 dX8_client_24 ll_X8_316 ?_
      refine r_callSI (rest := []) dX8_client_27 m_X8_in lk_X8_59 (c_X8_in a2.toInt64 (1 : Int64) (10 : Int64) h3) (by decide) rfl rfl (Nat.le_of_ble_eq_true rfl) (fun v6 h5 => ?_)
      refine r_if_eq (tgt := 45) dX8_client_30 (by decide) ?_ ?_
      · exact r_sub [0, 1, 2] rfl (t_X8_client_45 a0 a1 a2 ta0 h5)
      · refine r_aload_n (place := 0) dX8_client_33 rfl rfl ?_
        refine r_iload_n (place := 1) dX8_client_34 rfl rfl ?_
        refine r_iconst dX8_client_35 xc_0 ?_
        refine r_callVI (rest := []) dX8_client_36 m_X8_of lk_X8_166 rfl (by decide) ta0 (c_X8_of a0 ta0 a1 (0 : Int32) h5) (by decide) rfl rfl (Nat.le_of_ble_eq_true rfl) (fun v8 h7 => ?_)
        refine r_if_ne (tgt := 45) dX8_client_39 (by decide) ?_ ?_
        · exact r_sub [0, 1, 2] rfl (t_X8_client_45 a0 a1 a2 ta0 h7)
        · refine r_bipush dX8_client_42 xb_m4 ?_
          exact r_iret dX8_client_44 rfl
    · refine r_iconst dX8_client_19 xc_m1 ?_
      exact r_iret dX8_client_20 rfl
def f_X8_levelsOf_2  : Nat → Nat → Int32 → Int32 → Mem → Option (Int32 × Mem)
  | 0, _, _, _, _ => none
  | n + 1, a0, a1, a2, h =>
    if (4 : Int32) ≤ a2 then
        some (a2, h)
    else
        ald h a0 (a1 + a2) fun v1 =>
        if v1 ≤ 0 then
            some (a2, h)
        else
            (f_X8_levelsOf_2 n) a0 a1 (a2 + (1 : Int32)) h
set_option maxRecDepth 20000 in
theorem t_X8_levelsOf_2 {G : xG}  : ∀ (n : Nat) (a0 : Nat) (a1 : Int32) (a2 : Int32) (ta0 : xTy a0 8) (h : Mem), Rn G 0 FX8_levelsOf xcI 2 [(0, .ref (G.1 a0)), (1, .int a1), (2, .int a2)] [] h (f_X8_levelsOf_2 n a0 a1 a2 h) := by
  intro n
  induction n with
  | zero => intros; intro r hr; cases hr
  | succ n ih =>
    intro a0 a1 a2 ta0 h
    unfold f_X8_levelsOf_2
    refine r_iload_n (place := 2) dX8_levelsOf_2 rfl rfl ?_
    refine r_iconst dX8_levelsOf_3 xc_4 ?_
    refine r_ic_ge (tgt := 21) dX8_levelsOf_4 (by decide) ?_ ?_
    · refine r_iload_n (place := 2) dX8_levelsOf_21 rfl rfl ?_
      exact r_iret dX8_levelsOf_22 rfl
    · refine r_aload_n (place := 0) dX8_levelsOf_7 rfl rfl ?_
      refine r_iload_n (place := 1) dX8_levelsOf_8 rfl rfl ?_
      refine r_iload_n (place := 2) dX8_levelsOf_9 rfl rfl ?_
      refine r_iadd dX8_levelsOf_10 ?_
      refine r_iald dX8_levelsOf_11 ta0 (fun v1 => ?_)
      refine r_if_le (tgt := 21) dX8_levelsOf_12 (by decide) ?_ ?_
      · refine r_iload_n (place := 2) dX8_levelsOf_21 rfl rfl ?_
        exact r_iret dX8_levelsOf_22 rfl
      · refine r_iincC (place := 2) (ls' := [(2, .int (a2 + (1 : Int32))), (0, .ref (G.1 a0)), (1, .int a1)]) dX8_levelsOf_15 rfl xc_1 (by decide) rfl ?_
        refine r_goto (tgt := 2) dX8_levelsOf_18 (by decide) ?_
        exact r_sub [1, 2, 0] rfl (ih a0 a1 (a2 + (1 : Int32)) ta0 h)
def f_X8_levelsOf (a0 : Nat) (a1 : Int32) (h : Mem) : Option (Int32 × Mem) :=
  f_X8_levelsOf_2 xFU a0 a1 (0 : Int32) h
set_option maxRecDepth 20000 in
theorem c_X8_levelsOf {G : xG} (a0 : Nat) (ta0 : xTy a0 8) (a1 : Int32) (h : Mem) : Sm G 0 yX8_levelsOf FX8_levelsOf xcI [.ref (G.1 a0), .int a1] h (f_X8_levelsOf a0 a1 h) := by
  refine Sm.of pn_X8 rfl (Nat.le_of_ble_eq_true rfl) (ls := [(0, .ref (G.1 a0)), (1, .int a1)]) rfl ?_
  unfold f_X8_levelsOf
  refine r_iconst dX8_levelsOf_0 xc_0 ?_
  refine r_istore_n (ls' := [(2, .int (0 : Int32)), (0, .ref (G.1 a0)), (1, .int a1)]) dX8_levelsOf_1 rfl (by decide) rfl ?_
  exact r_sub [1, 2, 0] rfl (t_X8_levelsOf_2 xFU a0 a1 (0 : Int32) ta0 h)
def f_X8_subscription_102  (a0 : Nat) (a3 : Int32) (a4 : Int32) (h : Mem) : Option (Int32 × Mem) :=
  ald h (xrf a0 0) ((a4 + (3 : Int32)) + a3) fun v1 =>
  some (v1, h)
set_option maxRecDepth 20000 in
theorem t_X8_subscription_102 {G : xG}  (a0 : Nat) (a3 : Int32) (a4 : Int32) (ta0 : xTy a0 7) (h : Mem) : Rn G 2 FX8_subscription xcI 102 [(0, .ref (G.1 a0)), (3, .int a3), (4, .int a4)] [] h (f_X8_subscription_102 a0 a3 a4 h) := by
  unfold f_X8_subscription_102
  refine r_aload_n (place := 0) dX8_subscription_102 rfl rfl ?_
  refine r_getR dX8_subscription_103 fg_X8_7 ta0 ?_
  refine r_iload (place := 2) dX8_subscription_106 rfl ?_
  refine r_iconst dX8_subscription_108 xc_3 ?_
  refine r_iadd dX8_subscription_109 ?_
  refine r_iload_n (place := 1) dX8_subscription_110 rfl rfl ?_
  refine r_iadd dX8_subscription_111 ?_
  refine r_iald dX8_subscription_112 (xt_7_0 ta0) (fun v1 => ?_)
  exact r_iret dX8_subscription_113 rfl
def f_X8_subscription (a0 : Nat) (a1 : Int32) (a2 : Int32) (a3 : Int32) (h : Mem) : Option (Int32 × Mem) :=
  b2 (f_X8_isClient a1 h) fun v2 h1 =>
  if v2 = 0 then
      some ((-1 : Int32), h1)
  else
      if a2 < 0 then
          some ((-1 : Int32), h1)
      else
          b2 (f_X8_in a3.toInt64 (0 : Int64) (7 : Int64) h1) fun v4 h3 =>
          if v4 = 0 then
              some ((-1 : Int32), h3)
          else
              b2 (f_X8_of a0 a1 (0 : Int32) h3) fun v6 h5 =>
              if v6 = 0 then
                  some ((-4 : Int32), h5)
              else
                  b2 (f_X8_of a0 a1 (3 : Int32) h5) fun v8 h7 =>
                  if a2 < v8 then
                      b2 (f_X8_at a1 ((45 : Int32) + ((6 : Int32) * a2)) h7) fun v10 h9 =>
                      if a3 = (0 : Int32) then
                          b2 (f_X8_levelsOf (xrf a0 0) v10 h9) fun v12 h11 =>
                          some (v12, h11)
                      else
                      if a3 = (1 : Int32) then
                          f_X8_subscription_102 a0 a3 v10 h9
                      else
                      if a3 = (2 : Int32) then
                          f_X8_subscription_102 a0 a3 v10 h9
                      else
                      if a3 = (3 : Int32) then
                          b2 (f_X8_isTopic a0 h9) fun v14 h13 =>
                          if v14 = 0 then
                              some ((-4 : Int32), h13)
                          else
                              b2 (f_X8_isMatching a0 v10 (xrf a0 4) h13) fun v16 h15 =>
                              b2 (f_X8_flag v16 h15) fun v18 h17 =>
                              some (v18, h17)
                      else
                      ald h9 (xrf a0 0) ((v10 + a3) - (4 : Int32)) fun v19 =>
                      some (v19, h9)
                  else
                      some ((-4 : Int32), h7)
set_option maxRecDepth 20000 in
theorem c_X8_subscription {G : xG} (a0 : Nat) (ta0 : xTy a0 7) (a1 : Int32) (a2 : Int32) (a3 : Int32) (h : Mem) : Sm G 2 yX8_subscription FX8_subscription xcI [.ref (G.1 a0), .int a1, .int a2, .int a3] h (f_X8_subscription a0 a1 a2 a3 h) := by
  refine Sm.of pn_X8 rfl (Nat.le_of_ble_eq_true rfl) (ls := [(0, .ref (G.1 a0)), (1, .int a1), (2, .int a2), (3, .int a3)]) rfl ?_
  unfold f_X8_subscription
  refine r_iload_n (place := 1) dX8_subscription_0 rfl rfl ?_
  refine r_callSI (rest := []) dX8_subscription_1 m_X8_isClient lk_X8_249 (c_X8_isClient a1 h) (by decide) rfl rfl (Nat.le_of_ble_eq_true rfl) (fun v2 h1 => ?_)
  refine r_if_eq (tgt := 23) dX8_subscription_4 (by decide) ?_ ?_
  · refine r_iconst dX8_subscription_23 xc_m1 ?_
    exact r_iret dX8_subscription_24 rfl
  · refine r_iload_n (place := 2) dX8_subscription_7 rfl rfl ?_
    refine r_if_lt (tgt := 23) dX8_subscription_8 (by decide) ?_ ?_
    · refine r_iconst dX8_subscription_23 xc_m1 ?_
      exact r_iret dX8_subscription_24 rfl
    · refine r_iload_n (place := 3) dX8_subscription_11 rfl rfl ?_
      refine r_i2l dX8_subscription_12 ?_
      refine r_lconst dX8_subscription_13 xl_0 ?_
      refine r_ldc2 dX8_subscription_14 ll_X8_326 ?_
      refine r_callSI (rest := []) dX8_subscription_17 m_X8_in lk_X8_59 (c_X8_in a3.toInt64 (0 : Int64) (7 : Int64) h1) (by decide) rfl rfl (Nat.le_of_ble_eq_true rfl) (fun v4 h3 => ?_)
      refine r_if_ne (tgt := 25) dX8_subscription_20 (by decide) ?_ ?_
      · refine r_aload_n (place := 0) dX8_subscription_25 rfl rfl ?_
        refine r_iload_n (place := 1) dX8_subscription_26 rfl rfl ?_
        refine r_iconst dX8_subscription_27 xc_0 ?_
        refine r_callVI (rest := []) dX8_subscription_28 m_X8_of lk_X8_166 rfl (by decide) ta0 (c_X8_of a0 ta0 a1 (0 : Int32) h3) (by decide) rfl rfl (Nat.le_of_ble_eq_true rfl) (fun v6 h5 => ?_)
        refine r_if_eq (tgt := 44) dX8_subscription_31 (by decide) ?_ ?_
        · refine r_bipush dX8_subscription_44 xb_m4 ?_
          exact r_iret dX8_subscription_46 rfl
        · refine r_iload_n (place := 2) dX8_subscription_34 rfl rfl ?_
          refine r_aload_n (place := 0) dX8_subscription_35 rfl rfl ?_
          refine r_iload_n (place := 1) dX8_subscription_36 rfl rfl ?_
          refine r_iconst dX8_subscription_37 xc_3 ?_
          refine r_callVI (rest := [.int a2]) dX8_subscription_38 m_X8_of lk_X8_166 rfl (by decide) ta0 (c_X8_of a0 ta0 a1 (3 : Int32) h5) (by decide) rfl rfl (Nat.le_of_ble_eq_true rfl) (fun v8 h7 => ?_)
          refine r_ic_lt (tgt := 47) dX8_subscription_41 (by decide) ?_ ?_
          · refine r_iload_n (place := 1) dX8_subscription_47 rfl rfl ?_
            refine r_bipush dX8_subscription_48 xb_45 ?_
            refine r_bipush dX8_subscription_50 xb_6 ?_
            refine r_iload_n (place := 2) dX8_subscription_52 rfl rfl ?_
            refine r_imul dX8_subscription_53 ?_
            refine r_iadd dX8_subscription_54 ?_
            refine r_callSI (rest := []) dX8_subscription_55 m_X8_at lk_X8_115 (c_X8_at a1 ((45 : Int32) + ((6 : Int32) * a2)) h7) (by decide) rfl rfl (Nat.le_of_ble_eq_true rfl) (fun v10 h9 => ?_)
            refine r_istore (ls' := [(4, .int v10), (0, .ref (G.1 a0)), (1, .int a1), (2, .int a2), (3, .int a3)]) dX8_subscription_58 (by decide) rfl ?_
            refine r_iload_n (place := 4) dX8_subscription_60 rfl rfl ?_
            refine r_tabI (tgt := 92) (off := 31) (0 : Int32) dX8_subscription_61 (by decide +kernel) (by decide +kernel) (by decide +kernel) (by decide) ?_ (fun n61_0 => ?_)
            · refine r_aload_n (place := 1) dX8_subscription_92 rfl rfl ?_
              refine r_getR dX8_subscription_93 fg_X8_7 ta0 ?_
              refine r_iload (place := 0) dX8_subscription_96 rfl ?_
              refine r_callSI (rest := []) dX8_subscription_98 m_X8_levelsOf lk_X8_328 (c_X8_levelsOf (xrf a0 0) (xt_7_0 ta0) v10 h9) (by decide) rfl rfl (Nat.le_of_ble_eq_true rfl) (fun v12 h11 => ?_)
              exact r_iret dX8_subscription_101 rfl
            refine r_tabI (tgt := 102) (off := 41) (1 : Int32) dX8_subscription_61 (by decide +kernel) (by decide +kernel) (by decide +kernel) (by decide) ?_ (fun n61_1 => ?_)
            · exact r_sub [1, 4, 0] rfl (t_X8_subscription_102 a0 a3 v10 ta0 h9)
            refine r_tabI (tgt := 102) (off := 41) (2 : Int32) dX8_subscription_61 (by decide +kernel) (by decide +kernel) (by decide +kernel) (by decide) ?_ (fun n61_2 => ?_)
            · exact r_sub [1, 4, 0] rfl (t_X8_subscription_102 a0 a3 v10 ta0 h9)
            refine r_tabI (tgt := 114) (off := 53) (3 : Int32) dX8_subscription_61 (by decide +kernel) (by decide +kernel) (by decide +kernel) (by decide) ?_ (fun n61_3 => ?_)
            · refine r_aload_n (place := 1) dX8_subscription_114 rfl rfl ?_
              refine r_callVI (rest := []) dX8_subscription_115 m_X8_isTopic lk_X8_275 rfl (by decide) ta0 (c_X8_isTopic a0 ta0 h9) (by decide) rfl rfl (Nat.le_of_ble_eq_true rfl) (fun v14 h13 => ?_)
              refine r_if_eq (tgt := 137) dX8_subscription_118 (by decide) ?_ ?_
              · refine r_bipush dX8_subscription_137 xb_m4 ?_
                exact r_iret dX8_subscription_139 rfl
              · refine r_aload_n (place := 1) dX8_subscription_121 rfl rfl ?_
                refine r_iload (place := 0) dX8_subscription_122 rfl ?_
                refine r_aload_n (place := 1) dX8_subscription_124 rfl rfl ?_
                refine r_getR dX8_subscription_125 fg_X8_23 ta0 ?_
                refine r_callVI (rest := []) dX8_subscription_128 m_X8_isMatching lk_X8_184 rfl (by decide) ta0 (c_X8_isMatching a0 ta0 v10 (xrf a0 4) (xt_7_4 ta0) h13) (by decide) rfl rfl (Nat.le_of_ble_eq_true rfl) (fun v16 h15 => ?_)
                refine r_callSI (rest := []) dX8_subscription_131 m_X8_flag lk_X8_260 (c_X8_flag v16 h15) (by decide) rfl rfl (Nat.le_of_ble_eq_true rfl) (fun v18 h17 => ?_)
                refine r_goto (tgt := 139) dX8_subscription_134 (by decide) ?_
                exact r_iret dX8_subscription_139 rfl
            have hx_61 : a3.toInt < 0 ∨ 3 < a3.toInt := by
              have z_n61_0 := lv_neT (a := 0) n61_0 (by decide +kernel)
              have z_n61_1 := lv_neT (a := 1) n61_1 (by decide +kernel)
              have z_n61_2 := lv_neT (a := 2) n61_2 (by decide +kernel)
              have z_n61_3 := lv_neT (a := 3) n61_3 (by decide +kernel)
              omega
            refine r_tabD (tgt := 140) dX8_subscription_61 hx_61 (by decide) ?_
            refine r_aload_n (place := 1) dX8_subscription_140 rfl rfl ?_
            refine r_getR dX8_subscription_141 fg_X8_7 ta0 ?_
            refine r_iload (place := 0) dX8_subscription_144 rfl ?_
            refine r_iload_n (place := 4) dX8_subscription_146 rfl rfl ?_
            refine r_iadd dX8_subscription_147 ?_
            refine r_iconst dX8_subscription_148 xc_4 ?_
            refine r_isub dX8_subscription_149 ?_
            refine r_iald dX8_subscription_150 (xt_7_0 ta0) (fun v19 => ?_)
            exact r_iret dX8_subscription_151 rfl
          · refine r_bipush dX8_subscription_44 xb_m4 ?_
            exact r_iret dX8_subscription_46 rfl
      · refine r_iconst dX8_subscription_23 xc_m1 ?_
        exact r_iret dX8_subscription_24 rfl
def f_X8_kept (a0 : Nat) (a1 : Int32) (a2 : Int32) (h : Mem) : Option (Int32 × Mem) :=
  if a1 < 0 then
      some ((-1 : Int32), h)
  else
      b2 (f_X8_in a2.toInt64 (0 : Int64) (7 : Int64) h) fun v2 h1 =>
      if v2 = 0 then
          some ((-1 : Int32), h1)
      else
          ald h1 (xrf a0 0) (6 : Int32) fun v3 =>
          if a1 < v3 then
              if a2 = 0 then
                  b2 (f_X8_levelsOf (xrf a0 0) ((8 : Int32) + ((7 : Int32) * a1)) h1) fun v7 h6 =>
                  some (v7, h6)
              else
                  if (4 : Int32) ≤ a2 then
                      ald h1 (xrf a0 0) ((((8 : Int32) + ((7 : Int32) * a1)) + a2) - (4 : Int32)) fun v4 =>
                      some (v4, h1)
                  else
                      ald h1 (xrf a0 0) ((((8 : Int32) + ((7 : Int32) * a1)) + (3 : Int32)) + a2) fun v5 =>
                      some (v5, h1)
          else
              some ((-4 : Int32), h1)
set_option maxRecDepth 20000 in
theorem c_X8_kept {G : xG} (a0 : Nat) (ta0 : xTy a0 7) (a1 : Int32) (a2 : Int32) (h : Mem) : Sm G 1 yX8_kept FX8_kept xcI [.ref (G.1 a0), .int a1, .int a2] h (f_X8_kept a0 a1 a2 h) := by
  refine Sm.of pn_X8 rfl (Nat.le_of_ble_eq_true rfl) (ls := [(0, .ref (G.1 a0)), (1, .int a1), (2, .int a2)]) rfl ?_
  unfold f_X8_kept
  refine r_iload_n (place := 1) dX8_kept_0 rfl rfl ?_
  refine r_if_lt (tgt := 16) dX8_kept_1 (by decide) ?_ ?_
  · refine r_iconst dX8_kept_16 xc_m1 ?_
    exact r_iret dX8_kept_17 rfl
  · refine r_iload_n (place := 2) dX8_kept_4 rfl rfl ?_
    refine r_i2l dX8_kept_5 ?_
    refine r_lconst dX8_kept_6 xl_0 ?_
    refine r_ldc2 dX8_kept_7 ll_X8_326 ?_
    refine r_callSI (rest := []) dX8_kept_10 m_X8_in lk_X8_59 (c_X8_in a2.toInt64 (0 : Int64) (7 : Int64) h) (by decide) rfl rfl (Nat.le_of_ble_eq_true rfl) (fun v2 h1 => ?_)
    refine r_if_ne (tgt := 18) dX8_kept_13 (by decide) ?_ ?_
    · refine r_iload_n (place := 1) dX8_kept_18 rfl rfl ?_
      refine r_aload_n (place := 0) dX8_kept_19 rfl rfl ?_
      refine r_getR dX8_kept_20 fg_X8_7 ta0 ?_
      refine r_bipush dX8_kept_23 xb_6 ?_
      refine r_iald dX8_kept_25 (xt_7_0 ta0) (fun v3 => ?_)
      refine r_ic_lt (tgt := 32) dX8_kept_26 (by decide) ?_ ?_
      · refine r_bipush dX8_kept_32 xb_8 ?_
        refine r_bipush dX8_kept_34 xb_7 ?_
        refine r_iload_n (place := 1) dX8_kept_36 rfl rfl ?_
        refine r_imul dX8_kept_37 ?_
        refine r_iadd dX8_kept_38 ?_
        refine r_istore_n (ls' := [(3, .int ((8 : Int32) + ((7 : Int32) * a1))), (0, .ref (G.1 a0)), (1, .int a1), (2, .int a2)]) dX8_kept_39 rfl (by decide) rfl ?_
        refine r_iload_n (place := 3) dX8_kept_40 rfl rfl ?_
        refine r_if_ne (tgt := 55) dX8_kept_41 (by decide) ?_ ?_
        · refine r_iload_n (place := 3) dX8_kept_55 rfl rfl ?_
          refine r_iconst dX8_kept_56 xc_4 ?_
          refine r_ic_ge (tgt := 73) dX8_kept_57 (by decide) ?_ ?_
          · refine r_aload_n (place := 1) dX8_kept_73 rfl rfl ?_
            refine r_getR dX8_kept_74 fg_X8_7 ta0 ?_
            refine r_iload_n (place := 0) dX8_kept_77 rfl rfl ?_
            refine r_iload_n (place := 3) dX8_kept_78 rfl rfl ?_
            refine r_iadd dX8_kept_79 ?_
            refine r_iconst dX8_kept_80 xc_4 ?_
            refine r_isub dX8_kept_81 ?_
            refine r_iald dX8_kept_82 (xt_7_0 ta0) (fun v4 => ?_)
            exact r_iret dX8_kept_83 rfl
          · refine r_aload_n (place := 1) dX8_kept_60 rfl rfl ?_
            refine r_getR dX8_kept_61 fg_X8_7 ta0 ?_
            refine r_iload_n (place := 0) dX8_kept_64 rfl rfl ?_
            refine r_iconst dX8_kept_65 xc_3 ?_
            refine r_iadd dX8_kept_66 ?_
            refine r_iload_n (place := 3) dX8_kept_67 rfl rfl ?_
            refine r_iadd dX8_kept_68 ?_
            refine r_iald dX8_kept_69 (xt_7_0 ta0) (fun v5 => ?_)
            refine r_goto (tgt := 83) dX8_kept_70 (by decide) ?_
            exact r_iret dX8_kept_83 rfl
        · refine r_aload_n (place := 1) dX8_kept_44 rfl rfl ?_
          refine r_getR dX8_kept_45 fg_X8_7 ta0 ?_
          refine r_iload_n (place := 0) dX8_kept_48 rfl rfl ?_
          refine r_callSI (rest := []) dX8_kept_49 m_X8_levelsOf lk_X8_328 (c_X8_levelsOf (xrf a0 0) (xt_7_0 ta0) ((8 : Int32) + ((7 : Int32) * a1)) h1) (by decide) rfl rfl (Nat.le_of_ble_eq_true rfl) (fun v7 h6 => ?_)
          refine r_goto (tgt := 83) dX8_kept_52 (by decide) ?_
          exact r_iret dX8_kept_83 rfl
      · refine r_bipush dX8_kept_29 xb_m4 ?_
        exact r_iret dX8_kept_31 rfl
    · refine r_iconst dX8_kept_16 xc_m1 ?_
      exact r_iret dX8_kept_17 rfl
def f_X8_had_53 (kk23 : Nat → Int32 → Mem → Option (Int32 × Mem)) (a0 : Nat) (a2 : Int32) (s0 : Nat) (s1 : Int32) (s2 : Int32) (h : Mem) : Option (Int32 × Mem) :=
  ast h s0 s1 s2 fun h1 =>
  kk23 a0 (a2 + (1 : Int32)) h1
set_option maxRecDepth 20000 in
theorem t_X8_had_53 {G : xG} (kk23 : Nat → Int32 → Mem → Option (Int32 × Mem)) (hk23 : ∀ (a0 : Nat) (a2 : Int32) (ta0 : xTy a0 7) (h : Mem), Rn G 1 FX8_had xcI 23 [(0, .ref (G.1 a0)), (2, .int a2)] [] h (kk23 a0 a2 h)) (a0 : Nat) (a2 : Int32) (s0 : Nat) (s1 : Int32) (s2 : Int32) (ta0 : xTy a0 7) (ts0 : xTy s0 8) (h : Mem) : Rn G 1 FX8_had xcI 53 [(0, .ref (G.1 a0)), (2, .int a2)] [.int s2, .int s1, .ref (G.1 s0)] h (f_X8_had_53 kk23 a0 a2 s0 s1 s2 h) := by
  unfold f_X8_had_53
  refine r_iast dX8_had_53 ts0 (fun h1 => ?_)
  refine r_iincC (place := 1) (ls' := [(2, .int (a2 + (1 : Int32))), (0, .ref (G.1 a0))]) dX8_had_54 rfl xc_1 (by decide) rfl ?_
  refine r_goto (tgt := 23) dX8_had_57 (by decide) ?_
  exact r_sub [1, 0] rfl (hk23 a0 (a2 + (1 : Int32)) ta0 h1)
def f_X8_had_23  : Nat → Nat → Int32 → Mem → Option (Int32 × Mem)
  | 0, _, _, _ => none
  | n + 1, a0, a2, h =>
    if (4 : Int32) ≤ a2 then
        b2 (f_X8_hadOf a0 h) fun v2 h1 =>
        if v2 = (-4 : Int32) then
            some ((-4 : Int32), h1)
        else
            ald h1 (xrf a0 0) (((92 : Int32) + ((6 : Int32) * v2)) + (5 : Int32)) fun v3 =>
            some (v3, h1)
    else
        if (h a0 5) ≤ a2 then
            f_X8_had_53 (f_X8_had_23 n) a0 a2 (xrf a0 16) ((1 : Int32) + a2) (0 : Int32) h
        else
            ald h (xrf a0 4) a2 fun v4 =>
            f_X8_had_53 (f_X8_had_23 n) a0 a2 (xrf a0 16) ((1 : Int32) + a2) v4 h
set_option maxRecDepth 20000 in
theorem t_X8_had_23 {G : xG}  : ∀ (n : Nat) (a0 : Nat) (a2 : Int32) (ta0 : xTy a0 7) (h : Mem), Rn G 1 FX8_had xcI 23 [(0, .ref (G.1 a0)), (2, .int a2)] [] h (f_X8_had_23 n a0 a2 h) := by
  intro n
  induction n with
  | zero => intros; intro r hr; cases hr
  | succ n ih =>
    intro a0 a2 ta0 h
    unfold f_X8_had_23
    refine r_iload_n (place := 1) dX8_had_23 rfl rfl ?_
    refine r_iconst dX8_had_24 xc_4 ?_
    refine r_ic_ge (tgt := 60) dX8_had_25 (by decide) ?_ ?_
    · refine r_aload_n (place := 0) dX8_had_60 rfl rfl ?_
      refine r_callVI (rest := []) dX8_had_61 m_X8_hadOf lk_X8_203 rfl (by decide) ta0 (c_X8_hadOf a0 ta0 h) (by decide) rfl rfl (Nat.le_of_ble_eq_true rfl) (fun v2 h1 => ?_)
      refine r_istore_n (ls' := [(2, .int v2), (0, .ref (G.1 a0))]) dX8_had_64 rfl (by decide) rfl ?_
      refine r_iload_n (place := 0) dX8_had_65 rfl rfl ?_
      refine r_bipush dX8_had_66 xb_m4 ?_
      refine r_ic_ne (tgt := 76) dX8_had_68 (by decide) ?_ ?_
      · refine r_aload_n (place := 1) dX8_had_76 rfl rfl ?_
        refine r_getR dX8_had_77 fg_X8_7 ta0 ?_
        refine r_bipush dX8_had_80 xb_92 ?_
        refine r_bipush dX8_had_82 xb_6 ?_
        refine r_iload_n (place := 0) dX8_had_84 rfl rfl ?_
        refine r_imul dX8_had_85 ?_
        refine r_iadd dX8_had_86 ?_
        refine r_iconst dX8_had_87 xc_5 ?_
        refine r_iadd dX8_had_88 ?_
        refine r_iald dX8_had_89 (xt_7_0 ta0) (fun v3 => ?_)
        exact r_iret dX8_had_90 rfl
      · refine r_bipush dX8_had_71 xb_m4 ?_
        refine r_goto (tgt := 90) dX8_had_73 (by decide) ?_
        exact r_iret dX8_had_90 rfl
    · refine r_aload_n (place := 0) dX8_had_28 rfl rfl ?_
      refine r_getR dX8_had_29 fg_X8_32 ta0 ?_
      refine r_iconst dX8_had_32 xc_1 ?_
      refine r_iload_n (place := 1) dX8_had_33 rfl rfl ?_
      refine r_iadd dX8_had_34 ?_
      refine r_iload_n (place := 1) dX8_had_35 rfl rfl ?_
      refine r_aload_n (place := 0) dX8_had_36 rfl rfl ?_
      refine r_getI dX8_had_37 fg_X8_161 ta0 ?_
      refine r_ic_ge (tgt := 52) dX8_had_40 (by decide) ?_ ?_
      · refine r_iconst dX8_had_52 xc_0 ?_
        exact r_sub [0, 1] rfl (t_X8_had_53 (f_X8_had_23 n) ih a0 a2 (xrf a0 16) ((1 : Int32) + a2) (0 : Int32) ta0 (xt_7_16 ta0) h)
      · refine r_aload_n (place := 0) dX8_had_43 rfl rfl ?_
        refine r_getR dX8_had_44 fg_X8_23 ta0 ?_
        refine r_iload_n (place := 1) dX8_had_47 rfl rfl ?_
        refine r_iald dX8_had_48 (xt_7_4 ta0) (fun v4 => ?_)
        refine r_goto (tgt := 53) dX8_had_49 (by decide) ?_
        exact r_sub [0, 1] rfl (t_X8_had_53 (f_X8_had_23 n) ih a0 a2 (xrf a0 16) ((1 : Int32) + a2) v4 ta0 (xt_7_16 ta0) h)
def f_X8_had (a0 : Nat) (a1 : Int32) (h : Mem) : Option (Int32 × Mem) :=
  b2 (f_X8_in a1.toInt64 (1 : Int64) (3 : Int64) h) fun v2 h1 =>
  if v2 = 0 then
      some ((-1 : Int32), h1)
  else
      ast h1 (xrf a0 16) (0 : Int32) a1 fun h3 =>
      f_X8_had_23 xFU a0 (0 : Int32) h3
set_option maxRecDepth 20000 in
theorem c_X8_had {G : xG} (a0 : Nat) (ta0 : xTy a0 7) (a1 : Int32) (h : Mem) : Sm G 1 yX8_had FX8_had xcI [.ref (G.1 a0), .int a1] h (f_X8_had a0 a1 h) := by
  refine Sm.of pn_X8 rfl (Nat.le_of_ble_eq_true rfl) (ls := [(0, .ref (G.1 a0)), (1, .int a1)]) rfl ?_
  unfold f_X8_had
  refine r_iload_n (place := 1) dX8_had_0 rfl rfl ?_
  refine r_i2l dX8_had_1 ?_
  refine r_lconst dX8_had_2 xl_1 ?_
  refine r_ldc2 dX8_had_3 ll_X8_278 ?_
  refine r_callSI (rest := []) dX8_had_6 m_X8_in lk_X8_59 (c_X8_in a1.toInt64 (1 : Int64) (3 : Int64) h) (by decide) rfl rfl (Nat.le_of_ble_eq_true rfl) (fun v2 h1 => ?_)
  refine r_if_ne (tgt := 14) dX8_had_9 (by decide) ?_ ?_
  · refine r_aload_n (place := 0) dX8_had_14 rfl rfl ?_
    refine r_getR dX8_had_15 fg_X8_32 ta0 ?_
    refine r_iconst dX8_had_18 xc_0 ?_
    refine r_iload_n (place := 1) dX8_had_19 rfl rfl ?_
    refine r_iast dX8_had_20 (xt_7_16 ta0) (fun h3 => ?_)
    refine r_iconst dX8_had_21 xc_0 ?_
    refine r_istore_n (ls' := [(2, .int (0 : Int32)), (0, .ref (G.1 a0)), (1, .int a1)]) dX8_had_22 rfl (by decide) rfl ?_
    exact r_sub [1, 0] rfl (t_X8_had_23 xFU a0 (0 : Int32) ta0 h3)
  · refine r_iconst dX8_had_12 xc_m1 ?_
    exact r_iret dX8_had_13 rfl
def f_X8_line_50  (a0 : Nat) (a1 : Int32) (a2 : Int32) (a3 : Int32) (a4 : Int32) (s0 : Int32) (s1 : Nat) (s2 : Int32) (s3 : Int32) (h : Mem) : Option (Int32 × Mem) :=
  b2 (f_X8_of s1 s2 s3 h) fun v2 h1 =>
  if s0 < v2 then
      if a2 = (1 : Int32) then
          if (2 : Int32) ≤ a4 then
              some ((-4 : Int32), h1)
          else
              b2 (f_X8_of a0 a1 (((249 : Int32) + ((2 : Int32) * a3)) + a4) h1) fun v6 h5 =>
              some (v6, h5)
      else
          b2 (f_X8_of a0 a1 (((153 : Int32) + ((6 : Int32) * a3)) + a4) h1) fun v4 h3 =>
          some (v4, h3)
  else
      some ((-4 : Int32), h1)
set_option maxRecDepth 20000 in
theorem t_X8_line_50 {G : xG}  (a0 : Nat) (a1 : Int32) (a2 : Int32) (a3 : Int32) (a4 : Int32) (s0 : Int32) (s1 : Nat) (s2 : Int32) (s3 : Int32) (ta0 : xTy a0 7) (ts1 : xTy s1 7) (h : Mem) : Rn G 2 FX8_line xcI 50 [(0, .ref (G.1 a0)), (1, .int a1), (2, .int a2), (3, .int a3), (4, .int a4)] [.int s3, .int s2, .ref (G.1 s1), .int s0] h (f_X8_line_50 a0 a1 a2 a3 a4 s0 s1 s2 s3 h) := by
  unfold f_X8_line_50
  refine r_callVI (rest := [.int s0]) dX8_line_50 m_X8_of lk_X8_166 rfl (by decide) ts1 (c_X8_of s1 ts1 s2 s3 h) (by decide) rfl rfl (Nat.le_of_ble_eq_true rfl) (fun v2 h1 => ?_)
  refine r_ic_lt (tgt := 59) dX8_line_53 (by decide) ?_ ?_
  · refine r_iload_n (place := 2) dX8_line_59 rfl rfl ?_
    refine r_iconst dX8_line_60 xc_1 ?_
    refine r_ic_ne (tgt := 91) dX8_line_61 (by decide) ?_ ?_
    · refine r_aload_n (place := 0) dX8_line_91 rfl rfl ?_
      refine r_iload_n (place := 1) dX8_line_92 rfl rfl ?_
      refine r_sipush dX8_line_93 xs_153 ?_
      refine r_bipush dX8_line_96 xb_6 ?_
      refine r_iload_n (place := 3) dX8_line_98 rfl rfl ?_
      refine r_imul dX8_line_99 ?_
      refine r_iadd dX8_line_100 ?_
      refine r_iload (place := 4) dX8_line_101 rfl ?_
      refine r_iadd dX8_line_103 ?_
      refine r_callVI (rest := []) dX8_line_104 m_X8_of lk_X8_166 rfl (by decide) ta0 (c_X8_of a0 ta0 a1 (((153 : Int32) + ((6 : Int32) * a3)) + a4) h1) (by decide) rfl rfl (Nat.le_of_ble_eq_true rfl) (fun v4 h3 => ?_)
      exact r_iret dX8_line_107 rfl
    · refine r_iload (place := 4) dX8_line_64 rfl ?_
      refine r_iconst dX8_line_66 xc_2 ?_
      refine r_ic_ge (tgt := 88) dX8_line_67 (by decide) ?_ ?_
      · refine r_bipush dX8_line_88 xb_m4 ?_
        exact r_iret dX8_line_90 rfl
      · refine r_aload_n (place := 0) dX8_line_70 rfl rfl ?_
        refine r_iload_n (place := 1) dX8_line_71 rfl rfl ?_
        refine r_sipush dX8_line_72 xs_249 ?_
        refine r_iconst dX8_line_75 xc_2 ?_
        refine r_iload_n (place := 3) dX8_line_76 rfl rfl ?_
        refine r_imul dX8_line_77 ?_
        refine r_iadd dX8_line_78 ?_
        refine r_iload (place := 4) dX8_line_79 rfl ?_
        refine r_iadd dX8_line_81 ?_
        refine r_callVI (rest := []) dX8_line_82 m_X8_of lk_X8_166 rfl (by decide) ta0 (c_X8_of a0 ta0 a1 (((249 : Int32) + ((2 : Int32) * a3)) + a4) h1) (by decide) rfl rfl (Nat.le_of_ble_eq_true rfl) (fun v6 h5 => ?_)
        refine r_goto (tgt := 90) dX8_line_85 (by decide) ?_
        exact r_iret dX8_line_90 rfl
  · refine r_bipush dX8_line_56 xb_m4 ?_
    exact r_iret dX8_line_58 rfl
def f_X8_line (a0 : Nat) (a1 : Int32) (a2 : Int32) (a3 : Int32) (a4 : Int32) (h : Mem) : Option (Int32 × Mem) :=
  b2 (f_X8_isClient a1 h) fun v2 h1 =>
  if v2 = 0 then
      some ((-1 : Int32), h1)
  else
      b2 (f_X8_in a2.toInt64 (0 : Int64) (1 : Int64) h1) fun v4 h3 =>
      if v4 = 0 then
          some ((-1 : Int32), h3)
      else
          if a3 < 0 then
              some ((-1 : Int32), h3)
          else
              b2 (f_X8_in a4.toInt64 (0 : Int64) (4 : Int64) h3) fun v6 h5 =>
              if v6 = 0 then
                  some ((-1 : Int32), h5)
              else
                  if a2 = 0 then
                      f_X8_line_50 a0 a1 a2 a3 a4 a3 a0 a1 (6 : Int32) h5
                  else
                      f_X8_line_50 a0 a1 a2 a3 a4 a3 a0 a1 (7 : Int32) h5
set_option maxRecDepth 20000 in
theorem c_X8_line {G : xG} (a0 : Nat) (ta0 : xTy a0 7) (a1 : Int32) (a2 : Int32) (a3 : Int32) (a4 : Int32) (h : Mem) : Sm G 2 yX8_line FX8_line xcI [.ref (G.1 a0), .int a1, .int a2, .int a3, .int a4] h (f_X8_line a0 a1 a2 a3 a4 h) := by
  refine Sm.of pn_X8 rfl (Nat.le_of_ble_eq_true rfl) (ls := [(0, .ref (G.1 a0)), (1, .int a1), (2, .int a2), (3, .int a3), (4, .int a4)]) rfl ?_
  unfold f_X8_line
  refine r_iload_n (place := 1) dX8_line_0 rfl rfl ?_
  refine r_callSI (rest := []) dX8_line_1 m_X8_isClient lk_X8_249 (c_X8_isClient a1 h) (by decide) rfl rfl (Nat.le_of_ble_eq_true rfl) (fun v2 h1 => ?_)
  refine r_if_eq (tgt := 34) dX8_line_4 (by decide) ?_ ?_
  · refine r_iconst dX8_line_34 xc_m1 ?_
    exact r_iret dX8_line_35 rfl
  · refine r_iload_n (place := 2) dX8_line_7 rfl rfl ?_
    refine r_i2l dX8_line_8 ?_
    refine r_lconst dX8_line_9 xl_0 ?_
    refine r_lconst dX8_line_10 xl_1 ?_
    refine r_callSI (rest := []) dX8_line_11 m_X8_in lk_X8_59 (c_X8_in a2.toInt64 (0 : Int64) (1 : Int64) h1) (by decide) rfl rfl (Nat.le_of_ble_eq_true rfl) (fun v4 h3 => ?_)
    refine r_if_eq (tgt := 34) dX8_line_14 (by decide) ?_ ?_
    · refine r_iconst dX8_line_34 xc_m1 ?_
      exact r_iret dX8_line_35 rfl
    · refine r_iload_n (place := 3) dX8_line_17 rfl rfl ?_
      refine r_if_lt (tgt := 34) dX8_line_18 (by decide) ?_ ?_
      · refine r_iconst dX8_line_34 xc_m1 ?_
        exact r_iret dX8_line_35 rfl
      · refine r_iload (place := 4) dX8_line_21 rfl ?_
        refine r_i2l dX8_line_23 ?_
        refine r_lconst dX8_line_24 xl_0 ?_
        refine r_ldc2 dX8_line_25 ll_X8_284 ?_
        refine r_callSI (rest := []) dX8_line_28 m_X8_in lk_X8_59 (c_X8_in a4.toInt64 (0 : Int64) (4 : Int64) h3) (by decide) rfl rfl (Nat.le_of_ble_eq_true rfl) (fun v6 h5 => ?_)
        refine r_if_ne (tgt := 36) dX8_line_31 (by decide) ?_ ?_
        · refine r_iload_n (place := 3) dX8_line_36 rfl rfl ?_
          refine r_aload_n (place := 0) dX8_line_37 rfl rfl ?_
          refine r_iload_n (place := 1) dX8_line_38 rfl rfl ?_
          refine r_iload_n (place := 2) dX8_line_39 rfl rfl ?_
          refine r_if_ne (tgt := 48) dX8_line_40 (by decide) ?_ ?_
          · refine r_bipush dX8_line_48 xb_7 ?_
            exact r_sub [0, 1, 2, 3, 4] rfl (t_X8_line_50 a0 a1 a2 a3 a4 a3 a0 a1 (7 : Int32) ta0 ta0 h5)
          · refine r_bipush dX8_line_43 xb_6 ?_
            refine r_goto (tgt := 50) dX8_line_45 (by decide) ?_
            exact r_sub [0, 1, 2, 3, 4] rfl (t_X8_line_50 a0 a1 a2 a3 a4 a3 a0 a1 (6 : Int32) ta0 ta0 h5)
        · refine r_iconst dX8_line_34 xc_m1 ?_
          exact r_iret dX8_line_35 rfl
def f_X8_flight_58  (s0 : Nat) (s1 : Int32) (s2 : Int32) (s3 : Int32) (h : Mem) : Option (Int32 × Mem) :=
  b2 (f_X8_of s0 s1 (s2 + s3) h) fun v2 h1 =>
  some (v2, h1)
set_option maxRecDepth 20000 in
theorem t_X8_flight_58 {G : xG}  (s0 : Nat) (s1 : Int32) (s2 : Int32) (s3 : Int32) (ts0 : xTy s0 7) (h : Mem) : Rn G 2 FX8_flight xcI 58 [] [.int s3, .int s2, .int s1, .ref (G.1 s0)] h (f_X8_flight_58 s0 s1 s2 s3 h) := by
  unfold f_X8_flight_58
  refine r_iadd dX8_flight_58 ?_
  refine r_callVI (rest := []) dX8_flight_59 m_X8_of lk_X8_166 rfl (by decide) ts0 (c_X8_of s0 ts0 s1 (s2 + s3) h) (by decide) rfl rfl (Nat.le_of_ble_eq_true rfl) (fun v2 h1 => ?_)
  exact r_iret dX8_flight_62 rfl
def f_X8_flight_88   (h : Mem) : Option (Int32 × Mem) :=
  some ((0 : Int32), h)
set_option maxRecDepth 20000 in
theorem t_X8_flight_88 {G : xG}    (h : Mem) : Rn G 2 FX8_flight xcI 88 [] [] h (f_X8_flight_88  h) := by
  unfold f_X8_flight_88
  refine r_iconst dX8_flight_88 xc_0 ?_
  refine r_goto (tgt := 110) dX8_flight_89 (by decide) ?_
  exact r_iret dX8_flight_110 rfl
def f_X8_flight (a0 : Nat) (a1 : Int32) (a2 : Int32) (a3 : Int32) (h : Mem) : Option (Int32 × Mem) :=
  b2 (f_X8_isClient a1 h) fun v2 h1 =>
  if v2 = 0 then
      some ((-1 : Int32), h1)
  else
      if a2 < 0 then
          some ((-1 : Int32), h1)
      else
          b2 (f_X8_in a3.toInt64 (0 : Int64) (4 : Int64) h1) fun v4 h3 =>
          if v4 = 0 then
              some ((-1 : Int32), h3)
          else
              b2 (f_X8_of a0 a1 (4 : Int32) h3) fun v6 h5 =>
              if v6 ≤ a2 then
                  b2 (f_X8_of a0 a1 (5 : Int32) h5) fun v8 h7 =>
                  if (a2 - v6) < v8 then
                      if a3 = 0 then
                          f_X8_flight_88 h7
                      else
                          if a3 = (4 : Int32) then
                              f_X8_flight_88 h7
                          else
                              b2 (f_X8_of a0 a1 ((((105 : Int32) + ((4 : Int32) * (a2 - v6))) + a3) - (1 : Int32)) h7) fun v10 h9 =>
                              some (v10, h9)
                  else
                      some ((-4 : Int32), h7)
              else
                  if a3 = (4 : Int32) then
                      f_X8_flight_58 a0 a1 ((81 : Int32) + ((6 : Int32) * a2)) (5 : Int32) h5
                  else
                      f_X8_flight_58 a0 a1 ((81 : Int32) + ((6 : Int32) * a2)) a3 h5
set_option maxRecDepth 20000 in
theorem c_X8_flight {G : xG} (a0 : Nat) (ta0 : xTy a0 7) (a1 : Int32) (a2 : Int32) (a3 : Int32) (h : Mem) : Sm G 2 yX8_flight FX8_flight xcI [.ref (G.1 a0), .int a1, .int a2, .int a3] h (f_X8_flight a0 a1 a2 a3 h) := by
  refine Sm.of pn_X8 rfl (Nat.le_of_ble_eq_true rfl) (ls := [(0, .ref (G.1 a0)), (1, .int a1), (2, .int a2), (3, .int a3)]) rfl ?_
  unfold f_X8_flight
  refine r_iload_n (place := 1) dX8_flight_0 rfl rfl ?_
  refine r_callSI (rest := []) dX8_flight_1 m_X8_isClient lk_X8_249 (c_X8_isClient a1 h) (by decide) rfl rfl (Nat.le_of_ble_eq_true rfl) (fun v2 h1 => ?_)
  refine r_if_eq (tgt := 23) dX8_flight_4 (by decide) ?_ ?_
  · refine r_iconst dX8_flight_23 xc_m1 ?_
    exact r_iret dX8_flight_24 rfl
  · refine r_iload_n (place := 2) dX8_flight_7 rfl rfl ?_
    refine r_if_lt (tgt := 23) dX8_flight_8 (by decide) ?_ ?_
    · refine r_iconst dX8_flight_23 xc_m1 ?_
      exact r_iret dX8_flight_24 rfl
    · refine r_iload_n (place := 3) dX8_flight_11 rfl rfl ?_
      refine r_i2l dX8_flight_12 ?_
      refine r_lconst dX8_flight_13 xl_0 ?_
      refine r_ldc2 dX8_flight_14 ll_X8_284 ?_
      refine r_callSI (rest := []) dX8_flight_17 m_X8_in lk_X8_59 (c_X8_in a3.toInt64 (0 : Int64) (4 : Int64) h1) (by decide) rfl rfl (Nat.le_of_ble_eq_true rfl) (fun v4 h3 => ?_)
      refine r_if_ne (tgt := 25) dX8_flight_20 (by decide) ?_ ?_
      · refine r_aload_n (place := 0) dX8_flight_25 rfl rfl ?_
        refine r_iload_n (place := 1) dX8_flight_26 rfl rfl ?_
        refine r_iconst dX8_flight_27 xc_4 ?_
        refine r_callVI (rest := []) dX8_flight_28 m_X8_of lk_X8_166 rfl (by decide) ta0 (c_X8_of a0 ta0 a1 (4 : Int32) h3) (by decide) rfl rfl (Nat.le_of_ble_eq_true rfl) (fun v6 h5 => ?_)
        refine r_istore (ls' := [(4, .int v6), (0, .ref (G.1 a0)), (1, .int a1), (2, .int a2), (3, .int a3)]) dX8_flight_31 (by decide) rfl ?_
        refine r_iload_n (place := 3) dX8_flight_33 rfl rfl ?_
        refine r_iload (place := 0) dX8_flight_34 rfl ?_
        refine r_ic_ge (tgt := 63) dX8_flight_36 (by decide) ?_ ?_
        · refine r_iload_n (place := 3) dX8_flight_63 rfl rfl ?_
          refine r_iload (place := 0) dX8_flight_64 rfl ?_
          refine r_isub dX8_flight_66 ?_
          refine r_aload_n (place := 1) dX8_flight_67 rfl rfl ?_
          refine r_iload_n (place := 2) dX8_flight_68 rfl rfl ?_
          refine r_iconst dX8_flight_69 xc_5 ?_
          refine r_callVI (rest := [.int (a2 - v6)]) dX8_flight_70 m_X8_of lk_X8_166 rfl (by decide) ta0 (c_X8_of a0 ta0 a1 (5 : Int32) h5) (by decide) rfl rfl (Nat.le_of_ble_eq_true rfl) (fun v8 h7 => ?_)
          refine r_ic_lt (tgt := 79) dX8_flight_73 (by decide) ?_ ?_
          · refine r_iload_n (place := 4) dX8_flight_79 rfl rfl ?_
            refine r_if_eq (tgt := 88) dX8_flight_80 (by decide) ?_ ?_
            · exact r_sub [] rfl (t_X8_flight_88 h7)
            · refine r_iload_n (place := 4) dX8_flight_83 rfl rfl ?_
              refine r_iconst dX8_flight_84 xc_4 ?_
              refine r_ic_ne (tgt := 92) dX8_flight_85 (by decide) ?_ ?_
              · refine r_aload_n (place := 1) dX8_flight_92 rfl rfl ?_
                refine r_iload_n (place := 2) dX8_flight_93 rfl rfl ?_
                refine r_bipush dX8_flight_94 xb_105 ?_
                refine r_iconst dX8_flight_96 xc_4 ?_
                refine r_iload_n (place := 3) dX8_flight_97 rfl rfl ?_
                refine r_iload (place := 0) dX8_flight_98 rfl ?_
                refine r_isub dX8_flight_100 ?_
                refine r_imul dX8_flight_101 ?_
                refine r_iadd dX8_flight_102 ?_
                refine r_iload_n (place := 4) dX8_flight_103 rfl rfl ?_
                refine r_iadd dX8_flight_104 ?_
                refine r_iconst dX8_flight_105 xc_1 ?_
                refine r_isub dX8_flight_106 ?_
                refine r_callVI (rest := []) dX8_flight_107 m_X8_of lk_X8_166 rfl (by decide) ta0 (c_X8_of a0 ta0 a1 ((((105 : Int32) + ((4 : Int32) * (a2 - v6))) + a3) - (1 : Int32)) h7) (by decide) rfl rfl (Nat.le_of_ble_eq_true rfl) (fun v10 h9 => ?_)
                exact r_iret dX8_flight_110 rfl
              · exact r_sub [] rfl (t_X8_flight_88 h7)
          · refine r_bipush dX8_flight_76 xb_m4 ?_
            exact r_iret dX8_flight_78 rfl
        · refine r_aload_n (place := 1) dX8_flight_39 rfl rfl ?_
          refine r_iload_n (place := 2) dX8_flight_40 rfl rfl ?_
          refine r_bipush dX8_flight_41 xb_81 ?_
          refine r_bipush dX8_flight_43 xb_6 ?_
          refine r_iload_n (place := 3) dX8_flight_45 rfl rfl ?_
          refine r_imul dX8_flight_46 ?_
          refine r_iadd dX8_flight_47 ?_
          refine r_iload_n (place := 4) dX8_flight_48 rfl rfl ?_
          refine r_iconst dX8_flight_49 xc_4 ?_
          refine r_ic_ne (tgt := 57) dX8_flight_50 (by decide) ?_ ?_
          · refine r_iload_n (place := 4) dX8_flight_57 rfl rfl ?_
            exact r_sub [] rfl (t_X8_flight_58 a0 a1 ((81 : Int32) + ((6 : Int32) * a2)) a3 ta0 h5)
          · refine r_iconst dX8_flight_53 xc_5 ?_
            refine r_goto (tgt := 58) dX8_flight_54 (by decide) ?_
            exact r_sub [] rfl (t_X8_flight_58 a0 a1 ((81 : Int32) + ((6 : Int32) * a2)) (5 : Int32) ta0 h5)
      · refine r_iconst dX8_flight_23 xc_m1 ?_
        exact r_iret dX8_flight_24 rfl
