def f_X8_packetUp (a0 : Nat) (a1 : Int32) (a2 : Int32) (a3 : Int32) (h : Mem) : Option (Unit × Mem) :=
  b2 (f_X8_of a0 a1 (7 : Int32) h) fun v2 h1 =>
  if (16 : Int32) ≤ v2 then
      some ((), h1)
  else
      b2 (f_X8_at a1 ((249 : Int32) + ((2 : Int32) * v2)) h1) fun v4 h3 =>
      ast h3 (xrf a0 0) v4 a2 fun h5 =>
      b2 (f_X8_at a1 (((249 : Int32) + ((2 : Int32) * v2)) + (1 : Int32)) h5) fun v7 h6 =>
      ast h6 (xrf a0 0) v7 a3 fun h8 =>
      b2 (f_X8_at a1 (7 : Int32) h8) fun v10 h9 =>
      ald h9 (xrf a0 0) v10 fun v11 =>
      ast h9 (xrf a0 0) v10 (v11 + (1 : Int32)) fun h12 =>
      some ((), h12)
set_option maxRecDepth 20000 in
theorem c_X8_packetUp {G : xG} (a0 : Nat) (ta0 : xTy a0 7) (a1 : Int32) (a2 : Int32) (a3 : Int32) (h : Mem) : Sm G 2 yX8_packetUp FX8_packetUp xcV [.ref (G.1 a0), .int a1, .int a2, .int a3] h (f_X8_packetUp a0 a1 a2 a3 h) := by
  refine Sm.of pn_X8 rfl (Nat.le_of_ble_eq_true rfl) (ls := [(0, .ref (G.1 a0)), (1, .int a1), (2, .int a2), (3, .int a3)]) rfl ?_
  unfold f_X8_packetUp
  refine r_aload_n (place := 0) dX8_packetUp_0 rfl rfl ?_
  refine r_iload_n (place := 1) dX8_packetUp_1 rfl rfl ?_
  refine r_bipush dX8_packetUp_2 xb_7 ?_
  refine r_callVI (rest := []) dX8_packetUp_4 m_X8_of lk_X8_166 rfl (by decide) ta0 (c_X8_of a0 ta0 a1 (7 : Int32) h) (by decide) rfl rfl (Nat.le_of_ble_eq_true rfl) (fun v2 h1 => ?_)
  refine r_istore (ls' := [(4, .int v2), (0, .ref (G.1 a0)), (1, .int a1), (2, .int a2), (3, .int a3)]) dX8_packetUp_7 (by decide) rfl ?_
  refine r_iload (place := 0) dX8_packetUp_9 rfl ?_
  refine r_bipush dX8_packetUp_11 xb_16 ?_
  refine r_ic_ge (tgt := 69) dX8_packetUp_13 (by decide) ?_ ?_
  · exact r_ret dX8_packetUp_69 rfl
  · refine r_aload_n (place := 1) dX8_packetUp_16 rfl rfl ?_
    refine r_getR dX8_packetUp_17 fg_X8_7 ta0 ?_
    refine r_iload_n (place := 2) dX8_packetUp_20 rfl rfl ?_
    refine r_sipush dX8_packetUp_21 xs_249 ?_
    refine r_iconst dX8_packetUp_24 xc_2 ?_
    refine r_iload (place := 0) dX8_packetUp_25 rfl ?_
    refine r_imul dX8_packetUp_27 ?_
    refine r_iadd dX8_packetUp_28 ?_
    refine r_callSI (rest := [.ref (G.1 (xrf a0 0))]) dX8_packetUp_29 m_X8_at lk_X8_115 (c_X8_at a1 ((249 : Int32) + ((2 : Int32) * v2)) h1) (by decide) rfl rfl (Nat.le_of_ble_eq_true rfl) (fun v4 h3 => ?_)
    refine r_iload_n (place := 3) dX8_packetUp_32 rfl rfl ?_
    refine r_iast dX8_packetUp_33 (xt_7_0 ta0) (fun h5 => ?_)
    refine r_aload_n (place := 1) dX8_packetUp_34 rfl rfl ?_
    refine r_getR dX8_packetUp_35 fg_X8_7 ta0 ?_
    refine r_iload_n (place := 2) dX8_packetUp_38 rfl rfl ?_
    refine r_sipush dX8_packetUp_39 xs_249 ?_
    refine r_iconst dX8_packetUp_42 xc_2 ?_
    refine r_iload (place := 0) dX8_packetUp_43 rfl ?_
    refine r_imul dX8_packetUp_45 ?_
    refine r_iadd dX8_packetUp_46 ?_
    refine r_iconst dX8_packetUp_47 xc_1 ?_
    refine r_iadd dX8_packetUp_48 ?_
    refine r_callSI (rest := [.ref (G.1 (xrf a0 0))]) dX8_packetUp_49 m_X8_at lk_X8_115 (c_X8_at a1 (((249 : Int32) + ((2 : Int32) * v2)) + (1 : Int32)) h5) (by decide) rfl rfl (Nat.le_of_ble_eq_true rfl) (fun v7 h6 => ?_)
    refine r_iload_n (place := 4) dX8_packetUp_52 rfl rfl ?_
    refine r_iast dX8_packetUp_53 (xt_7_0 ta0) (fun h8 => ?_)
    refine r_aload_n (place := 1) dX8_packetUp_54 rfl rfl ?_
    refine r_getR dX8_packetUp_55 fg_X8_7 ta0 ?_
    refine r_iload_n (place := 2) dX8_packetUp_58 rfl rfl ?_
    refine r_bipush dX8_packetUp_59 xb_7 ?_
    refine r_callSI (rest := [.ref (G.1 (xrf a0 0))]) dX8_packetUp_61 m_X8_at lk_X8_115 (c_X8_at a1 (7 : Int32) h8) (by decide) rfl rfl (Nat.le_of_ble_eq_true rfl) (fun v10 h9 => ?_)
    refine r_dup2 dX8_packetUp_64 rfl rfl ?_
    refine r_iald dX8_packetUp_65 (xt_7_0 ta0) (fun v11 => ?_)
    refine r_iconst dX8_packetUp_66 xc_1 ?_
    refine r_iadd dX8_packetUp_67 ?_
    refine r_iast dX8_packetUp_68 (xt_7_0 ta0) (fun h12 => ?_)
    exact r_ret dX8_packetUp_69 rfl
def f_X8_sends (a0 : Nat) (a1 : Int32) (a2 : Int32) (h : Mem) : Option (Unit × Mem) :=
  b2 (f_X8_at a1 ((81 : Int32) + ((6 : Int32) * a2)) h) fun v2 h1 =>
  ald h1 (xrf a0 0) (v2 + (5 : Int32)) fun v3 =>
  if v3 = (1 : Int32) then
      ald h1 (xrf a0 0) v2 fun v10 =>
      b2 (f_X8_packetDown a0 a1 (3 : Int32) v10 (-4 : Int32) (-4 : Int32) (-4 : Int32) (0 : Int32) h1) fun _ h11 =>
      some ((), h11)
  else
      ald h1 (xrf a0 0) v2 fun v4 =>
      ald h1 (xrf a0 0) (v2 + (1 : Int32)) fun v5 =>
      ald h1 (xrf a0 0) (v2 + (2 : Int32)) fun v6 =>
      ald h1 (xrf a0 0) (v2 + (3 : Int32)) fun v7 =>
      ald h1 (xrf a0 0) (v2 + (4 : Int32)) fun v8 =>
      b2 (f_X8_packetDown a0 a1 (0 : Int32) v4 v5 v6 v7 v8 h1) fun _ h9 =>
      some ((), h9)
set_option maxRecDepth 20000 in
theorem c_X8_sends {G : xG} (a0 : Nat) (ta0 : xTy a0 7) (a1 : Int32) (a2 : Int32) (h : Mem) : Sm G 3 yX8_sends FX8_sends xcV [.ref (G.1 a0), .int a1, .int a2] h (f_X8_sends a0 a1 a2 h) := by
  refine Sm.of pn_X8 rfl (Nat.le_of_ble_eq_true rfl) (ls := [(0, .ref (G.1 a0)), (1, .int a1), (2, .int a2)]) rfl ?_
  unfold f_X8_sends
  refine r_iload_n (place := 1) dX8_sends_0 rfl rfl ?_
  refine r_bipush dX8_sends_1 xb_81 ?_
  refine r_bipush dX8_sends_3 xb_6 ?_
  refine r_iload_n (place := 2) dX8_sends_5 rfl rfl ?_
  refine r_imul dX8_sends_6 ?_
  refine r_iadd dX8_sends_7 ?_
  refine r_callSI (rest := []) dX8_sends_8 m_X8_at lk_X8_115 (c_X8_at a1 ((81 : Int32) + ((6 : Int32) * a2)) h) (by decide) rfl rfl (Nat.le_of_ble_eq_true rfl) (fun v2 h1 => ?_)
  refine r_istore_n (ls' := [(3, .int v2), (0, .ref (G.1 a0)), (1, .int a1), (2, .int a2)]) dX8_sends_11 rfl (by decide) rfl ?_
  refine r_aload_n (place := 1) dX8_sends_12 rfl rfl ?_
  refine r_getR dX8_sends_13 fg_X8_7 ta0 ?_
  refine r_iload_n (place := 0) dX8_sends_16 rfl rfl ?_
  refine r_iconst dX8_sends_17 xc_5 ?_
  refine r_iadd dX8_sends_18 ?_
  refine r_iald dX8_sends_19 (xt_7_0 ta0) (fun v3 => ?_)
  refine r_iconst dX8_sends_20 xc_1 ?_
  refine r_ic_ne (tgt := 46) dX8_sends_21 (by decide) ?_ ?_
  · refine r_aload_n (place := 1) dX8_sends_46 rfl rfl ?_
    refine r_iload_n (place := 2) dX8_sends_47 rfl rfl ?_
    refine r_iconst dX8_sends_48 xc_0 ?_
    refine r_aload_n (place := 1) dX8_sends_49 rfl rfl ?_
    refine r_getR dX8_sends_50 fg_X8_7 ta0 ?_
    refine r_iload_n (place := 0) dX8_sends_53 rfl rfl ?_
    refine r_iald dX8_sends_54 (xt_7_0 ta0) (fun v4 => ?_)
    refine r_aload_n (place := 1) dX8_sends_55 rfl rfl ?_
    refine r_getR dX8_sends_56 fg_X8_7 ta0 ?_
    refine r_iload_n (place := 0) dX8_sends_59 rfl rfl ?_
    refine r_iconst dX8_sends_60 xc_1 ?_
    refine r_iadd dX8_sends_61 ?_
    refine r_iald dX8_sends_62 (xt_7_0 ta0) (fun v5 => ?_)
    refine r_aload_n (place := 1) dX8_sends_63 rfl rfl ?_
    refine r_getR dX8_sends_64 fg_X8_7 ta0 ?_
    refine r_iload_n (place := 0) dX8_sends_67 rfl rfl ?_
    refine r_iconst dX8_sends_68 xc_2 ?_
    refine r_iadd dX8_sends_69 ?_
    refine r_iald dX8_sends_70 (xt_7_0 ta0) (fun v6 => ?_)
    refine r_aload_n (place := 1) dX8_sends_71 rfl rfl ?_
    refine r_getR dX8_sends_72 fg_X8_7 ta0 ?_
    refine r_iload_n (place := 0) dX8_sends_75 rfl rfl ?_
    refine r_iconst dX8_sends_76 xc_3 ?_
    refine r_iadd dX8_sends_77 ?_
    refine r_iald dX8_sends_78 (xt_7_0 ta0) (fun v7 => ?_)
    refine r_aload_n (place := 1) dX8_sends_79 rfl rfl ?_
    refine r_getR dX8_sends_80 fg_X8_7 ta0 ?_
    refine r_iload_n (place := 0) dX8_sends_83 rfl rfl ?_
    refine r_iconst dX8_sends_84 xc_4 ?_
    refine r_iadd dX8_sends_85 ?_
    refine r_iald dX8_sends_86 (xt_7_0 ta0) (fun v8 => ?_)
    refine r_callVV (rest := []) dX8_sends_87 m_X8_packetDown lk_X8_169 rfl (by decide) ta0 (c_X8_packetDown a0 ta0 a1 (0 : Int32) v4 v5 v6 v7 v8 h1) (by decide) rfl rfl (Nat.le_of_ble_eq_true rfl) (fun h9 => ?_)
    exact r_ret dX8_sends_90 rfl
  · refine r_aload_n (place := 1) dX8_sends_24 rfl rfl ?_
    refine r_iload_n (place := 2) dX8_sends_25 rfl rfl ?_
    refine r_iconst dX8_sends_26 xc_3 ?_
    refine r_aload_n (place := 1) dX8_sends_27 rfl rfl ?_
    refine r_getR dX8_sends_28 fg_X8_7 ta0 ?_
    refine r_iload_n (place := 0) dX8_sends_31 rfl rfl ?_
    refine r_iald dX8_sends_32 (xt_7_0 ta0) (fun v10 => ?_)
    refine r_bipush dX8_sends_33 xb_m4 ?_
    refine r_bipush dX8_sends_35 xb_m4 ?_
    refine r_bipush dX8_sends_37 xb_m4 ?_
    refine r_iconst dX8_sends_39 xc_0 ?_
    refine r_callVV (rest := []) dX8_sends_40 m_X8_packetDown lk_X8_169 rfl (by decide) ta0 (c_X8_packetDown a0 ta0 a1 (3 : Int32) v10 (-4 : Int32) (-4 : Int32) (-4 : Int32) (0 : Int32) h1) (by decide) rfl rfl (Nat.le_of_ble_eq_true rfl) (fun h11 => ?_)
    refine r_goto (tgt := 90) dX8_sends_43 (by decide) ?_
    exact r_ret dX8_sends_90 rfl
def f_X8_flies (a0 : Nat) (a1 : Int32) (a2 : Int32) (a3 : Int32) (a4 : Int32) (a5 : Int32) (h : Mem) : Option (Unit × Mem) :=
  b2 (f_X8_of a0 a1 (4 : Int32) h) fun v2 h1 =>
  b2 (f_X8_at a1 ((81 : Int32) + ((6 : Int32) * v2)) h1) fun v4 h3 =>
  b2 (f_X8_of a0 a1 (9 : Int32) h3) fun v6 h5 =>
  ast h5 (xrf a0 0) v4 v6 fun h7 =>
  ast h7 (xrf a0 0) (v4 + (1 : Int32)) a2 fun h8 =>
  ast h8 (xrf a0 0) (v4 + (2 : Int32)) a3 fun h9 =>
  ast h9 (xrf a0 0) (v4 + (3 : Int32)) a4 fun h10 =>
  ast h10 (xrf a0 0) (v4 + (4 : Int32)) a5 fun h11 =>
  ast h11 (xrf a0 0) (v4 + (5 : Int32)) (0 : Int32) fun h12 =>
  b2 (f_X8_at a1 (9 : Int32) h12) fun v14 h13 =>
  ald h13 (xrf a0 0) v14 fun v15 =>
  ast h13 (xrf a0 0) v14 (v15 + (1 : Int32)) fun h16 =>
  b2 (f_X8_at a1 (4 : Int32) h16) fun v18 h17 =>
  ald h17 (xrf a0 0) v18 fun v19 =>
  ast h17 (xrf a0 0) v18 (v19 + (1 : Int32)) fun h20 =>
  b2 (f_X8_sends a0 a1 v2 h20) fun _ h21 =>
  some ((), h21)
set_option maxRecDepth 20000 in
theorem c_X8_flies {G : xG} (a0 : Nat) (ta0 : xTy a0 7) (a1 : Int32) (a2 : Int32) (a3 : Int32) (a4 : Int32) (a5 : Int32) (h : Mem) : Sm G 4 yX8_flies FX8_flies xcV [.ref (G.1 a0), .int a1, .int a2, .int a3, .int a4, .int a5] h (f_X8_flies a0 a1 a2 a3 a4 a5 h) := by
  refine Sm.of pn_X8 rfl (Nat.le_of_ble_eq_true rfl) (ls := [(0, .ref (G.1 a0)), (1, .int a1), (2, .int a2), (3, .int a3), (4, .int a4), (5, .int a5)]) rfl ?_
  unfold f_X8_flies
  refine r_aload_n (place := 0) dX8_flies_0 rfl rfl ?_
  refine r_iload_n (place := 1) dX8_flies_1 rfl rfl ?_
  refine r_iconst dX8_flies_2 xc_4 ?_
  refine r_callVI (rest := []) dX8_flies_3 m_X8_of lk_X8_166 rfl (by decide) ta0 (c_X8_of a0 ta0 a1 (4 : Int32) h) (by decide) rfl rfl (Nat.le_of_ble_eq_true rfl) (fun v2 h1 => ?_)
  refine r_istore (ls' := [(6, .int v2), (0, .ref (G.1 a0)), (1, .int a1), (2, .int a2), (3, .int a3), (4, .int a4), (5, .int a5)]) dX8_flies_6 (by decide) rfl ?_
  refine r_iload_n (place := 2) dX8_flies_8 rfl rfl ?_
  refine r_bipush dX8_flies_9 xb_81 ?_
  refine r_bipush dX8_flies_11 xb_6 ?_
  refine r_iload (place := 0) dX8_flies_13 rfl ?_
  refine r_imul dX8_flies_15 ?_
  refine r_iadd dX8_flies_16 ?_
  refine r_callSI (rest := []) dX8_flies_17 m_X8_at lk_X8_115 (c_X8_at a1 ((81 : Int32) + ((6 : Int32) * v2)) h1) (by decide) rfl rfl (Nat.le_of_ble_eq_true rfl) (fun v4 h3 => ?_)
  refine r_istore (ls' := [(7, .int v4), (6, .int v2), (0, .ref (G.1 a0)), (1, .int a1), (2, .int a2), (3, .int a3), (4, .int a4), (5, .int a5)]) dX8_flies_20 (by decide) rfl ?_
  refine r_aload_n (place := 2) dX8_flies_22 rfl rfl ?_
  refine r_getR dX8_flies_23 fg_X8_7 ta0 ?_
  refine r_iload (place := 0) dX8_flies_26 rfl ?_
  refine r_aload_n (place := 2) dX8_flies_28 rfl rfl ?_
  refine r_iload_n (place := 3) dX8_flies_29 rfl rfl ?_
  refine r_bipush dX8_flies_30 xb_9 ?_
  refine r_callVI (rest := [.int v4, .ref (G.1 (xrf a0 0))]) dX8_flies_32 m_X8_of lk_X8_166 rfl (by decide) ta0 (c_X8_of a0 ta0 a1 (9 : Int32) h3) (by decide) rfl rfl (Nat.le_of_ble_eq_true rfl) (fun v6 h5 => ?_)
  refine r_iast dX8_flies_35 (xt_7_0 ta0) (fun h7 => ?_)
  refine r_aload_n (place := 2) dX8_flies_36 rfl rfl ?_
  refine r_getR dX8_flies_37 fg_X8_7 ta0 ?_
  refine r_iload (place := 0) dX8_flies_40 rfl ?_
  refine r_iconst dX8_flies_42 xc_1 ?_
  refine r_iadd dX8_flies_43 ?_
  refine r_iload_n (place := 4) dX8_flies_44 rfl rfl ?_
  refine r_iast dX8_flies_45 (xt_7_0 ta0) (fun h8 => ?_)
  refine r_aload_n (place := 2) dX8_flies_46 rfl rfl ?_
  refine r_getR dX8_flies_47 fg_X8_7 ta0 ?_
  refine r_iload (place := 0) dX8_flies_50 rfl ?_
  refine r_iconst dX8_flies_52 xc_2 ?_
  refine r_iadd dX8_flies_53 ?_
  refine r_iload_n (place := 5) dX8_flies_54 rfl rfl ?_
  refine r_iast dX8_flies_55 (xt_7_0 ta0) (fun h9 => ?_)
  refine r_aload_n (place := 2) dX8_flies_56 rfl rfl ?_
  refine r_getR dX8_flies_57 fg_X8_7 ta0 ?_
  refine r_iload (place := 0) dX8_flies_60 rfl ?_
  refine r_iconst dX8_flies_62 xc_3 ?_
  refine r_iadd dX8_flies_63 ?_
  refine r_iload (place := 6) dX8_flies_64 rfl ?_
  refine r_iast dX8_flies_66 (xt_7_0 ta0) (fun h10 => ?_)
  refine r_aload_n (place := 2) dX8_flies_67 rfl rfl ?_
  refine r_getR dX8_flies_68 fg_X8_7 ta0 ?_
  refine r_iload (place := 0) dX8_flies_71 rfl ?_
  refine r_iconst dX8_flies_73 xc_4 ?_
  refine r_iadd dX8_flies_74 ?_
  refine r_iload (place := 7) dX8_flies_75 rfl ?_
  refine r_iast dX8_flies_77 (xt_7_0 ta0) (fun h11 => ?_)
  refine r_aload_n (place := 2) dX8_flies_78 rfl rfl ?_
  refine r_getR dX8_flies_79 fg_X8_7 ta0 ?_
  refine r_iload (place := 0) dX8_flies_82 rfl ?_
  refine r_iconst dX8_flies_84 xc_5 ?_
  refine r_iadd dX8_flies_85 ?_
  refine r_iconst dX8_flies_86 xc_0 ?_
  refine r_iast dX8_flies_87 (xt_7_0 ta0) (fun h12 => ?_)
  refine r_aload_n (place := 2) dX8_flies_88 rfl rfl ?_
  refine r_getR dX8_flies_89 fg_X8_7 ta0 ?_
  refine r_iload_n (place := 3) dX8_flies_92 rfl rfl ?_
  refine r_bipush dX8_flies_93 xb_9 ?_
  refine r_callSI (rest := [.ref (G.1 (xrf a0 0))]) dX8_flies_95 m_X8_at lk_X8_115 (c_X8_at a1 (9 : Int32) h12) (by decide) rfl rfl (Nat.le_of_ble_eq_true rfl) (fun v14 h13 => ?_)
  refine r_dup2 dX8_flies_98 rfl rfl ?_
  refine r_iald dX8_flies_99 (xt_7_0 ta0) (fun v15 => ?_)
  refine r_iconst dX8_flies_100 xc_1 ?_
  refine r_iadd dX8_flies_101 ?_
  refine r_iast dX8_flies_102 (xt_7_0 ta0) (fun h16 => ?_)
  refine r_aload_n (place := 2) dX8_flies_103 rfl rfl ?_
  refine r_getR dX8_flies_104 fg_X8_7 ta0 ?_
  refine r_iload_n (place := 3) dX8_flies_107 rfl rfl ?_
  refine r_iconst dX8_flies_108 xc_4 ?_
  refine r_callSI (rest := [.ref (G.1 (xrf a0 0))]) dX8_flies_109 m_X8_at lk_X8_115 (c_X8_at a1 (4 : Int32) h16) (by decide) rfl rfl (Nat.le_of_ble_eq_true rfl) (fun v18 h17 => ?_)
  refine r_dup2 dX8_flies_112 rfl rfl ?_
  refine r_iald dX8_flies_113 (xt_7_0 ta0) (fun v19 => ?_)
  refine r_iconst dX8_flies_114 xc_1 ?_
  refine r_iadd dX8_flies_115 ?_
  refine r_iast dX8_flies_116 (xt_7_0 ta0) (fun h20 => ?_)
  refine r_aload_n (place := 2) dX8_flies_117 rfl rfl ?_
  refine r_iload_n (place := 3) dX8_flies_118 rfl rfl ?_
  refine r_iload (place := 1) dX8_flies_119 rfl ?_
  refine r_callVV (rest := []) dX8_flies_121 m_X8_sends lk_X8_173 rfl (by decide) ta0 (c_X8_sends a0 ta0 a1 v2 h20) (by decide) rfl rfl (Nat.le_of_ble_eq_true rfl) (fun h21 => ?_)
  exact r_ret dX8_flies_124 rfl
def f_X8_queueGoesOn_88 (kk0 : Nat → Int32 → Mem → Option (Unit × Mem)) : Nat → Nat → Int32 → Int32 → Int32 → Int32 → Int32 → Int32 → Int32 → Mem → Option (Unit × Mem)
  | 0, _, _, _, _, _, _, _, _, _ => none
  | n + 1, a0, a1, a2, a3, a4, a5, a6, a7, h =>
    b2 (f_X8_of a0 a1 (5 : Int32) h) fun v2 h1 =>
    if ((4 : Int32) * v2) ≤ a7 then
        b2 (f_X8_flies a0 a1 a3 a4 a5 a6 h1) fun _ h3 =>
        kk0 a0 a1 h3
    else
        ald h1 (xrf a0 0) ((a2 + a7) + (4 : Int32)) fun v4 =>
        ast h1 (xrf a0 0) (a2 + a7) v4 fun h5 =>
        (f_X8_queueGoesOn_88 kk0 n) a0 a1 a2 a3 a4 a5 a6 (a7 + (1 : Int32)) h5
set_option maxRecDepth 20000 in
theorem t_X8_queueGoesOn_88 {G : xG} (kk0 : Nat → Int32 → Mem → Option (Unit × Mem)) (hk0 : ∀ (a0 : Nat) (a1 : Int32) (ta0 : xTy a0 7) (h : Mem), Rn G 5 FX8_queueGoesOn xcV 0 [(0, .ref (G.1 a0)), (1, .int a1)] [] h (kk0 a0 a1 h)) : ∀ (n : Nat) (a0 : Nat) (a1 : Int32) (a2 : Int32) (a3 : Int32) (a4 : Int32) (a5 : Int32) (a6 : Int32) (a7 : Int32) (ta0 : xTy a0 7) (h : Mem), Rn G 5 FX8_queueGoesOn xcV 88 [(0, .ref (G.1 a0)), (1, .int a1), (2, .int a2), (3, .int a3), (4, .int a4), (5, .int a5), (6, .int a6), (7, .int a7)] [] h (f_X8_queueGoesOn_88 kk0 n a0 a1 a2 a3 a4 a5 a6 a7 h) := by
  intro n
  induction n with
  | zero => intros; intro r hr; cases hr
  | succ n ih =>
    intro a0 a1 a2 a3 a4 a5 a6 a7 ta0 h
    unfold f_X8_queueGoesOn_88
    refine r_iload (place := 7) dX8_queueGoesOn_88 rfl ?_
    refine r_iconst dX8_queueGoesOn_90 xc_4 ?_
    refine r_aload_n (place := 0) dX8_queueGoesOn_91 rfl rfl ?_
    refine r_iload_n (place := 1) dX8_queueGoesOn_92 rfl rfl ?_
    refine r_iconst dX8_queueGoesOn_93 xc_5 ?_
    refine r_callVI (rest := [.int (4 : Int32), .int a7]) dX8_queueGoesOn_94 m_X8_of lk_X8_166 rfl (by decide) ta0 (c_X8_of a0 ta0 a1 (5 : Int32) h) (by decide) rfl rfl (Nat.le_of_ble_eq_true rfl) (fun v2 h1 => ?_)
    refine r_imul dX8_queueGoesOn_97 ?_
    refine r_ic_ge (tgt := 127) dX8_queueGoesOn_98 (by decide) ?_ ?_
    · refine r_aload_n (place := 0) dX8_queueGoesOn_127 rfl rfl ?_
      refine r_iload_n (place := 1) dX8_queueGoesOn_128 rfl rfl ?_
      refine r_iload_n (place := 3) dX8_queueGoesOn_129 rfl rfl ?_
      refine r_iload (place := 4) dX8_queueGoesOn_130 rfl ?_
      refine r_iload (place := 5) dX8_queueGoesOn_132 rfl ?_
      refine r_iload (place := 6) dX8_queueGoesOn_134 rfl ?_
      refine r_callVV (rest := []) dX8_queueGoesOn_136 m_X8_flies lk_X8_180 rfl (by decide) ta0 (c_X8_flies a0 ta0 a1 a3 a4 a5 a6 h1) (by decide) rfl rfl (Nat.le_of_ble_eq_true rfl) (fun h3 => ?_)
      refine r_goto (tgt := 0) dX8_queueGoesOn_139 (by decide) ?_
      exact r_sub [0, 1] rfl (hk0 a0 a1 ta0 h3)
    · refine r_aload_n (place := 0) dX8_queueGoesOn_101 rfl rfl ?_
      refine r_getR dX8_queueGoesOn_102 fg_X8_7 ta0 ?_
      refine r_iload_n (place := 2) dX8_queueGoesOn_105 rfl rfl ?_
      refine r_iload (place := 7) dX8_queueGoesOn_106 rfl ?_
      refine r_iadd dX8_queueGoesOn_108 ?_
      refine r_aload_n (place := 0) dX8_queueGoesOn_109 rfl rfl ?_
      refine r_getR dX8_queueGoesOn_110 fg_X8_7 ta0 ?_
      refine r_iload_n (place := 2) dX8_queueGoesOn_113 rfl rfl ?_
      refine r_iload (place := 7) dX8_queueGoesOn_114 rfl ?_
      refine r_iadd dX8_queueGoesOn_116 ?_
      refine r_iconst dX8_queueGoesOn_117 xc_4 ?_
      refine r_iadd dX8_queueGoesOn_118 ?_
      refine r_iald dX8_queueGoesOn_119 (xt_7_0 ta0) (fun v4 => ?_)
      refine r_iast dX8_queueGoesOn_120 (xt_7_0 ta0) (fun h5 => ?_)
      refine r_iincC (place := 7) (ls' := [(7, .int (a7 + (1 : Int32))), (0, .ref (G.1 a0)), (1, .int a1), (2, .int a2), (3, .int a3), (4, .int a4), (5, .int a5), (6, .int a6)]) dX8_queueGoesOn_121 rfl xc_1 (by decide) rfl ?_
      refine r_goto (tgt := 88) dX8_queueGoesOn_124 (by decide) ?_
      exact r_sub [1, 2, 3, 4, 5, 6, 7, 0] rfl (ih a0 a1 a2 a3 a4 a5 a6 (a7 + (1 : Int32)) ta0 h5)
def f_X8_queueGoesOn_0  : Nat → Nat → Int32 → Mem → Option (Unit × Mem)
  | 0, _, _, _ => none
  | n + 1, a0, a1, h =>
    b2 (f_X8_isAwake a0 a1 h) fun v2 h1 =>
    if v2 = 0 then
        some ((), h1)
    else
        b2 (f_X8_of a0 a1 (4 : Int32) h1) fun v4 h3 =>
        if (4 : Int32) ≤ v4 then
            some ((), h3)
        else
            b2 (f_X8_of a0 a1 (5 : Int32) h3) fun v6 h5 =>
            if v6 ≤ 0 then
                some ((), h5)
            else
                b2 (f_X8_at a1 (105 : Int32) h5) fun v8 h7 =>
                ald h7 (xrf a0 0) v8 fun v9 =>
                ald h7 (xrf a0 0) (v8 + (1 : Int32)) fun v10 =>
                ald h7 (xrf a0 0) (v8 + (2 : Int32)) fun v11 =>
                ald h7 (xrf a0 0) (v8 + (3 : Int32)) fun v12 =>
                b2 (f_X8_at a1 (5 : Int32) h7) fun v14 h13 =>
                ald h13 (xrf a0 0) v14 fun v15 =>
                ast h13 (xrf a0 0) v14 (v15 - (1 : Int32)) fun h16 =>
                f_X8_queueGoesOn_88 (f_X8_queueGoesOn_0 n) xFU a0 a1 v8 v9 v10 v11 v12 (0 : Int32) h16
set_option maxRecDepth 20000 in
theorem t_X8_queueGoesOn_0 {G : xG}  : ∀ (n : Nat) (a0 : Nat) (a1 : Int32) (ta0 : xTy a0 7) (h : Mem), Rn G 5 FX8_queueGoesOn xcV 0 [(0, .ref (G.1 a0)), (1, .int a1)] [] h (f_X8_queueGoesOn_0 n a0 a1 h) := by
  intro n
  induction n with
  | zero => intros; intro r hr; cases hr
  | succ n ih =>
    intro a0 a1 ta0 h
    unfold f_X8_queueGoesOn_0
    refine r_aload_n (place := 0) dX8_queueGoesOn_0 rfl rfl ?_
    refine r_iload_n (place := 1) dX8_queueGoesOn_1 rfl rfl ?_
    refine r_callVI (rest := []) dX8_queueGoesOn_2 m_X8_isAwake lk_X8_177 rfl (by decide) ta0 (c_X8_isAwake a0 ta0 a1 h) (by decide) rfl rfl (Nat.le_of_ble_eq_true rfl) (fun v2 h1 => ?_)
    refine r_if_eq (tgt := 142) dX8_queueGoesOn_5 (by decide) ?_ ?_
    · exact r_ret dX8_queueGoesOn_142 rfl
    · refine r_aload_n (place := 0) dX8_queueGoesOn_8 rfl rfl ?_
      refine r_iload_n (place := 1) dX8_queueGoesOn_9 rfl rfl ?_
      refine r_iconst dX8_queueGoesOn_10 xc_4 ?_
      refine r_callVI (rest := []) dX8_queueGoesOn_11 m_X8_of lk_X8_166 rfl (by decide) ta0 (c_X8_of a0 ta0 a1 (4 : Int32) h1) (by decide) rfl rfl (Nat.le_of_ble_eq_true rfl) (fun v4 h3 => ?_)
      refine r_iconst dX8_queueGoesOn_14 xc_4 ?_
      refine r_ic_ge (tgt := 142) dX8_queueGoesOn_15 (by decide) ?_ ?_
      · exact r_ret dX8_queueGoesOn_142 rfl
      · refine r_aload_n (place := 0) dX8_queueGoesOn_18 rfl rfl ?_
        refine r_iload_n (place := 1) dX8_queueGoesOn_19 rfl rfl ?_
        refine r_iconst dX8_queueGoesOn_20 xc_5 ?_
        refine r_callVI (rest := []) dX8_queueGoesOn_21 m_X8_of lk_X8_166 rfl (by decide) ta0 (c_X8_of a0 ta0 a1 (5 : Int32) h3) (by decide) rfl rfl (Nat.le_of_ble_eq_true rfl) (fun v6 h5 => ?_)
        refine r_if_le (tgt := 142) dX8_queueGoesOn_24 (by decide) ?_ ?_
        · exact r_ret dX8_queueGoesOn_142 rfl
        · refine r_iload_n (place := 1) dX8_queueGoesOn_27 rfl rfl ?_
          refine r_bipush dX8_queueGoesOn_28 xb_105 ?_
          refine r_callSI (rest := []) dX8_queueGoesOn_30 m_X8_at lk_X8_115 (c_X8_at a1 (105 : Int32) h5) (by decide) rfl rfl (Nat.le_of_ble_eq_true rfl) (fun v8 h7 => ?_)
          refine r_istore_n (ls' := [(2, .int v8), (0, .ref (G.1 a0)), (1, .int a1)]) dX8_queueGoesOn_33 rfl (by decide) rfl ?_
          refine r_aload_n (place := 1) dX8_queueGoesOn_34 rfl rfl ?_
          refine r_getR dX8_queueGoesOn_35 fg_X8_7 ta0 ?_
          refine r_iload_n (place := 0) dX8_queueGoesOn_38 rfl rfl ?_
          refine r_iald dX8_queueGoesOn_39 (xt_7_0 ta0) (fun v9 => ?_)
          refine r_istore_n (ls' := [(3, .int v9), (2, .int v8), (0, .ref (G.1 a0)), (1, .int a1)]) dX8_queueGoesOn_40 rfl (by decide) rfl ?_
          refine r_aload_n (place := 2) dX8_queueGoesOn_41 rfl rfl ?_
          refine r_getR dX8_queueGoesOn_42 fg_X8_7 ta0 ?_
          refine r_iload_n (place := 1) dX8_queueGoesOn_45 rfl rfl ?_
          refine r_iconst dX8_queueGoesOn_46 xc_1 ?_
          refine r_iadd dX8_queueGoesOn_47 ?_
          refine r_iald dX8_queueGoesOn_48 (xt_7_0 ta0) (fun v10 => ?_)
          refine r_istore (ls' := [(4, .int v10), (3, .int v9), (2, .int v8), (0, .ref (G.1 a0)), (1, .int a1)]) dX8_queueGoesOn_49 (by decide) rfl ?_
          refine r_aload_n (place := 3) dX8_queueGoesOn_51 rfl rfl ?_
          refine r_getR dX8_queueGoesOn_52 fg_X8_7 ta0 ?_
          refine r_iload_n (place := 2) dX8_queueGoesOn_55 rfl rfl ?_
          refine r_iconst dX8_queueGoesOn_56 xc_2 ?_
          refine r_iadd dX8_queueGoesOn_57 ?_
          refine r_iald dX8_queueGoesOn_58 (xt_7_0 ta0) (fun v11 => ?_)
          refine r_istore (ls' := [(5, .int v11), (4, .int v10), (3, .int v9), (2, .int v8), (0, .ref (G.1 a0)), (1, .int a1)]) dX8_queueGoesOn_59 (by decide) rfl ?_
          refine r_aload_n (place := 4) dX8_queueGoesOn_61 rfl rfl ?_
          refine r_getR dX8_queueGoesOn_62 fg_X8_7 ta0 ?_
          refine r_iload_n (place := 3) dX8_queueGoesOn_65 rfl rfl ?_
          refine r_iconst dX8_queueGoesOn_66 xc_3 ?_
          refine r_iadd dX8_queueGoesOn_67 ?_
          refine r_iald dX8_queueGoesOn_68 (xt_7_0 ta0) (fun v12 => ?_)
          refine r_istore (ls' := [(6, .int v12), (5, .int v11), (4, .int v10), (3, .int v9), (2, .int v8), (0, .ref (G.1 a0)), (1, .int a1)]) dX8_queueGoesOn_69 (by decide) rfl ?_
          refine r_aload_n (place := 5) dX8_queueGoesOn_71 rfl rfl ?_
          refine r_getR dX8_queueGoesOn_72 fg_X8_7 ta0 ?_
          refine r_iload_n (place := 6) dX8_queueGoesOn_75 rfl rfl ?_
          refine r_iconst dX8_queueGoesOn_76 xc_5 ?_
          refine r_callSI (rest := [.ref (G.1 (xrf a0 0))]) dX8_queueGoesOn_77 m_X8_at lk_X8_115 (c_X8_at a1 (5 : Int32) h7) (by decide) rfl rfl (Nat.le_of_ble_eq_true rfl) (fun v14 h13 => ?_)
          refine r_dup2 dX8_queueGoesOn_80 rfl rfl ?_
          refine r_iald dX8_queueGoesOn_81 (xt_7_0 ta0) (fun v15 => ?_)
          refine r_iconst dX8_queueGoesOn_82 xc_1 ?_
          refine r_isub dX8_queueGoesOn_83 ?_
          refine r_iast dX8_queueGoesOn_84 (xt_7_0 ta0) (fun h16 => ?_)
          refine r_iconst dX8_queueGoesOn_85 xc_0 ?_
          refine r_istore (ls' := [(7, .int (0 : Int32)), (6, .int v12), (5, .int v11), (4, .int v10), (3, .int v9), (2, .int v8), (0, .ref (G.1 a0)), (1, .int a1)]) dX8_queueGoesOn_86 (by decide) rfl ?_
          exact r_sub [6, 7, 5, 4, 3, 2, 1, 0] rfl (t_X8_queueGoesOn_88 (f_X8_queueGoesOn_0 n) ih xFU a0 a1 v8 v9 v10 v11 v12 (0 : Int32) ta0 h16)
def f_X8_queueGoesOn (a0 : Nat) (a1 : Int32) (h : Mem) : Option (Unit × Mem) :=
  f_X8_queueGoesOn_0 xFU a0 a1 h
set_option maxRecDepth 20000 in
theorem c_X8_queueGoesOn {G : xG} (a0 : Nat) (ta0 : xTy a0 7) (a1 : Int32) (h : Mem) : Sm G 5 yX8_queueGoesOn FX8_queueGoesOn xcV [.ref (G.1 a0), .int a1] h (f_X8_queueGoesOn a0 a1 h) := by
  refine Sm.of pn_X8 rfl (Nat.le_of_ble_eq_true rfl) (ls := [(0, .ref (G.1 a0)), (1, .int a1)]) rfl ?_
  unfold f_X8_queueGoesOn
  exact r_sub [0, 1] rfl (t_X8_queueGoesOn_0 xFU a0 a1 ta0 h)
def f_X8_goes_92  (a0 : Nat) (a1 : Int32) (a2 : Int32) (a3 : Int32) (a4 : Int32) (a5 : Int32) (h : Mem) : Option (Unit × Mem) :=
  b2 (f_X8_of a0 a1 (5 : Int32) h) fun v2 h1 =>
  if (12 : Int32) ≤ v2 then
      ald h1 (xrf a0 0) (3 : Int32) fun v3 =>
      ast h1 (xrf a0 0) (3 : Int32) (v3 + (1 : Int32)) fun h4 =>
      some ((), h4)
  else
      b2 (f_X8_of a0 a1 (5 : Int32) h1) fun v6 h5 =>
      b2 (f_X8_at a1 ((105 : Int32) + ((4 : Int32) * v6)) h5) fun v8 h7 =>
      ast h7 (xrf a0 0) v8 a2 fun h9 =>
      ast h9 (xrf a0 0) (v8 + (1 : Int32)) a3 fun h10 =>
      ast h10 (xrf a0 0) (v8 + (2 : Int32)) a4 fun h11 =>
      ast h11 (xrf a0 0) (v8 + (3 : Int32)) a5 fun h12 =>
      b2 (f_X8_at a1 (5 : Int32) h12) fun v14 h13 =>
      ald h13 (xrf a0 0) v14 fun v15 =>
      ast h13 (xrf a0 0) v14 (v15 + (1 : Int32)) fun h16 =>
      some ((), h16)
set_option maxRecDepth 20000 in
theorem t_X8_goes_92 {G : xG}  (a0 : Nat) (a1 : Int32) (a2 : Int32) (a3 : Int32) (a4 : Int32) (a5 : Int32) (ta0 : xTy a0 7) (h : Mem) : Rn G 5 FX8_goes xcV 92 [(0, .ref (G.1 a0)), (1, .int a1), (2, .int a2), (3, .int a3), (4, .int a4), (5, .int a5)] [] h (f_X8_goes_92 a0 a1 a2 a3 a4 a5 h) := by
  unfold f_X8_goes_92
  refine r_aload_n (place := 0) dX8_goes_92 rfl rfl ?_
  refine r_iload_n (place := 1) dX8_goes_93 rfl rfl ?_
  refine r_iconst dX8_goes_94 xc_5 ?_
  refine r_callVI (rest := []) dX8_goes_95 m_X8_of lk_X8_166 rfl (by decide) ta0 (c_X8_of a0 ta0 a1 (5 : Int32) h) (by decide) rfl rfl (Nat.le_of_ble_eq_true rfl) (fun v2 h1 => ?_)
  refine r_bipush dX8_goes_98 xb_12 ?_
  refine r_ic_ge (tgt := 177) dX8_goes_100 (by decide) ?_ ?_
  · refine r_aload_n (place := 0) dX8_goes_177 rfl rfl ?_
    refine r_getR dX8_goes_178 fg_X8_7 ta0 ?_
    refine r_iconst dX8_goes_181 xc_3 ?_
    refine r_dup2 dX8_goes_182 rfl rfl ?_
    refine r_iald dX8_goes_183 (xt_7_0 ta0) (fun v3 => ?_)
    refine r_iconst dX8_goes_184 xc_1 ?_
    refine r_iadd dX8_goes_185 ?_
    refine r_iast dX8_goes_186 (xt_7_0 ta0) (fun h4 => ?_)
    exact r_ret dX8_goes_187 rfl
  · refine r_iload_n (place := 1) dX8_goes_103 rfl rfl ?_
    refine r_bipush dX8_goes_104 xb_105 ?_
    refine r_iconst dX8_goes_106 xc_4 ?_
    refine r_aload_n (place := 0) dX8_goes_107 rfl rfl ?_
    refine r_iload_n (place := 1) dX8_goes_108 rfl rfl ?_
    refine r_iconst dX8_goes_109 xc_5 ?_
    refine r_callVI (rest := [.int (4 : Int32), .int (105 : Int32), .int a1]) dX8_goes_110 m_X8_of lk_X8_166 rfl (by decide) ta0 (c_X8_of a0 ta0 a1 (5 : Int32) h1) (by decide) rfl rfl (Nat.le_of_ble_eq_true rfl) (fun v6 h5 => ?_)
    refine r_imul dX8_goes_113 ?_
    refine r_iadd dX8_goes_114 ?_
    refine r_callSI (rest := []) dX8_goes_115 m_X8_at lk_X8_115 (c_X8_at a1 ((105 : Int32) + ((4 : Int32) * v6)) h5) (by decide) rfl rfl (Nat.le_of_ble_eq_true rfl) (fun v8 h7 => ?_)
    refine r_istore (ls' := [(6, .int v8), (0, .ref (G.1 a0)), (1, .int a1), (2, .int a2), (3, .int a3), (4, .int a4), (5, .int a5)]) dX8_goes_118 (by decide) rfl ?_
    refine r_aload_n (place := 1) dX8_goes_120 rfl rfl ?_
    refine r_getR dX8_goes_121 fg_X8_7 ta0 ?_
    refine r_iload (place := 0) dX8_goes_124 rfl ?_
    refine r_iload_n (place := 3) dX8_goes_126 rfl rfl ?_
    refine r_iast dX8_goes_127 (xt_7_0 ta0) (fun h9 => ?_)
    refine r_aload_n (place := 1) dX8_goes_128 rfl rfl ?_
    refine r_getR dX8_goes_129 fg_X8_7 ta0 ?_
    refine r_iload (place := 0) dX8_goes_132 rfl ?_
    refine r_iconst dX8_goes_134 xc_1 ?_
    refine r_iadd dX8_goes_135 ?_
    refine r_iload_n (place := 4) dX8_goes_136 rfl rfl ?_
    refine r_iast dX8_goes_137 (xt_7_0 ta0) (fun h10 => ?_)
    refine r_aload_n (place := 1) dX8_goes_138 rfl rfl ?_
    refine r_getR dX8_goes_139 fg_X8_7 ta0 ?_
    refine r_iload (place := 0) dX8_goes_142 rfl ?_
    refine r_iconst dX8_goes_144 xc_2 ?_
    refine r_iadd dX8_goes_145 ?_
    refine r_iload (place := 5) dX8_goes_146 rfl ?_
    refine r_iast dX8_goes_148 (xt_7_0 ta0) (fun h11 => ?_)
    refine r_aload_n (place := 1) dX8_goes_149 rfl rfl ?_
    refine r_getR dX8_goes_150 fg_X8_7 ta0 ?_
    refine r_iload (place := 0) dX8_goes_153 rfl ?_
    refine r_iconst dX8_goes_155 xc_3 ?_
    refine r_iadd dX8_goes_156 ?_
    refine r_iload (place := 6) dX8_goes_157 rfl ?_
    refine r_iast dX8_goes_159 (xt_7_0 ta0) (fun h12 => ?_)
    refine r_aload_n (place := 1) dX8_goes_160 rfl rfl ?_
    refine r_getR dX8_goes_161 fg_X8_7 ta0 ?_
    refine r_iload_n (place := 2) dX8_goes_164 rfl rfl ?_
    refine r_iconst dX8_goes_165 xc_5 ?_
    refine r_callSI (rest := [.ref (G.1 (xrf a0 0))]) dX8_goes_166 m_X8_at lk_X8_115 (c_X8_at a1 (5 : Int32) h12) (by decide) rfl rfl (Nat.le_of_ble_eq_true rfl) (fun v14 h13 => ?_)
    refine r_dup2 dX8_goes_169 rfl rfl ?_
    refine r_iald dX8_goes_170 (xt_7_0 ta0) (fun v15 => ?_)
    refine r_iconst dX8_goes_171 xc_1 ?_
    refine r_iadd dX8_goes_172 ?_
    refine r_iast dX8_goes_173 (xt_7_0 ta0) (fun h16 => ?_)
    refine r_goto (tgt := 187) dX8_goes_174 (by decide) ?_
    exact r_ret dX8_goes_187 rfl
def f_X8_goes (a0 : Nat) (a1 : Int32) (a2 : Int32) (a3 : Int32) (a4 : Int32) (a5 : Int32) (h : Mem) : Option (Unit × Mem) :=
  ald h (xrf a0 0) (2 : Int32) fun v1 =>
  ast h (xrf a0 0) (2 : Int32) (v1 + (1 : Int32)) fun h2 =>
  if a3 = 0 then
      b2 (f_X8_isAwake a0 a1 h2) fun v11 h10 =>
      if v11 = 0 then
          ald h10 (xrf a0 0) (3 : Int32) fun v12 =>
          ast h10 (xrf a0 0) (3 : Int32) (v12 + (1 : Int32)) fun h13 =>
          some ((), h13)
      else
          b2 (f_X8_packetDown a0 a1 (0 : Int32) (0 : Int32) a2 (0 : Int32) a4 a5 h10) fun _ h14 =>
          some ((), h14)
  else
      b2 (f_X8_isAwake a0 a1 h2) fun v4 h3 =>
      if v4 = 0 then
          f_X8_goes_92 a0 a1 a2 a3 a4 a5 h3
      else
          b2 (f_X8_of a0 a1 (5 : Int32) h3) fun v6 h5 =>
          if v6 = 0 then
              b2 (f_X8_of a0 a1 (4 : Int32) h5) fun v8 h7 =>
              if (4 : Int32) ≤ v8 then
                  f_X8_goes_92 a0 a1 a2 a3 a4 a5 h7
              else
                  b2 (f_X8_flies a0 a1 a2 a3 a4 a5 h7) fun _ h9 =>
                  some ((), h9)
          else
              f_X8_goes_92 a0 a1 a2 a3 a4 a5 h5
set_option maxRecDepth 20000 in
theorem c_X8_goes {G : xG} (a0 : Nat) (ta0 : xTy a0 7) (a1 : Int32) (a2 : Int32) (a3 : Int32) (a4 : Int32) (a5 : Int32) (h : Mem) : Sm G 5 yX8_goes FX8_goes xcV [.ref (G.1 a0), .int a1, .int a2, .int a3, .int a4, .int a5] h (f_X8_goes a0 a1 a2 a3 a4 a5 h) := by
  refine Sm.of pn_X8 rfl (Nat.le_of_ble_eq_true rfl) (ls := [(0, .ref (G.1 a0)), (1, .int a1), (2, .int a2), (3, .int a3), (4, .int a4), (5, .int a5)]) rfl ?_
  unfold f_X8_goes
  refine r_aload_n (place := 0) dX8_goes_0 rfl rfl ?_
  refine r_getR dX8_goes_1 fg_X8_7 ta0 ?_
  refine r_iconst dX8_goes_4 xc_2 ?_
  refine r_dup2 dX8_goes_5 rfl rfl ?_
  refine r_iald dX8_goes_6 (xt_7_0 ta0) (fun v1 => ?_)
  refine r_iconst dX8_goes_7 xc_1 ?_
  refine r_iadd dX8_goes_8 ?_
  refine r_iast dX8_goes_9 (xt_7_0 ta0) (fun h2 => ?_)
  refine r_iload_n (place := 3) dX8_goes_10 rfl rfl ?_
  refine r_if_ne (tgt := 51) dX8_goes_11 (by decide) ?_ ?_
  · refine r_aload_n (place := 0) dX8_goes_51 rfl rfl ?_
    refine r_iload_n (place := 1) dX8_goes_52 rfl rfl ?_
    refine r_callVI (rest := []) dX8_goes_53 m_X8_isAwake lk_X8_177 rfl (by decide) ta0 (c_X8_isAwake a0 ta0 a1 h2) (by decide) rfl rfl (Nat.le_of_ble_eq_true rfl) (fun v4 h3 => ?_)
    refine r_if_eq (tgt := 92) dX8_goes_56 (by decide) ?_ ?_
    · exact r_sub [0, 1, 2, 3, 4, 5] rfl (t_X8_goes_92 a0 a1 a2 a3 a4 a5 ta0 h3)
    · refine r_aload_n (place := 0) dX8_goes_59 rfl rfl ?_
      refine r_iload_n (place := 1) dX8_goes_60 rfl rfl ?_
      refine r_iconst dX8_goes_61 xc_5 ?_
      refine r_callVI (rest := []) dX8_goes_62 m_X8_of lk_X8_166 rfl (by decide) ta0 (c_X8_of a0 ta0 a1 (5 : Int32) h3) (by decide) rfl rfl (Nat.le_of_ble_eq_true rfl) (fun v6 h5 => ?_)
      refine r_if_ne (tgt := 92) dX8_goes_65 (by decide) ?_ ?_
      · exact r_sub [0, 1, 2, 3, 4, 5] rfl (t_X8_goes_92 a0 a1 a2 a3 a4 a5 ta0 h5)
      · refine r_aload_n (place := 0) dX8_goes_68 rfl rfl ?_
        refine r_iload_n (place := 1) dX8_goes_69 rfl rfl ?_
        refine r_iconst dX8_goes_70 xc_4 ?_
        refine r_callVI (rest := []) dX8_goes_71 m_X8_of lk_X8_166 rfl (by decide) ta0 (c_X8_of a0 ta0 a1 (4 : Int32) h5) (by decide) rfl rfl (Nat.le_of_ble_eq_true rfl) (fun v8 h7 => ?_)
        refine r_iconst dX8_goes_74 xc_4 ?_
        refine r_ic_ge (tgt := 92) dX8_goes_75 (by decide) ?_ ?_
        · exact r_sub [0, 1, 2, 3, 4, 5] rfl (t_X8_goes_92 a0 a1 a2 a3 a4 a5 ta0 h7)
        · refine r_aload_n (place := 0) dX8_goes_78 rfl rfl ?_
          refine r_iload_n (place := 1) dX8_goes_79 rfl rfl ?_
          refine r_iload_n (place := 2) dX8_goes_80 rfl rfl ?_
          refine r_iload_n (place := 3) dX8_goes_81 rfl rfl ?_
          refine r_iload (place := 4) dX8_goes_82 rfl ?_
          refine r_iload (place := 5) dX8_goes_84 rfl ?_
          refine r_callVV (rest := []) dX8_goes_86 m_X8_flies lk_X8_180 rfl (by decide) ta0 (c_X8_flies a0 ta0 a1 a2 a3 a4 a5 h7) (by decide) rfl rfl (Nat.le_of_ble_eq_true rfl) (fun h9 => ?_)
          refine r_goto (tgt := 187) dX8_goes_89 (by decide) ?_
          exact r_ret dX8_goes_187 rfl
  · refine r_aload_n (place := 0) dX8_goes_14 rfl rfl ?_
    refine r_iload_n (place := 1) dX8_goes_15 rfl rfl ?_
    refine r_callVI (rest := []) dX8_goes_16 m_X8_isAwake lk_X8_177 rfl (by decide) ta0 (c_X8_isAwake a0 ta0 a1 h2) (by decide) rfl rfl (Nat.le_of_ble_eq_true rfl) (fun v11 h10 => ?_)
    refine r_if_eq (tgt := 38) dX8_goes_19 (by decide) ?_ ?_
    · refine r_aload_n (place := 0) dX8_goes_38 rfl rfl ?_
      refine r_getR dX8_goes_39 fg_X8_7 ta0 ?_
      refine r_iconst dX8_goes_42 xc_3 ?_
      refine r_dup2 dX8_goes_43 rfl rfl ?_
      refine r_iald dX8_goes_44 (xt_7_0 ta0) (fun v12 => ?_)
      refine r_iconst dX8_goes_45 xc_1 ?_
      refine r_iadd dX8_goes_46 ?_
      refine r_iast dX8_goes_47 (xt_7_0 ta0) (fun h13 => ?_)
      refine r_goto (tgt := 187) dX8_goes_48 (by decide) ?_
      exact r_ret dX8_goes_187 rfl
    · refine r_aload_n (place := 0) dX8_goes_22 rfl rfl ?_
      refine r_iload_n (place := 1) dX8_goes_23 rfl rfl ?_
      refine r_iconst dX8_goes_24 xc_0 ?_
      refine r_iconst dX8_goes_25 xc_0 ?_
      refine r_iload_n (place := 2) dX8_goes_26 rfl rfl ?_
      refine r_iconst dX8_goes_27 xc_0 ?_
      refine r_iload (place := 4) dX8_goes_28 rfl ?_
      refine r_iload (place := 5) dX8_goes_30 rfl ?_
      refine r_callVV (rest := []) dX8_goes_32 m_X8_packetDown lk_X8_169 rfl (by decide) ta0 (c_X8_packetDown a0 ta0 a1 (0 : Int32) (0 : Int32) a2 (0 : Int32) a4 a5 h10) (by decide) rfl rfl (Nat.le_of_ble_eq_true rfl) (fun h14 => ?_)
      refine r_goto (tgt := 187) dX8_goes_35 (by decide) ?_
      exact r_ret dX8_goes_187 rfl
def f_X8_widest_79 (kk6 : Nat → Int32 → Nat → Int32 → Int32 → Mem → Option (Int32 × Mem)) (a0 : Nat) (a1 : Int32) (a2 : Nat) (a4 : Int32) (s0 : Int32) (h : Mem) : Option (Int32 × Mem) :=
  kk6 a0 a1 a2 s0 (a4 + (1 : Int32)) h
set_option maxRecDepth 20000 in
theorem t_X8_widest_79 {G : xG} (kk6 : Nat → Int32 → Nat → Int32 → Int32 → Mem → Option (Int32 × Mem)) (hk6 : ∀ (a0 : Nat) (a1 : Int32) (a2 : Nat) (a3 : Int32) (a4 : Int32) (ta0 : xTy a0 7) (ta2 : xTy a2 8) (h : Mem), Rn G 2 FX8_widest xcI 6 [(0, .ref (G.1 a0)), (1, .int a1), (2, .ref (G.1 a2)), (3, .int a3), (4, .int a4)] [] h (kk6 a0 a1 a2 a3 a4 h)) (a0 : Nat) (a1 : Int32) (a2 : Nat) (a4 : Int32) (s0 : Int32) (ta0 : xTy a0 7) (ta2 : xTy a2 8) (h : Mem) : Rn G 2 FX8_widest xcI 79 [(0, .ref (G.1 a0)), (1, .int a1), (2, .ref (G.1 a2)), (4, .int a4)] [.int s0] h (f_X8_widest_79 kk6 a0 a1 a2 a4 s0 h) := by
  unfold f_X8_widest_79
  refine r_istore_n (ls' := [(3, .int s0), (0, .ref (G.1 a0)), (1, .int a1), (2, .ref (G.1 a2)), (4, .int a4)]) dX8_widest_79 rfl (by decide) rfl ?_
  refine r_iincC (place := 4) (ls' := [(4, .int (a4 + (1 : Int32))), (3, .int s0), (0, .ref (G.1 a0)), (1, .int a1), (2, .ref (G.1 a2))]) dX8_widest_80 rfl xc_1 (by decide) rfl ?_
  refine r_goto (tgt := 6) dX8_widest_83 (by decide) ?_
  exact r_sub [2, 3, 4, 1, 0] rfl (hk6 a0 a1 a2 s0 (a4 + (1 : Int32)) ta0 ta2 h)
def f_X8_widest_78 (kk6 : Nat → Int32 → Nat → Int32 → Int32 → Mem → Option (Int32 × Mem)) (a0 : Nat) (a1 : Int32) (a2 : Nat) (a3 : Int32) (a4 : Int32) (h : Mem) : Option (Int32 × Mem) :=
  f_X8_widest_79 kk6 a0 a1 a2 a4 a3 h
set_option maxRecDepth 20000 in
theorem t_X8_widest_78 {G : xG} (kk6 : Nat → Int32 → Nat → Int32 → Int32 → Mem → Option (Int32 × Mem)) (hk6 : ∀ (a0 : Nat) (a1 : Int32) (a2 : Nat) (a3 : Int32) (a4 : Int32) (ta0 : xTy a0 7) (ta2 : xTy a2 8) (h : Mem), Rn G 2 FX8_widest xcI 6 [(0, .ref (G.1 a0)), (1, .int a1), (2, .ref (G.1 a2)), (3, .int a3), (4, .int a4)] [] h (kk6 a0 a1 a2 a3 a4 h)) (a0 : Nat) (a1 : Int32) (a2 : Nat) (a3 : Int32) (a4 : Int32) (ta0 : xTy a0 7) (ta2 : xTy a2 8) (h : Mem) : Rn G 2 FX8_widest xcI 78 [(0, .ref (G.1 a0)), (1, .int a1), (2, .ref (G.1 a2)), (3, .int a3), (4, .int a4)] [] h (f_X8_widest_78 kk6 a0 a1 a2 a3 a4 h) := by
  unfold f_X8_widest_78
  refine r_iload_n (place := 3) dX8_widest_78 rfl rfl ?_
  exact r_sub [0, 1, 2, 4] rfl (t_X8_widest_79 kk6 hk6 a0 a1 a2 a4 a3 ta0 ta2 h)
def f_X8_widest_6  : Nat → Nat → Int32 → Nat → Int32 → Int32 → Mem → Option (Int32 × Mem)
  | 0, _, _, _, _, _, _ => none
  | n + 1, a0, a1, a2, a3, a4, h =>
    b2 (f_X8_of a0 a1 (3 : Int32) h) fun v2 h1 =>
    if v2 ≤ a4 then
        some (a3, h1)
    else
        b2 (f_X8_at a1 ((45 : Int32) + ((6 : Int32) * a4)) h1) fun v4 h3 =>
        ald h3 (xrf a0 0) (v4 + (5 : Int32)) fun v5 =>
        if v5 = 0 then
            b2 (f_X8_isMatching a0 v4 a2 h3) fun v7 h6 =>
            if v7 = 0 then
                f_X8_widest_78 (f_X8_widest_6 n) a0 a1 a2 a3 a4 h6
            else
                ald h6 (xrf a0 0) (v4 + (4 : Int32)) fun v8 =>
                if v8 ≤ a3 then
                    f_X8_widest_78 (f_X8_widest_6 n) a0 a1 a2 a3 a4 h6
                else
                    ald h6 (xrf a0 0) (v4 + (4 : Int32)) fun v9 =>
                    f_X8_widest_79 (f_X8_widest_6 n) a0 a1 a2 a4 v9 h6
        else
            f_X8_widest_78 (f_X8_widest_6 n) a0 a1 a2 a3 a4 h3
set_option maxRecDepth 20000 in
theorem t_X8_widest_6 {G : xG}  : ∀ (n : Nat) (a0 : Nat) (a1 : Int32) (a2 : Nat) (a3 : Int32) (a4 : Int32) (ta0 : xTy a0 7) (ta2 : xTy a2 8) (h : Mem), Rn G 2 FX8_widest xcI 6 [(0, .ref (G.1 a0)), (1, .int a1), (2, .ref (G.1 a2)), (3, .int a3), (4, .int a4)] [] h (f_X8_widest_6 n a0 a1 a2 a3 a4 h) := by
  intro n
  induction n with
  | zero => intros; intro r hr; cases hr
  | succ n ih =>
    intro a0 a1 a2 a3 a4 ta0 ta2 h
    unfold f_X8_widest_6
    refine r_iload (place := 4) dX8_widest_6 rfl ?_
    refine r_aload_n (place := 0) dX8_widest_8 rfl rfl ?_
    refine r_iload_n (place := 1) dX8_widest_9 rfl rfl ?_
    refine r_iconst dX8_widest_10 xc_3 ?_
    refine r_callVI (rest := [.int a4]) dX8_widest_11 m_X8_of lk_X8_166 rfl (by decide) ta0 (c_X8_of a0 ta0 a1 (3 : Int32) h) (by decide) rfl rfl (Nat.le_of_ble_eq_true rfl) (fun v2 h1 => ?_)
    refine r_ic_ge (tgt := 86) dX8_widest_14 (by decide) ?_ ?_
    · refine r_iload_n (place := 3) dX8_widest_86 rfl rfl ?_
      exact r_iret dX8_widest_87 rfl
    · refine r_iload_n (place := 1) dX8_widest_17 rfl rfl ?_
      refine r_bipush dX8_widest_18 xb_45 ?_
      refine r_bipush dX8_widest_20 xb_6 ?_
      refine r_iload (place := 4) dX8_widest_22 rfl ?_
      refine r_imul dX8_widest_24 ?_
      refine r_iadd dX8_widest_25 ?_
      refine r_callSI (rest := []) dX8_widest_26 m_X8_at lk_X8_115 (c_X8_at a1 ((45 : Int32) + ((6 : Int32) * a4)) h1) (by decide) rfl rfl (Nat.le_of_ble_eq_true rfl) (fun v4 h3 => ?_)
      refine r_istore (ls' := [(5, .int v4), (0, .ref (G.1 a0)), (1, .int a1), (2, .ref (G.1 a2)), (3, .int a3), (4, .int a4)]) dX8_widest_29 (by decide) rfl ?_
      refine r_aload_n (place := 1) dX8_widest_31 rfl rfl ?_
      refine r_getR dX8_widest_32 fg_X8_7 ta0 ?_
      refine r_iload (place := 0) dX8_widest_35 rfl ?_
      refine r_iconst dX8_widest_37 xc_5 ?_
      refine r_iadd dX8_widest_38 ?_
      refine r_iald dX8_widest_39 (xt_7_0 ta0) (fun v5 => ?_)
      refine r_if_ne (tgt := 78) dX8_widest_40 (by decide) ?_ ?_
      · exact r_sub [1, 2, 3, 4, 5] rfl (t_X8_widest_78 (f_X8_widest_6 n) ih a0 a1 a2 a3 a4 ta0 ta2 h3)
      · refine r_aload_n (place := 1) dX8_widest_43 rfl rfl ?_
        refine r_iload (place := 0) dX8_widest_44 rfl ?_
        refine r_aload_n (place := 3) dX8_widest_46 rfl rfl ?_
        refine r_callVI (rest := []) dX8_widest_47 m_X8_isMatching lk_X8_184 rfl (by decide) ta0 (c_X8_isMatching a0 ta0 v4 a2 ta2 h3) (by decide) rfl rfl (Nat.le_of_ble_eq_true rfl) (fun v7 h6 => ?_)
        refine r_if_eq (tgt := 78) dX8_widest_50 (by decide) ?_ ?_
        · exact r_sub [1, 2, 3, 4, 5] rfl (t_X8_widest_78 (f_X8_widest_6 n) ih a0 a1 a2 a3 a4 ta0 ta2 h6)
        · refine r_aload_n (place := 1) dX8_widest_53 rfl rfl ?_
          refine r_getR dX8_widest_54 fg_X8_7 ta0 ?_
          refine r_iload (place := 0) dX8_widest_57 rfl ?_
          refine r_iconst dX8_widest_59 xc_4 ?_
          refine r_iadd dX8_widest_60 ?_
          refine r_iald dX8_widest_61 (xt_7_0 ta0) (fun v8 => ?_)
          refine r_iload_n (place := 4) dX8_widest_62 rfl rfl ?_
          refine r_ic_le (tgt := 78) dX8_widest_63 (by decide) ?_ ?_
          · exact r_sub [1, 2, 3, 4, 5] rfl (t_X8_widest_78 (f_X8_widest_6 n) ih a0 a1 a2 a3 a4 ta0 ta2 h6)
          · refine r_aload_n (place := 1) dX8_widest_66 rfl rfl ?_
            refine r_getR dX8_widest_67 fg_X8_7 ta0 ?_
            refine r_iload (place := 0) dX8_widest_70 rfl ?_
            refine r_iconst dX8_widest_72 xc_4 ?_
            refine r_iadd dX8_widest_73 ?_
            refine r_iald dX8_widest_74 (xt_7_0 ta0) (fun v9 => ?_)
            refine r_goto (tgt := 79) dX8_widest_75 (by decide) ?_
            exact r_sub [1, 2, 3, 5] rfl (t_X8_widest_79 (f_X8_widest_6 n) ih a0 a1 a2 a4 v9 ta0 ta2 h6)
def f_X8_widest (a0 : Nat) (a1 : Int32) (a2 : Nat) (h : Mem) : Option (Int32 × Mem) :=
  f_X8_widest_6 xFU a0 a1 a2 (-4 : Int32) (0 : Int32) h
set_option maxRecDepth 20000 in
theorem c_X8_widest {G : xG} (a0 : Nat) (ta0 : xTy a0 7) (a1 : Int32) (a2 : Nat) (ta2 : xTy a2 8) (h : Mem) : Sm G 2 yX8_widest FX8_widest xcI [.ref (G.1 a0), .int a1, .ref (G.1 a2)] h (f_X8_widest a0 a1 a2 h) := by
  refine Sm.of pn_X8 rfl (Nat.le_of_ble_eq_true rfl) (ls := [(0, .ref (G.1 a0)), (1, .int a1), (2, .ref (G.1 a2))]) rfl ?_
  unfold f_X8_widest
  refine r_bipush dX8_widest_0 xb_m4 ?_
  refine r_istore_n (ls' := [(3, .int (-4 : Int32)), (0, .ref (G.1 a0)), (1, .int a1), (2, .ref (G.1 a2))]) dX8_widest_2 rfl (by decide) rfl ?_
  refine r_iconst dX8_widest_3 xc_0 ?_
  refine r_istore (ls' := [(4, .int (0 : Int32)), (3, .int (-4 : Int32)), (0, .ref (G.1 a0)), (1, .int a1), (2, .ref (G.1 a2))]) dX8_widest_4 (by decide) rfl ?_
  exact r_sub [2, 3, 4, 1, 0] rfl (t_X8_widest_6 xFU a0 a1 a2 (-4 : Int32) (0 : Int32) ta0 ta2 h)
def f_X8_keptGoes_8  : Nat → Nat → Int32 → Mem → Option (Unit × Mem)
  | 0, _, _, _ => none
  | n + 1, a0, a2, h =>
    ald h (xrf a0 0) (6 : Int32) fun v1 =>
    if ((8 : Int32) + ((7 : Int32) * (v1 - (1 : Int32)))) ≤ a2 then
        ald h (xrf a0 0) (6 : Int32) fun v2 =>
        ast h (xrf a0 0) (6 : Int32) (v2 - (1 : Int32)) fun h3 =>
        some ((), h3)
    else
        ald h (xrf a0 0) (a2 + (7 : Int32)) fun v4 =>
        ast h (xrf a0 0) a2 v4 fun h5 =>
        (f_X8_keptGoes_8 n) a0 (a2 + (1 : Int32)) h5
set_option maxRecDepth 20000 in
theorem t_X8_keptGoes_8 {G : xG}  : ∀ (n : Nat) (a0 : Nat) (a2 : Int32) (ta0 : xTy a0 7) (h : Mem), Rn G 0 FX8_keptGoes xcV 8 [(0, .ref (G.1 a0)), (2, .int a2)] [] h (f_X8_keptGoes_8 n a0 a2 h) := by
  intro n
  induction n with
  | zero => intros; intro r hr; cases hr
  | succ n ih =>
    intro a0 a2 ta0 h
    unfold f_X8_keptGoes_8
    refine r_iload_n (place := 1) dX8_keptGoes_8 rfl rfl ?_
    refine r_bipush dX8_keptGoes_9 xb_8 ?_
    refine r_bipush dX8_keptGoes_11 xb_7 ?_
    refine r_aload_n (place := 0) dX8_keptGoes_13 rfl rfl ?_
    refine r_getR dX8_keptGoes_14 fg_X8_7 ta0 ?_
    refine r_bipush dX8_keptGoes_17 xb_6 ?_
    refine r_iald dX8_keptGoes_19 (xt_7_0 ta0) (fun v1 => ?_)
    refine r_iconst dX8_keptGoes_20 xc_1 ?_
    refine r_isub dX8_keptGoes_21 ?_
    refine r_imul dX8_keptGoes_22 ?_
    refine r_iadd dX8_keptGoes_23 ?_
    refine r_ic_ge (tgt := 48) dX8_keptGoes_24 (by decide) ?_ ?_
    · refine r_aload_n (place := 0) dX8_keptGoes_48 rfl rfl ?_
      refine r_getR dX8_keptGoes_49 fg_X8_7 ta0 ?_
      refine r_bipush dX8_keptGoes_52 xb_6 ?_
      refine r_dup2 dX8_keptGoes_54 rfl rfl ?_
      refine r_iald dX8_keptGoes_55 (xt_7_0 ta0) (fun v2 => ?_)
      refine r_iconst dX8_keptGoes_56 xc_1 ?_
      refine r_isub dX8_keptGoes_57 ?_
      refine r_iast dX8_keptGoes_58 (xt_7_0 ta0) (fun h3 => ?_)
      exact r_ret dX8_keptGoes_59 rfl
    · refine r_aload_n (place := 0) dX8_keptGoes_27 rfl rfl ?_
      refine r_getR dX8_keptGoes_28 fg_X8_7 ta0 ?_
      refine r_iload_n (place := 1) dX8_keptGoes_31 rfl rfl ?_
      refine r_aload_n (place := 0) dX8_keptGoes_32 rfl rfl ?_
      refine r_getR dX8_keptGoes_33 fg_X8_7 ta0 ?_
      refine r_iload_n (place := 1) dX8_keptGoes_36 rfl rfl ?_
      refine r_bipush dX8_keptGoes_37 xb_7 ?_
      refine r_iadd dX8_keptGoes_39 ?_
      refine r_iald dX8_keptGoes_40 (xt_7_0 ta0) (fun v4 => ?_)
      refine r_iast dX8_keptGoes_41 (xt_7_0 ta0) (fun h5 => ?_)
      refine r_iincC (place := 1) (ls' := [(2, .int (a2 + (1 : Int32))), (0, .ref (G.1 a0))]) dX8_keptGoes_42 rfl xc_1 (by decide) rfl ?_
      refine r_goto (tgt := 8) dX8_keptGoes_45 (by decide) ?_
      exact r_sub [1, 0] rfl (ih a0 (a2 + (1 : Int32)) ta0 h5)
def f_X8_keptGoes (a0 : Nat) (a1 : Int32) (h : Mem) : Option (Unit × Mem) :=
  f_X8_keptGoes_8 xFU a0 ((8 : Int32) + ((7 : Int32) * a1)) h
set_option maxRecDepth 20000 in
theorem c_X8_keptGoes {G : xG} (a0 : Nat) (ta0 : xTy a0 7) (a1 : Int32) (h : Mem) : Sm G 0 yX8_keptGoes FX8_keptGoes xcV [.ref (G.1 a0), .int a1] h (f_X8_keptGoes a0 a1 h) := by
  refine Sm.of pn_X8 rfl (Nat.le_of_ble_eq_true rfl) (ls := [(0, .ref (G.1 a0)), (1, .int a1)]) rfl ?_
  unfold f_X8_keptGoes
  refine r_bipush dX8_keptGoes_0 xb_8 ?_
  refine r_bipush dX8_keptGoes_2 xb_7 ?_
  refine r_iload_n (place := 1) dX8_keptGoes_4 rfl rfl ?_
  refine r_imul dX8_keptGoes_5 ?_
  refine r_iadd dX8_keptGoes_6 ?_
  refine r_istore_n (ls' := [(2, .int ((8 : Int32) + ((7 : Int32) * a1))), (0, .ref (G.1 a0)), (1, .int a1)]) dX8_keptGoes_7 rfl (by decide) rfl ?_
  exact r_sub [1, 0] rfl (t_X8_keptGoes_8 xFU a0 ((8 : Int32) + ((7 : Int32) * a1)) ta0 h)
def f_X8_keeps_44  (a0 : Nat) (a1 : Nat) (a2 : Int32) (a3 : Int32) (a4 : Int32) (h : Mem) : Option (Unit × Mem) :=
  b2 (f_X8_keptComes (xrf a0 0) a1 a2 a3 a4 h) fun _ h1 =>
  some ((), h1)
set_option maxRecDepth 20000 in
theorem t_X8_keeps_44 {G : xG}  (a0 : Nat) (a1 : Nat) (a2 : Int32) (a3 : Int32) (a4 : Int32) (ta0 : xTy a0 7) (ta1 : xTy a1 8) (h : Mem) : Rn G 2 FX8_keeps xcV 44 [(0, .ref (G.1 a0)), (1, .ref (G.1 a1)), (2, .int a2), (3, .int a3), (4, .int a4)] [] h (f_X8_keeps_44 a0 a1 a2 a3 a4 h) := by
  unfold f_X8_keeps_44
  refine r_aload_n (place := 0) dX8_keeps_44 rfl rfl ?_
  refine r_getR dX8_keeps_45 fg_X8_7 ta0 ?_
  refine r_aload_n (place := 1) dX8_keeps_48 rfl rfl ?_
  refine r_iload_n (place := 2) dX8_keeps_49 rfl rfl ?_
  refine r_iload_n (place := 3) dX8_keeps_50 rfl rfl ?_
  refine r_iload (place := 4) dX8_keeps_51 rfl ?_
  refine r_callSV (rest := []) dX8_keeps_53 m_X8_keptComes lk_X8_141 (c_X8_keptComes (xrf a0 0) (xt_7_0 ta0) a1 ta1 a2 a3 a4 h) (by decide) rfl rfl (Nat.le_of_ble_eq_true rfl) (fun h1 => ?_)
  exact r_ret dX8_keeps_56 rfl
def f_X8_keeps_23  (a0 : Nat) (a1 : Nat) (a2 : Int32) (a3 : Int32) (a4 : Int32) (h : Mem) : Option (Unit × Mem) :=
  if a2 ≤ 0 then
      some ((), h)
  else
      ald h (xrf a0 0) (6 : Int32) fun v1 =>
      if v1 = (12 : Int32) then
          b2 (f_X8_keptGoes a0 (0 : Int32) h) fun _ h2 =>
          f_X8_keeps_44 a0 a1 a2 a3 a4 h2
      else
          f_X8_keeps_44 a0 a1 a2 a3 a4 h
set_option maxRecDepth 20000 in
theorem t_X8_keeps_23 {G : xG}  (a0 : Nat) (a1 : Nat) (a2 : Int32) (a3 : Int32) (a4 : Int32) (ta0 : xTy a0 7) (ta1 : xTy a1 8) (h : Mem) : Rn G 2 FX8_keeps xcV 23 [(0, .ref (G.1 a0)), (1, .ref (G.1 a1)), (2, .int a2), (3, .int a3), (4, .int a4)] [] h (f_X8_keeps_23 a0 a1 a2 a3 a4 h) := by
  unfold f_X8_keeps_23
  refine r_iload_n (place := 2) dX8_keeps_23 rfl rfl ?_
  refine r_if_le (tgt := 56) dX8_keeps_24 (by decide) ?_ ?_
  · exact r_ret dX8_keeps_56 rfl
  · refine r_aload_n (place := 0) dX8_keeps_27 rfl rfl ?_
    refine r_getR dX8_keeps_28 fg_X8_7 ta0 ?_
    refine r_bipush dX8_keeps_31 xb_6 ?_
    refine r_iald dX8_keeps_33 (xt_7_0 ta0) (fun v1 => ?_)
    refine r_bipush dX8_keeps_34 xb_12 ?_
    refine r_ic_ne (tgt := 44) dX8_keeps_36 (by decide) ?_ ?_
    · exact r_sub [0, 1, 2, 3, 4] rfl (t_X8_keeps_44 a0 a1 a2 a3 a4 ta0 ta1 h)
    · refine r_aload_n (place := 0) dX8_keeps_39 rfl rfl ?_
      refine r_iconst dX8_keeps_40 xc_0 ?_
      refine r_callVV (rest := []) dX8_keeps_41 m_X8_keptGoes lk_X8_188 rfl (by decide) ta0 (c_X8_keptGoes a0 ta0 (0 : Int32) h) (by decide) rfl rfl (Nat.le_of_ble_eq_true rfl) (fun h2 => ?_)
      exact r_sub [0, 1, 2, 3, 4] rfl (t_X8_keeps_44 a0 a1 a2 a3 a4 ta0 ta1 h2)
def f_X8_keeps (a0 : Nat) (a1 : Nat) (a2 : Int32) (a3 : Int32) (a4 : Int32) (h : Mem) : Option (Unit × Mem) :=
  b2 (f_X8_keptOf (xrf a0 0) a1 h) fun v2 h1 =>
  if v2 = (-4 : Int32) then
      f_X8_keeps_23 a0 a1 a2 a3 a4 h1
  else
      b2 (f_X8_keptGoes a0 v2 h1) fun _ h3 =>
      f_X8_keeps_23 a0 a1 a2 a3 a4 h3
set_option maxRecDepth 20000 in
theorem c_X8_keeps {G : xG} (a0 : Nat) (ta0 : xTy a0 7) (a1 : Nat) (ta1 : xTy a1 8) (a2 : Int32) (a3 : Int32) (a4 : Int32) (h : Mem) : Sm G 2 yX8_keeps FX8_keeps xcV [.ref (G.1 a0), .ref (G.1 a1), .int a2, .int a3, .int a4] h (f_X8_keeps a0 a1 a2 a3 a4 h) := by
  refine Sm.of pn_X8 rfl (Nat.le_of_ble_eq_true rfl) (ls := [(0, .ref (G.1 a0)), (1, .ref (G.1 a1)), (2, .int a2), (3, .int a3), (4, .int a4)]) rfl ?_
  unfold f_X8_keeps
  refine r_aload_n (place := 0) dX8_keeps_0 rfl rfl ?_
  refine r_getR dX8_keeps_1 fg_X8_7 ta0 ?_
  refine r_aload_n (place := 1) dX8_keeps_4 rfl rfl ?_
  refine r_callSI (rest := []) dX8_keeps_5 m_X8_keptOf lk_X8_137 (c_X8_keptOf (xrf a0 0) (xt_7_0 ta0) a1 ta1 h) (by decide) rfl rfl (Nat.le_of_ble_eq_true rfl) (fun v2 h1 => ?_)
  refine r_istore (ls' := [(5, .int v2), (0, .ref (G.1 a0)), (1, .ref (G.1 a1)), (2, .int a2), (3, .int a3), (4, .int a4)]) dX8_keeps_8 (by decide) rfl ?_
  refine r_iload (place := 0) dX8_keeps_10 rfl ?_
  refine r_bipush dX8_keeps_12 xb_m4 ?_
  refine r_ic_eq (tgt := 23) dX8_keeps_14 (by decide) ?_ ?_
  · exact r_sub [1, 2, 3, 4, 5] rfl (t_X8_keeps_23 a0 a1 a2 a3 a4 ta0 ta1 h1)
  · refine r_aload_n (place := 1) dX8_keeps_17 rfl rfl ?_
    refine r_iload (place := 0) dX8_keeps_18 rfl ?_
    refine r_callVV (rest := []) dX8_keeps_20 m_X8_keptGoes lk_X8_188 rfl (by decide) ta0 (c_X8_keptGoes a0 ta0 v2 h1) (by decide) rfl rfl (Nat.le_of_ble_eq_true rfl) (fun h3 => ?_)
    exact r_sub [1, 2, 3, 4, 5] rfl (t_X8_keeps_23 a0 a1 a2 a3 a4 ta0 ta1 h3)
def f_X8_isAhead_22  (a1 : Nat) (a2 : Nat) (a3 : Int32) (h : Mem) : Option (Int32 × Mem) :=
  if (5 : Int32) ≤ a3 then
      some ((0 : Int32), h)
  else
      ald h a1 a3 fun v1 =>
      ald h a2 a3 fun v2 =>
      if v2 ≤ v1 then
          some ((0 : Int32), h)
      else
          some ((1 : Int32), h)
set_option maxRecDepth 20000 in
theorem t_X8_isAhead_22 {G : xG}  (a1 : Nat) (a2 : Nat) (a3 : Int32) (ta1 : xTy a1 8) (ta2 : xTy a2 8) (h : Mem) : Rn G 0 FX8_isAhead xcI 22 [(1, .ref (G.1 a1)), (2, .ref (G.1 a2)), (3, .int a3)] [] h (f_X8_isAhead_22 a1 a2 a3 h) := by
  unfold f_X8_isAhead_22
  refine r_iload_n (place := 2) dX8_isAhead_22 rfl rfl ?_
  refine r_iconst dX8_isAhead_23 xc_5 ?_
  refine r_ic_ge (tgt := 40) dX8_isAhead_24 (by decide) ?_ ?_
  · refine r_iconst dX8_isAhead_40 xc_0 ?_
    exact r_zret1 dX8_isAhead_41 rfl (by decide)
  · refine r_aload_n (place := 0) dX8_isAhead_27 rfl rfl ?_
    refine r_iload_n (place := 2) dX8_isAhead_28 rfl rfl ?_
    refine r_iald dX8_isAhead_29 ta1 (fun v1 => ?_)
    refine r_aload_n (place := 1) dX8_isAhead_30 rfl rfl ?_
    refine r_iload_n (place := 2) dX8_isAhead_31 rfl rfl ?_
    refine r_iald dX8_isAhead_32 ta2 (fun v2 => ?_)
    refine r_ic_ge (tgt := 40) dX8_isAhead_33 (by decide) ?_ ?_
    · refine r_iconst dX8_isAhead_40 xc_0 ?_
      exact r_zret1 dX8_isAhead_41 rfl (by decide)
    · refine r_iconst dX8_isAhead_36 xc_1 ?_
      refine r_goto (tgt := 41) dX8_isAhead_37 (by decide) ?_
      exact r_zret1 dX8_isAhead_41 rfl (by decide)
def f_X8_isAhead_2  : Nat → Nat → Nat → Int32 → Mem → Option (Int32 × Mem)
  | 0, _, _, _, _ => none
  | n + 1, a1, a2, a3, h =>
    if (5 : Int32) ≤ a3 then
        f_X8_isAhead_22 a1 a2 a3 h
    else
        ald h a1 a3 fun v1 =>
        ald h a2 a3 fun v2 =>
        if v1 = v2 then
            (f_X8_isAhead_2 n) a1 a2 (a3 + (1 : Int32)) h
        else
            f_X8_isAhead_22 a1 a2 a3 h
set_option maxRecDepth 20000 in
theorem t_X8_isAhead_2 {G : xG}  : ∀ (n : Nat) (a1 : Nat) (a2 : Nat) (a3 : Int32) (ta1 : xTy a1 8) (ta2 : xTy a2 8) (h : Mem), Rn G 0 FX8_isAhead xcI 2 [(1, .ref (G.1 a1)), (2, .ref (G.1 a2)), (3, .int a3)] [] h (f_X8_isAhead_2 n a1 a2 a3 h) := by
  intro n
  induction n with
  | zero => intros; intro r hr; cases hr
  | succ n ih =>
    intro a1 a2 a3 ta1 ta2 h
    unfold f_X8_isAhead_2
    refine r_iload_n (place := 2) dX8_isAhead_2 rfl rfl ?_
    refine r_iconst dX8_isAhead_3 xc_5 ?_
    refine r_ic_ge (tgt := 22) dX8_isAhead_4 (by decide) ?_ ?_
    · exact r_sub [0, 1, 2] rfl (t_X8_isAhead_22 a1 a2 a3 ta1 ta2 h)
    · refine r_aload_n (place := 0) dX8_isAhead_7 rfl rfl ?_
      refine r_iload_n (place := 2) dX8_isAhead_8 rfl rfl ?_
      refine r_iald dX8_isAhead_9 ta1 (fun v1 => ?_)
      refine r_aload_n (place := 1) dX8_isAhead_10 rfl rfl ?_
      refine r_iload_n (place := 2) dX8_isAhead_11 rfl rfl ?_
      refine r_iald dX8_isAhead_12 ta2 (fun v2 => ?_)
      refine r_ic_ne (tgt := 22) dX8_isAhead_13 (by decide) ?_ ?_
      · exact r_sub [0, 1, 2] rfl (t_X8_isAhead_22 a1 a2 a3 ta1 ta2 h)
      · refine r_iincC (place := 2) (ls' := [(3, .int (a3 + (1 : Int32))), (1, .ref (G.1 a1)), (2, .ref (G.1 a2))]) dX8_isAhead_16 rfl xc_1 (by decide) rfl ?_
        refine r_goto (tgt := 2) dX8_isAhead_19 (by decide) ?_
        exact r_sub [1, 2, 0] rfl (ih a1 a2 (a3 + (1 : Int32)) ta1 ta2 h)
def f_X8_isAhead (a0 : Nat) (a1 : Nat) (a2 : Nat) (h : Mem) : Option (Int32 × Mem) :=
  f_X8_isAhead_2 xFU a1 a2 (0 : Int32) h
set_option maxRecDepth 20000 in
theorem c_X8_isAhead {G : xG} (a0 : Nat) (ta0 : xTy a0 7) (a1 : Nat) (ta1 : xTy a1 8) (a2 : Nat) (ta2 : xTy a2 8) (h : Mem) : Sm G 0 yX8_isAhead FX8_isAhead xcI [.ref (G.1 a0), .ref (G.1 a1), .ref (G.1 a2)] h (f_X8_isAhead a0 a1 a2 h) := by
  refine Sm.of pn_X8 rfl (Nat.le_of_ble_eq_true rfl) (ls := [(0, .ref (G.1 a0)), (1, .ref (G.1 a1)), (2, .ref (G.1 a2))]) rfl ?_
  unfold f_X8_isAhead
  refine r_iconst dX8_isAhead_0 xc_0 ?_
  refine r_istore_n (ls' := [(3, .int (0 : Int32)), (0, .ref (G.1 a0)), (1, .ref (G.1 a1)), (2, .ref (G.1 a2))]) dX8_isAhead_1 rfl (by decide) rfl ?_
  exact r_sub [2, 3, 0] rfl (t_X8_isAhead_2 xFU a1 a2 (0 : Int32) ta1 ta2 h)
def f_X8_takesShare_28  : Nat → Nat → Nat → Int32 → Int32 → Mem → Option (Unit × Mem)
  | 0, _, _, _, _, _ => none
  | n + 1, a0, a3, a4, a5, h =>
    if (4 : Int32) ≤ a5 then
        some ((), h)
    else
        ald h (xrf a0 0) (a4 + a5) fun v1 =>
        ast h a3 ((1 : Int32) + a5) v1 fun h2 =>
        (f_X8_takesShare_28 n) a0 a3 a4 (a5 + (1 : Int32)) h2
set_option maxRecDepth 20000 in
theorem t_X8_takesShare_28 {G : xG}  : ∀ (n : Nat) (a0 : Nat) (a3 : Nat) (a4 : Int32) (a5 : Int32) (ta0 : xTy a0 7) (ta3 : xTy a3 8) (h : Mem), Rn G 1 FX8_takesShare xcV 28 [(0, .ref (G.1 a0)), (3, .ref (G.1 a3)), (4, .int a4), (5, .int a5)] [] h (f_X8_takesShare_28 n a0 a3 a4 a5 h) := by
  intro n
  induction n with
  | zero => intros; intro r hr; cases hr
  | succ n ih =>
    intro a0 a3 a4 a5 ta0 ta3 h
    unfold f_X8_takesShare_28
    refine r_iload (place := 3) dX8_takesShare_28 rfl ?_
    refine r_iconst dX8_takesShare_30 xc_4 ?_
    refine r_ic_ge (tgt := 56) dX8_takesShare_31 (by decide) ?_ ?_
    · exact r_ret dX8_takesShare_56 rfl
    · refine r_aload_n (place := 1) dX8_takesShare_34 rfl rfl ?_
      refine r_iconst dX8_takesShare_35 xc_1 ?_
      refine r_iload (place := 3) dX8_takesShare_36 rfl ?_
      refine r_iadd dX8_takesShare_38 ?_
      refine r_aload_n (place := 0) dX8_takesShare_39 rfl rfl ?_
      refine r_getR dX8_takesShare_40 fg_X8_7 ta0 ?_
      refine r_iload (place := 2) dX8_takesShare_43 rfl ?_
      refine r_iload (place := 3) dX8_takesShare_45 rfl ?_
      refine r_iadd dX8_takesShare_47 ?_
      refine r_iald dX8_takesShare_48 (xt_7_0 ta0) (fun v1 => ?_)
      refine r_iast dX8_takesShare_49 ta3 (fun h2 => ?_)
      refine r_iincC (place := 3) (ls' := [(5, .int (a5 + (1 : Int32))), (0, .ref (G.1 a0)), (3, .ref (G.1 a3)), (4, .int a4)]) dX8_takesShare_50 rfl xc_1 (by decide) rfl ?_
      refine r_goto (tgt := 28) dX8_takesShare_53 (by decide) ?_
      exact r_sub [1, 2, 3, 0] rfl (ih a0 a3 a4 (a5 + (1 : Int32)) ta0 ta3 h2)
def f_X8_takesShare (a0 : Nat) (a1 : Int32) (a2 : Int32) (a3 : Nat) (h : Mem) : Option (Unit × Mem) :=
  b2 (f_X8_at a1 ((45 : Int32) + ((6 : Int32) * a2)) h) fun v2 h1 =>
  ald h1 (xrf a0 0) (v2 + (5 : Int32)) fun v3 =>
  ast h1 a3 (0 : Int32) v3 fun h4 =>
  f_X8_takesShare_28 xFU a0 a3 v2 (0 : Int32) h4
set_option maxRecDepth 20000 in
theorem c_X8_takesShare {G : xG} (a0 : Nat) (ta0 : xTy a0 7) (a1 : Int32) (a2 : Int32) (a3 : Nat) (ta3 : xTy a3 8) (h : Mem) : Sm G 1 yX8_takesShare FX8_takesShare xcV [.ref (G.1 a0), .int a1, .int a2, .ref (G.1 a3)] h (f_X8_takesShare a0 a1 a2 a3 h) := by
  refine Sm.of pn_X8 rfl (Nat.le_of_ble_eq_true rfl) (ls := [(0, .ref (G.1 a0)), (1, .int a1), (2, .int a2), (3, .ref (G.1 a3))]) rfl ?_
  unfold f_X8_takesShare
  refine r_iload_n (place := 1) dX8_takesShare_0 rfl rfl ?_
  refine r_bipush dX8_takesShare_1 xb_45 ?_
  refine r_bipush dX8_takesShare_3 xb_6 ?_
  refine r_iload_n (place := 2) dX8_takesShare_5 rfl rfl ?_
  refine r_imul dX8_takesShare_6 ?_
  refine r_iadd dX8_takesShare_7 ?_
  refine r_callSI (rest := []) dX8_takesShare_8 m_X8_at lk_X8_115 (c_X8_at a1 ((45 : Int32) + ((6 : Int32) * a2)) h) (by decide) rfl rfl (Nat.le_of_ble_eq_true rfl) (fun v2 h1 => ?_)
  refine r_istore (ls' := [(4, .int v2), (0, .ref (G.1 a0)), (1, .int a1), (2, .int a2), (3, .ref (G.1 a3))]) dX8_takesShare_11 (by decide) rfl ?_
  refine r_aload_n (place := 4) dX8_takesShare_13 rfl rfl ?_
  refine r_iconst dX8_takesShare_14 xc_0 ?_
  refine r_aload_n (place := 1) dX8_takesShare_15 rfl rfl ?_
  refine r_getR dX8_takesShare_16 fg_X8_7 ta0 ?_
  refine r_iload (place := 0) dX8_takesShare_19 rfl ?_
  refine r_iconst dX8_takesShare_21 xc_5 ?_
  refine r_iadd dX8_takesShare_22 ?_
  refine r_iald dX8_takesShare_23 (xt_7_0 ta0) (fun v3 => ?_)
  refine r_iast dX8_takesShare_24 ta3 (fun h4 => ?_)
  refine r_iconst dX8_takesShare_25 xc_0 ?_
  refine r_istore (ls' := [(5, .int (0 : Int32)), (4, .int v2), (0, .ref (G.1 a0)), (1, .int a1), (2, .int a2), (3, .ref (G.1 a3))]) dX8_takesShare_26 (by decide) rfl ?_
  exact r_sub [2, 5, 1, 0] rfl (t_X8_takesShare_28 xFU a0 a3 v2 (0 : Int32) ta0 ta3 h4)
def f_X8_nextShare_121 (kk29 : Nat → Int32 → Int32 → Mem → Option (Int32 × Mem)) (kk37 : Nat → Int32 → Int32 → Int32 → Mem → Option (Int32 × Mem)) (a0 : Nat) (a1 : Int32) (a2 : Int32) (a3 : Int32) (h : Mem) : Option (Int32 × Mem) :=
  kk37 a0 a1 a2 (a3 + (1 : Int32)) h
set_option maxRecDepth 20000 in
theorem t_X8_nextShare_121 {G : xG} (kk29 : Nat → Int32 → Int32 → Mem → Option (Int32 × Mem)) (hk29 : ∀ (a0 : Nat) (a1 : Int32) (a2 : Int32) (ta0 : xTy a0 7) (h : Mem), Rn G 2 FX8_nextShare xcI 29 [(0, .ref (G.1 a0)), (1, .int a1), (2, .int a2)] [] h (kk29 a0 a1 a2 h)) (kk37 : Nat → Int32 → Int32 → Int32 → Mem → Option (Int32 × Mem)) (hk37 : ∀ (a0 : Nat) (a1 : Int32) (a2 : Int32) (a3 : Int32) (ta0 : xTy a0 7) (h : Mem), Rn G 2 FX8_nextShare xcI 37 [(0, .ref (G.1 a0)), (1, .int a1), (2, .int a2), (3, .int a3)] [] h (kk37 a0 a1 a2 a3 h)) (a0 : Nat) (a1 : Int32) (a2 : Int32) (a3 : Int32) (ta0 : xTy a0 7) (h : Mem) : Rn G 2 FX8_nextShare xcI 121 [(0, .ref (G.1 a0)), (1, .int a1), (2, .int a2), (3, .int a3)] [] h (f_X8_nextShare_121 kk29 kk37 a0 a1 a2 a3 h) := by
  unfold f_X8_nextShare_121
  refine r_iincC (place := 3) (ls' := [(3, .int (a3 + (1 : Int32))), (0, .ref (G.1 a0)), (1, .int a1), (2, .int a2)]) dX8_nextShare_121 rfl xc_1 (by decide) rfl ?_
  refine r_goto (tgt := 37) dX8_nextShare_124 (by decide) ?_
  exact r_sub [1, 2, 3, 0] rfl (hk37 a0 a1 a2 (a3 + (1 : Int32)) ta0 h)
def f_X8_nextShare_109 (kk29 : Nat → Int32 → Int32 → Mem → Option (Int32 × Mem)) (kk37 : Nat → Int32 → Int32 → Int32 → Mem → Option (Int32 × Mem)) (a0 : Nat) (a2 : Int32) (a3 : Int32) (h : Mem) : Option (Int32 × Mem) :=
  b2 (f_X8_takesShare a0 a2 a3 (xrf a0 16) h) fun _ h1 =>
  f_X8_nextShare_121 kk29 kk37 a0 (1 : Int32) a2 a3 h1
set_option maxRecDepth 20000 in
theorem t_X8_nextShare_109 {G : xG} (kk29 : Nat → Int32 → Int32 → Mem → Option (Int32 × Mem)) (hk29 : ∀ (a0 : Nat) (a1 : Int32) (a2 : Int32) (ta0 : xTy a0 7) (h : Mem), Rn G 2 FX8_nextShare xcI 29 [(0, .ref (G.1 a0)), (1, .int a1), (2, .int a2)] [] h (kk29 a0 a1 a2 h)) (kk37 : Nat → Int32 → Int32 → Int32 → Mem → Option (Int32 × Mem)) (hk37 : ∀ (a0 : Nat) (a1 : Int32) (a2 : Int32) (a3 : Int32) (ta0 : xTy a0 7) (h : Mem), Rn G 2 FX8_nextShare xcI 37 [(0, .ref (G.1 a0)), (1, .int a1), (2, .int a2), (3, .int a3)] [] h (kk37 a0 a1 a2 a3 h)) (a0 : Nat) (a2 : Int32) (a3 : Int32) (ta0 : xTy a0 7) (h : Mem) : Rn G 2 FX8_nextShare xcI 109 [(0, .ref (G.1 a0)), (2, .int a2), (3, .int a3)] [] h (f_X8_nextShare_109 kk29 kk37 a0 a2 a3 h) := by
  unfold f_X8_nextShare_109
  refine r_aload_n (place := 0) dX8_nextShare_109 rfl rfl ?_
  refine r_iload_n (place := 1) dX8_nextShare_110 rfl rfl ?_
  refine r_iload_n (place := 2) dX8_nextShare_111 rfl rfl ?_
  refine r_aload_n (place := 0) dX8_nextShare_112 rfl rfl ?_
  refine r_getR dX8_nextShare_113 fg_X8_32 ta0 ?_
  refine r_callVV (rest := []) dX8_nextShare_116 m_X8_takesShare lk_X8_192 rfl (by decide) ta0 (c_X8_takesShare a0 ta0 a2 a3 (xrf a0 16) (xt_7_16 ta0) h) (by decide) rfl rfl (Nat.le_of_ble_eq_true rfl) (fun h1 => ?_)
  refine r_iconst dX8_nextShare_119 xc_1 ?_
  refine r_istore_n (ls' := [(1, .int (1 : Int32)), (0, .ref (G.1 a0)), (2, .int a2), (3, .int a3)]) dX8_nextShare_120 rfl (by decide) rfl ?_
  exact r_sub [1, 0, 2, 3] rfl (t_X8_nextShare_121 kk29 hk29 kk37 hk37 a0 (1 : Int32) a2 a3 ta0 h1)
def f_X8_nextShare_127 (kk29 : Nat → Int32 → Int32 → Mem → Option (Int32 × Mem)) (a0 : Nat) (a1 : Int32) (a2 : Int32) (h : Mem) : Option (Int32 × Mem) :=
  kk29 a0 a1 (a2 + (1 : Int32)) h
set_option maxRecDepth 20000 in
theorem t_X8_nextShare_127 {G : xG} (kk29 : Nat → Int32 → Int32 → Mem → Option (Int32 × Mem)) (hk29 : ∀ (a0 : Nat) (a1 : Int32) (a2 : Int32) (ta0 : xTy a0 7) (h : Mem), Rn G 2 FX8_nextShare xcI 29 [(0, .ref (G.1 a0)), (1, .int a1), (2, .int a2)] [] h (kk29 a0 a1 a2 h)) (a0 : Nat) (a1 : Int32) (a2 : Int32) (ta0 : xTy a0 7) (h : Mem) : Rn G 2 FX8_nextShare xcI 127 [(0, .ref (G.1 a0)), (1, .int a1), (2, .int a2)] [] h (f_X8_nextShare_127 kk29 a0 a1 a2 h) := by
  unfold f_X8_nextShare_127
  refine r_iincC (place := 2) (ls' := [(2, .int (a2 + (1 : Int32))), (0, .ref (G.1 a0)), (1, .int a1)]) dX8_nextShare_127 rfl xc_1 (by decide) rfl ?_
  refine r_goto (tgt := 29) dX8_nextShare_130 (by decide) ?_
  exact r_sub [1, 2, 0] rfl (hk29 a0 a1 (a2 + (1 : Int32)) ta0 h)
def f_X8_nextShare_37 (kk29 : Nat → Int32 → Int32 → Mem → Option (Int32 × Mem)) : Nat → Nat → Int32 → Int32 → Int32 → Mem → Option (Int32 × Mem)
  | 0, _, _, _, _, _ => none
  | n + 1, a0, a1, a2, a3, h =>
    b2 (f_X8_of a0 a2 (0 : Int32) h) fun v2 h1 =>
    if v2 = 0 then
        f_X8_nextShare_127 kk29 a0 a1 a2 h1
    else
        b2 (f_X8_of a0 a2 (3 : Int32) h1) fun v4 h3 =>
        if v4 ≤ a3 then
            f_X8_nextShare_127 kk29 a0 a1 a2 h3
        else
            b2 (f_X8_takesShare a0 a2 a3 (xrf a0 17) h3) fun _ h5 =>
            ald h5 (xrf a0 17) (0 : Int32) fun v6 =>
            if v6 ≤ 0 then
                f_X8_nextShare_121 kk29 (f_X8_nextShare_37 kk29 n) a0 a1 a2 a3 h5
            else
                b2 (f_X8_isAhead a0 (xrf a0 18) (xrf a0 17) h5) fun v8 h7 =>
                if v8 = 0 then
                    f_X8_nextShare_121 kk29 (f_X8_nextShare_37 kk29 n) a0 a1 a2 a3 h7
                else
                    if a1 = 0 then
                        f_X8_nextShare_109 kk29 (f_X8_nextShare_37 kk29 n) a0 a2 a3 h7
                    else
                        b2 (f_X8_isAhead a0 (xrf a0 17) (xrf a0 16) h7) fun v10 h9 =>
                        if v10 = 0 then
                            f_X8_nextShare_121 kk29 (f_X8_nextShare_37 kk29 n) a0 a1 a2 a3 h9
                        else
                            f_X8_nextShare_109 kk29 (f_X8_nextShare_37 kk29 n) a0 a2 a3 h9
set_option maxRecDepth 20000 in
theorem t_X8_nextShare_37 {G : xG} (kk29 : Nat → Int32 → Int32 → Mem → Option (Int32 × Mem)) (hk29 : ∀ (a0 : Nat) (a1 : Int32) (a2 : Int32) (ta0 : xTy a0 7) (h : Mem), Rn G 2 FX8_nextShare xcI 29 [(0, .ref (G.1 a0)), (1, .int a1), (2, .int a2)] [] h (kk29 a0 a1 a2 h)) : ∀ (n : Nat) (a0 : Nat) (a1 : Int32) (a2 : Int32) (a3 : Int32) (ta0 : xTy a0 7) (h : Mem), Rn G 2 FX8_nextShare xcI 37 [(0, .ref (G.1 a0)), (1, .int a1), (2, .int a2), (3, .int a3)] [] h (f_X8_nextShare_37 kk29 n a0 a1 a2 a3 h) := by
  intro n
  induction n with
  | zero => intros; intro r hr; cases hr
  | succ n ih =>
    intro a0 a1 a2 a3 ta0 h
    unfold f_X8_nextShare_37
    refine r_aload_n (place := 0) dX8_nextShare_37 rfl rfl ?_
    refine r_iload_n (place := 2) dX8_nextShare_38 rfl rfl ?_
    refine r_iconst dX8_nextShare_39 xc_0 ?_
    refine r_callVI (rest := []) dX8_nextShare_40 m_X8_of lk_X8_166 rfl (by decide) ta0 (c_X8_of a0 ta0 a2 (0 : Int32) h) (by decide) rfl rfl (Nat.le_of_ble_eq_true rfl) (fun v2 h1 => ?_)
    refine r_if_eq (tgt := 127) dX8_nextShare_43 (by decide) ?_ ?_
    · exact r_sub [0, 1, 2] rfl (t_X8_nextShare_127 kk29 hk29 a0 a1 a2 ta0 h1)
    · refine r_iload_n (place := 3) dX8_nextShare_46 rfl rfl ?_
      refine r_aload_n (place := 0) dX8_nextShare_47 rfl rfl ?_
      refine r_iload_n (place := 2) dX8_nextShare_48 rfl rfl ?_
      refine r_iconst dX8_nextShare_49 xc_3 ?_
      refine r_callVI (rest := [.int a3]) dX8_nextShare_50 m_X8_of lk_X8_166 rfl (by decide) ta0 (c_X8_of a0 ta0 a2 (3 : Int32) h1) (by decide) rfl rfl (Nat.le_of_ble_eq_true rfl) (fun v4 h3 => ?_)
      refine r_ic_ge (tgt := 127) dX8_nextShare_53 (by decide) ?_ ?_
      · exact r_sub [0, 1, 2] rfl (t_X8_nextShare_127 kk29 hk29 a0 a1 a2 ta0 h3)
      · refine r_aload_n (place := 0) dX8_nextShare_56 rfl rfl ?_
        refine r_iload_n (place := 2) dX8_nextShare_57 rfl rfl ?_
        refine r_iload_n (place := 3) dX8_nextShare_58 rfl rfl ?_
        refine r_aload_n (place := 0) dX8_nextShare_59 rfl rfl ?_
        refine r_getR dX8_nextShare_60 fg_X8_35 ta0 ?_
        refine r_callVV (rest := []) dX8_nextShare_63 m_X8_takesShare lk_X8_192 rfl (by decide) ta0 (c_X8_takesShare a0 ta0 a2 a3 (xrf a0 17) (xt_7_17 ta0) h3) (by decide) rfl rfl (Nat.le_of_ble_eq_true rfl) (fun h5 => ?_)
        refine r_aload_n (place := 0) dX8_nextShare_66 rfl rfl ?_
        refine r_getR dX8_nextShare_67 fg_X8_35 ta0 ?_
        refine r_iconst dX8_nextShare_70 xc_0 ?_
        refine r_iald dX8_nextShare_71 (xt_7_17 ta0) (fun v6 => ?_)
        refine r_if_le (tgt := 121) dX8_nextShare_72 (by decide) ?_ ?_
        · exact r_sub [0, 1, 2, 3] rfl (t_X8_nextShare_121 kk29 hk29 (f_X8_nextShare_37 kk29 n) ih a0 a1 a2 a3 ta0 h5)
        · refine r_aload_n (place := 0) dX8_nextShare_75 rfl rfl ?_
          refine r_aload_n (place := 0) dX8_nextShare_76 rfl rfl ?_
          refine r_getR dX8_nextShare_77 fg_X8_38 ta0 ?_
          refine r_aload_n (place := 0) dX8_nextShare_80 rfl rfl ?_
          refine r_getR dX8_nextShare_81 fg_X8_35 ta0 ?_
          refine r_callVI (rest := []) dX8_nextShare_84 m_X8_isAhead lk_X8_196 rfl (by decide) ta0 (c_X8_isAhead a0 ta0 (xrf a0 18) (xt_7_18 ta0) (xrf a0 17) (xt_7_17 ta0) h5) (by decide) rfl rfl (Nat.le_of_ble_eq_true rfl) (fun v8 h7 => ?_)
          refine r_if_eq (tgt := 121) dX8_nextShare_87 (by decide) ?_ ?_
          · exact r_sub [0, 1, 2, 3] rfl (t_X8_nextShare_121 kk29 hk29 (f_X8_nextShare_37 kk29 n) ih a0 a1 a2 a3 ta0 h7)
          · refine r_iload_n (place := 1) dX8_nextShare_90 rfl rfl ?_
            refine r_if_eq (tgt := 109) dX8_nextShare_91 (by decide) ?_ ?_
            · exact r_sub [0, 2, 3] rfl (t_X8_nextShare_109 kk29 hk29 (f_X8_nextShare_37 kk29 n) ih a0 a2 a3 ta0 h7)
            · refine r_aload_n (place := 0) dX8_nextShare_94 rfl rfl ?_
              refine r_aload_n (place := 0) dX8_nextShare_95 rfl rfl ?_
              refine r_getR dX8_nextShare_96 fg_X8_35 ta0 ?_
              refine r_aload_n (place := 0) dX8_nextShare_99 rfl rfl ?_
              refine r_getR dX8_nextShare_100 fg_X8_32 ta0 ?_
              refine r_callVI (rest := []) dX8_nextShare_103 m_X8_isAhead lk_X8_196 rfl (by decide) ta0 (c_X8_isAhead a0 ta0 (xrf a0 17) (xt_7_17 ta0) (xrf a0 16) (xt_7_16 ta0) h7) (by decide) rfl rfl (Nat.le_of_ble_eq_true rfl) (fun v10 h9 => ?_)
              refine r_if_eq (tgt := 121) dX8_nextShare_106 (by decide) ?_ ?_
              · exact r_sub [0, 1, 2, 3] rfl (t_X8_nextShare_121 kk29 hk29 (f_X8_nextShare_37 kk29 n) ih a0 a1 a2 a3 ta0 h9)
              · exact r_sub [0, 2, 3] rfl (t_X8_nextShare_109 kk29 hk29 (f_X8_nextShare_37 kk29 n) ih a0 a2 a3 ta0 h9)
def f_X8_nextShare_29  : Nat → Nat → Int32 → Int32 → Mem → Option (Int32 × Mem)
  | 0, _, _, _, _ => none
  | n + 1, a0, a1, a2, h =>
    if (6 : Int32) ≤ a2 then
        zg a1 (some (a1, h))
    else
        f_X8_nextShare_37 (f_X8_nextShare_29 n) xFU a0 a1 a2 (0 : Int32) h
set_option maxRecDepth 20000 in
theorem t_X8_nextShare_29 {G : xG}  : ∀ (n : Nat) (a0 : Nat) (a1 : Int32) (a2 : Int32) (ta0 : xTy a0 7) (h : Mem), Rn G 2 FX8_nextShare xcI 29 [(0, .ref (G.1 a0)), (1, .int a1), (2, .int a2)] [] h (f_X8_nextShare_29 n a0 a1 a2 h) := by
  intro n
  induction n with
  | zero => intros; intro r hr; cases hr
  | succ n ih =>
    intro a0 a1 a2 ta0 h
    unfold f_X8_nextShare_29
    refine r_iload_n (place := 2) dX8_nextShare_29 rfl rfl ?_
    refine r_bipush dX8_nextShare_30 xb_6 ?_
    refine r_ic_ge (tgt := 133) dX8_nextShare_32 (by decide) ?_ ?_
    · refine r_iload_n (place := 1) dX8_nextShare_133 rfl rfl ?_
      exact r_zret dX8_nextShare_134 rfl
    · refine r_iconst dX8_nextShare_35 xc_0 ?_
      refine r_istore_n (ls' := [(3, .int (0 : Int32)), (0, .ref (G.1 a0)), (1, .int a1), (2, .int a2)]) dX8_nextShare_36 rfl (by decide) rfl ?_
      exact r_sub [1, 2, 3, 0] rfl (t_X8_nextShare_37 (f_X8_nextShare_29 n) ih xFU a0 a1 a2 (0 : Int32) ta0 h)
def f_X8_nextShare_2  : Nat → Nat → Int32 → Mem → Option (Int32 × Mem)
  | 0, _, _, _ => none
  | n + 1, a0, a1, h =>
    if (5 : Int32) ≤ a1 then
        f_X8_nextShare_29 xFU a0 (0 : Int32) (0 : Int32) h
    else
        ald h (xrf a0 16) a1 fun v1 =>
        ast h (xrf a0 18) a1 v1 fun h2 =>
        (f_X8_nextShare_2 n) a0 (a1 + (1 : Int32)) h2
set_option maxRecDepth 20000 in
theorem t_X8_nextShare_2 {G : xG}  : ∀ (n : Nat) (a0 : Nat) (a1 : Int32) (ta0 : xTy a0 7) (h : Mem), Rn G 2 FX8_nextShare xcI 2 [(0, .ref (G.1 a0)), (1, .int a1)] [] h (f_X8_nextShare_2 n a0 a1 h) := by
  intro n
  induction n with
  | zero => intros; intro r hr; cases hr
  | succ n ih =>
    intro a0 a1 ta0 h
    unfold f_X8_nextShare_2
    refine r_iload_n (place := 1) dX8_nextShare_2 rfl rfl ?_
    refine r_iconst dX8_nextShare_3 xc_5 ?_
    refine r_ic_ge (tgt := 25) dX8_nextShare_4 (by decide) ?_ ?_
    · refine r_iconst dX8_nextShare_25 xc_0 ?_
      refine r_istore_n (ls' := [(1, .int (0 : Int32)), (0, .ref (G.1 a0))]) dX8_nextShare_26 rfl (by decide) rfl ?_
      refine r_iconst dX8_nextShare_27 xc_0 ?_
      refine r_istore_n (ls' := [(2, .int (0 : Int32)), (1, .int (0 : Int32)), (0, .ref (G.1 a0))]) dX8_nextShare_28 rfl (by decide) rfl ?_
      exact r_sub [2, 1, 0] rfl (t_X8_nextShare_29 xFU a0 (0 : Int32) (0 : Int32) ta0 h)
    · refine r_aload_n (place := 0) dX8_nextShare_7 rfl rfl ?_
      refine r_getR dX8_nextShare_8 fg_X8_38 ta0 ?_
      refine r_iload_n (place := 1) dX8_nextShare_11 rfl rfl ?_
      refine r_aload_n (place := 0) dX8_nextShare_12 rfl rfl ?_
      refine r_getR dX8_nextShare_13 fg_X8_32 ta0 ?_
      refine r_iload_n (place := 1) dX8_nextShare_16 rfl rfl ?_
      refine r_iald dX8_nextShare_17 (xt_7_16 ta0) (fun v1 => ?_)
      refine r_iast dX8_nextShare_18 (xt_7_18 ta0) (fun h2 => ?_)
      refine r_iincC (place := 1) (ls' := [(1, .int (a1 + (1 : Int32))), (0, .ref (G.1 a0))]) dX8_nextShare_19 rfl xc_1 (by decide) rfl ?_
      refine r_goto (tgt := 2) dX8_nextShare_22 (by decide) ?_
      exact r_sub [1, 0] rfl (ih a0 (a1 + (1 : Int32)) ta0 h2)
def f_X8_nextShare (a0 : Nat) (h : Mem) : Option (Int32 × Mem) :=
  f_X8_nextShare_2 xFU a0 (0 : Int32) h
set_option maxRecDepth 20000 in
theorem c_X8_nextShare {G : xG} (a0 : Nat) (ta0 : xTy a0 7) (h : Mem) : Sm G 2 yX8_nextShare FX8_nextShare xcI [.ref (G.1 a0)] h (f_X8_nextShare a0 h) := by
  refine Sm.of pn_X8 rfl (Nat.le_of_ble_eq_true rfl) (ls := [(0, .ref (G.1 a0))]) rfl ?_
  unfold f_X8_nextShare
  refine r_iconst dX8_nextShare_0 xc_0 ?_
  refine r_istore_n (ls' := [(1, .int (0 : Int32)), (0, .ref (G.1 a0))]) dX8_nextShare_1 rfl (by decide) rfl ?_
  exact r_sub [1, 0] rfl (t_X8_nextShare_2 xFU a0 (0 : Int32) ta0 h)
def f_X8_noShare_2  : Nat → Nat → Int32 → Mem → Option (Unit × Mem)
  | 0, _, _, _ => none
  | n + 1, a0, a1, h =>
    if (5 : Int32) ≤ a1 then
        some ((), h)
    else
        ast h (xrf a0 16) a1 (0 : Int32) fun h1 =>
        (f_X8_noShare_2 n) a0 (a1 + (1 : Int32)) h1
set_option maxRecDepth 20000 in
theorem t_X8_noShare_2 {G : xG}  : ∀ (n : Nat) (a0 : Nat) (a1 : Int32) (ta0 : xTy a0 7) (h : Mem), Rn G 0 FX8_noShare xcV 2 [(0, .ref (G.1 a0)), (1, .int a1)] [] h (f_X8_noShare_2 n a0 a1 h) := by
  intro n
  induction n with
  | zero => intros; intro r hr; cases hr
  | succ n ih =>
    intro a0 a1 ta0 h
    unfold f_X8_noShare_2
    refine r_iload_n (place := 1) dX8_noShare_2 rfl rfl ?_
    refine r_iconst dX8_noShare_3 xc_5 ?_
    refine r_ic_ge (tgt := 20) dX8_noShare_4 (by decide) ?_ ?_
    · exact r_ret dX8_noShare_20 rfl
    · refine r_aload_n (place := 0) dX8_noShare_7 rfl rfl ?_
      refine r_getR dX8_noShare_8 fg_X8_32 ta0 ?_
      refine r_iload_n (place := 1) dX8_noShare_11 rfl rfl ?_
      refine r_iconst dX8_noShare_12 xc_0 ?_
      refine r_iast dX8_noShare_13 (xt_7_16 ta0) (fun h1 => ?_)
      refine r_iincC (place := 1) (ls' := [(1, .int (a1 + (1 : Int32))), (0, .ref (G.1 a0))]) dX8_noShare_14 rfl xc_1 (by decide) rfl ?_
      refine r_goto (tgt := 2) dX8_noShare_17 (by decide) ?_
      exact r_sub [1, 0] rfl (ih a0 (a1 + (1 : Int32)) ta0 h1)
def f_X8_noShare (a0 : Nat) (h : Mem) : Option (Unit × Mem) :=
  f_X8_noShare_2 xFU a0 (0 : Int32) h
set_option maxRecDepth 20000 in
theorem c_X8_noShare {G : xG} (a0 : Nat) (ta0 : xTy a0 7) (h : Mem) : Sm G 0 yX8_noShare FX8_noShare xcV [.ref (G.1 a0)] h (f_X8_noShare a0 h) := by
  refine Sm.of pn_X8 rfl (Nat.le_of_ble_eq_true rfl) (ls := [(0, .ref (G.1 a0))]) rfl ?_
  unfold f_X8_noShare
  refine r_iconst dX8_noShare_0 xc_0 ?_
  refine r_istore_n (ls' := [(1, .int (0 : Int32)), (0, .ref (G.1 a0))]) dX8_noShare_1 rfl (by decide) rfl ?_
  exact r_sub [1, 0] rfl (t_X8_noShare_2 xFU a0 (0 : Int32) ta0 h)
def f_X8_memberOf_2  : Nat → Nat → Int32 → Int32 → Mem → Option (Int32 × Mem)
  | 0, _, _, _, _ => none
  | n + 1, a0, a1, a2, h =>
    if (4 : Int32) ≤ a2 then
        b2 (f_X8_of a0 a1 (0 : Int32) h) fun v2 h1 =>
        if v2 = 0 then
            some ((-4 : Int32), h1)
        else
            ald h1 (xrf a0 16) (0 : Int32) fun v3 =>
            b2 (f_X8_subOf (xrf a0 0) a1 (xrf a0 19) v3 h1) fun v5 h4 =>
            some (v5, h4)
    else
        ald h (xrf a0 16) ((1 : Int32) + a2) fun v6 =>
        ast h (xrf a0 19) a2 v6 fun h7 =>
        (f_X8_memberOf_2 n) a0 a1 (a2 + (1 : Int32)) h7
set_option maxRecDepth 20000 in
theorem t_X8_memberOf_2 {G : xG}  : ∀ (n : Nat) (a0 : Nat) (a1 : Int32) (a2 : Int32) (ta0 : xTy a0 7) (h : Mem), Rn G 2 FX8_memberOf xcI 2 [(0, .ref (G.1 a0)), (1, .int a1), (2, .int a2)] [] h (f_X8_memberOf_2 n a0 a1 a2 h) := by
  intro n
  induction n with
  | zero => intros; intro r hr; cases hr
  | succ n ih =>
    intro a0 a1 a2 ta0 h
    unfold f_X8_memberOf_2
    refine r_iload_n (place := 2) dX8_memberOf_2 rfl rfl ?_
    refine r_iconst dX8_memberOf_3 xc_4 ?_
    refine r_ic_ge (tgt := 27) dX8_memberOf_4 (by decide) ?_ ?_
    · refine r_aload_n (place := 0) dX8_memberOf_27 rfl rfl ?_
      refine r_iload_n (place := 1) dX8_memberOf_28 rfl rfl ?_
      refine r_iconst dX8_memberOf_29 xc_0 ?_
      refine r_callVI (rest := []) dX8_memberOf_30 m_X8_of lk_X8_166 rfl (by decide) ta0 (c_X8_of a0 ta0 a1 (0 : Int32) h) (by decide) rfl rfl (Nat.le_of_ble_eq_true rfl) (fun v2 h1 => ?_)
      refine r_if_ne (tgt := 41) dX8_memberOf_33 (by decide) ?_ ?_
      · refine r_aload_n (place := 0) dX8_memberOf_41 rfl rfl ?_
        refine r_getR dX8_memberOf_42 fg_X8_7 ta0 ?_
        refine r_iload_n (place := 1) dX8_memberOf_45 rfl rfl ?_
        refine r_aload_n (place := 0) dX8_memberOf_46 rfl rfl ?_
        refine r_getR dX8_memberOf_47 fg_X8_41 ta0 ?_
        refine r_aload_n (place := 0) dX8_memberOf_50 rfl rfl ?_
        refine r_getR dX8_memberOf_51 fg_X8_32 ta0 ?_
        refine r_iconst dX8_memberOf_54 xc_0 ?_
        refine r_iald dX8_memberOf_55 (xt_7_16 ta0) (fun v3 => ?_)
        refine r_callSI (rest := []) dX8_memberOf_56 m_X8_subOf lk_X8_129 (c_X8_subOf (xrf a0 0) (xt_7_0 ta0) a1 (xrf a0 19) (xt_7_19 ta0) v3 h1) (by decide) rfl rfl (Nat.le_of_ble_eq_true rfl) (fun v5 h4 => ?_)
        exact r_iret dX8_memberOf_59 rfl
      · refine r_bipush dX8_memberOf_36 xb_m4 ?_
        refine r_goto (tgt := 59) dX8_memberOf_38 (by decide) ?_
        exact r_iret dX8_memberOf_59 rfl
    · refine r_aload_n (place := 0) dX8_memberOf_7 rfl rfl ?_
      refine r_getR dX8_memberOf_8 fg_X8_41 ta0 ?_
      refine r_iload_n (place := 2) dX8_memberOf_11 rfl rfl ?_
      refine r_aload_n (place := 0) dX8_memberOf_12 rfl rfl ?_
      refine r_getR dX8_memberOf_13 fg_X8_32 ta0 ?_
      refine r_iconst dX8_memberOf_16 xc_1 ?_
      refine r_iload_n (place := 2) dX8_memberOf_17 rfl rfl ?_
      refine r_iadd dX8_memberOf_18 ?_
      refine r_iald dX8_memberOf_19 (xt_7_16 ta0) (fun v6 => ?_)
      refine r_iast dX8_memberOf_20 (xt_7_19 ta0) (fun h7 => ?_)
      refine r_iincC (place := 2) (ls' := [(2, .int (a2 + (1 : Int32))), (0, .ref (G.1 a0)), (1, .int a1)]) dX8_memberOf_21 rfl xc_1 (by decide) rfl ?_
      refine r_goto (tgt := 2) dX8_memberOf_24 (by decide) ?_
      exact r_sub [1, 2, 0] rfl (ih a0 a1 (a2 + (1 : Int32)) ta0 h7)
def f_X8_memberOf (a0 : Nat) (a1 : Int32) (h : Mem) : Option (Int32 × Mem) :=
  f_X8_memberOf_2 xFU a0 a1 (0 : Int32) h
set_option maxRecDepth 20000 in
theorem c_X8_memberOf {G : xG} (a0 : Nat) (ta0 : xTy a0 7) (a1 : Int32) (h : Mem) : Sm G 2 yX8_memberOf FX8_memberOf xcI [.ref (G.1 a0), .int a1] h (f_X8_memberOf a0 a1 h) := by
  refine Sm.of pn_X8 rfl (Nat.le_of_ble_eq_true rfl) (ls := [(0, .ref (G.1 a0)), (1, .int a1)]) rfl ?_
  unfold f_X8_memberOf
  refine r_iconst dX8_memberOf_0 xc_0 ?_
  refine r_istore_n (ls' := [(2, .int (0 : Int32)), (0, .ref (G.1 a0)), (1, .int a1)]) dX8_memberOf_1 rfl (by decide) rfl ?_
  exact r_sub [1, 2, 0] rfl (t_X8_memberOf_2 xFU a0 a1 (0 : Int32) ta0 h)
def f_X8_hadOf_54 (kk2 : Nat → Int32 → Mem → Option (Int32 × Mem)) (kk17 : Nat → Int32 → Int32 → Int32 → Mem → Option (Int32 × Mem)) (a0 : Nat) (a1 : Int32) (a3 : Int32) (s0 : Int32) (h : Mem) : Option (Int32 × Mem) :=
  kk17 a0 a1 s0 (a3 + (1 : Int32)) h
set_option maxRecDepth 20000 in
theorem t_X8_hadOf_54 {G : xG} (kk2 : Nat → Int32 → Mem → Option (Int32 × Mem)) (hk2 : ∀ (a0 : Nat) (a1 : Int32) (ta0 : xTy a0 7) (h : Mem), Rn G 0 FX8_hadOf xcI 2 [(0, .ref (G.1 a0)), (1, .int a1)] [] h (kk2 a0 a1 h)) (kk17 : Nat → Int32 → Int32 → Int32 → Mem → Option (Int32 × Mem)) (hk17 : ∀ (a0 : Nat) (a1 : Int32) (a2 : Int32) (a3 : Int32) (ta0 : xTy a0 7) (h : Mem), Rn G 0 FX8_hadOf xcI 17 [(0, .ref (G.1 a0)), (1, .int a1), (2, .int a2), (3, .int a3)] [] h (kk17 a0 a1 a2 a3 h)) (a0 : Nat) (a1 : Int32) (a3 : Int32) (s0 : Int32) (ta0 : xTy a0 7) (h : Mem) : Rn G 0 FX8_hadOf xcI 54 [(0, .ref (G.1 a0)), (1, .int a1), (3, .int a3)] [.int s0] h (f_X8_hadOf_54 kk2 kk17 a0 a1 a3 s0 h) := by
  unfold f_X8_hadOf_54
  refine r_istore_n (ls' := [(2, .int s0), (0, .ref (G.1 a0)), (1, .int a1), (3, .int a3)]) dX8_hadOf_54 rfl (by decide) rfl ?_
  refine r_iincC (place := 3) (ls' := [(3, .int (a3 + (1 : Int32))), (2, .int s0), (0, .ref (G.1 a0)), (1, .int a1)]) dX8_hadOf_55 rfl xc_1 (by decide) rfl ?_
  refine r_goto (tgt := 17) dX8_hadOf_58 (by decide) ?_
  exact r_sub [2, 3, 1, 0] rfl (hk17 a0 a1 s0 (a3 + (1 : Int32)) ta0 h)
def f_X8_hadOf_53 (kk2 : Nat → Int32 → Mem → Option (Int32 × Mem)) (kk17 : Nat → Int32 → Int32 → Int32 → Mem → Option (Int32 × Mem)) (a0 : Nat) (a1 : Int32) (a3 : Int32) (h : Mem) : Option (Int32 × Mem) :=
  f_X8_hadOf_54 kk2 kk17 a0 a1 a3 (0 : Int32) h
set_option maxRecDepth 20000 in
theorem t_X8_hadOf_53 {G : xG} (kk2 : Nat → Int32 → Mem → Option (Int32 × Mem)) (hk2 : ∀ (a0 : Nat) (a1 : Int32) (ta0 : xTy a0 7) (h : Mem), Rn G 0 FX8_hadOf xcI 2 [(0, .ref (G.1 a0)), (1, .int a1)] [] h (kk2 a0 a1 h)) (kk17 : Nat → Int32 → Int32 → Int32 → Mem → Option (Int32 × Mem)) (hk17 : ∀ (a0 : Nat) (a1 : Int32) (a2 : Int32) (a3 : Int32) (ta0 : xTy a0 7) (h : Mem), Rn G 0 FX8_hadOf xcI 17 [(0, .ref (G.1 a0)), (1, .int a1), (2, .int a2), (3, .int a3)] [] h (kk17 a0 a1 a2 a3 h)) (a0 : Nat) (a1 : Int32) (a3 : Int32) (ta0 : xTy a0 7) (h : Mem) : Rn G 0 FX8_hadOf xcI 53 [(0, .ref (G.1 a0)), (1, .int a1), (3, .int a3)] [] h (f_X8_hadOf_53 kk2 kk17 a0 a1 a3 h) := by
  unfold f_X8_hadOf_53
  refine r_iconst dX8_hadOf_53 xc_0 ?_
  exact r_sub [0, 1, 2] rfl (t_X8_hadOf_54 kk2 hk2 kk17 hk17 a0 a1 a3 (0 : Int32) ta0 h)
def f_X8_hadOf_17 (kk2 : Nat → Int32 → Mem → Option (Int32 × Mem)) : Nat → Nat → Int32 → Int32 → Int32 → Mem → Option (Int32 × Mem)
  | 0, _, _, _, _, _ => none
  | n + 1, a0, a1, a2, a3, h =>
    if (5 : Int32) ≤ a3 then
        if a2 = 0 then
            kk2 a0 (a1 + (1 : Int32)) h
        else
            some (a1, h)
    else
        if a2 = 0 then
            f_X8_hadOf_53 kk2 (f_X8_hadOf_17 kk2 n) a0 a1 a3 h
        else
            ald h (xrf a0 0) (((92 : Int32) + ((6 : Int32) * a1)) + a3) fun v1 =>
            ald h (xrf a0 16) a3 fun v2 =>
            if v1 = v2 then
                f_X8_hadOf_54 kk2 (f_X8_hadOf_17 kk2 n) a0 a1 a3 (1 : Int32) h
            else
                f_X8_hadOf_53 kk2 (f_X8_hadOf_17 kk2 n) a0 a1 a3 h
set_option maxRecDepth 20000 in
theorem t_X8_hadOf_17 {G : xG} (kk2 : Nat → Int32 → Mem → Option (Int32 × Mem)) (hk2 : ∀ (a0 : Nat) (a1 : Int32) (ta0 : xTy a0 7) (h : Mem), Rn G 0 FX8_hadOf xcI 2 [(0, .ref (G.1 a0)), (1, .int a1)] [] h (kk2 a0 a1 h)) : ∀ (n : Nat) (a0 : Nat) (a1 : Int32) (a2 : Int32) (a3 : Int32) (ta0 : xTy a0 7) (h : Mem), Rn G 0 FX8_hadOf xcI 17 [(0, .ref (G.1 a0)), (1, .int a1), (2, .int a2), (3, .int a3)] [] h (f_X8_hadOf_17 kk2 n a0 a1 a2 a3 h) := by
  intro n
  induction n with
  | zero => intros; intro r hr; cases hr
  | succ n ih =>
    intro a0 a1 a2 a3 ta0 h
    unfold f_X8_hadOf_17
    refine r_iload_n (place := 3) dX8_hadOf_17 rfl rfl ?_
    refine r_iconst dX8_hadOf_18 xc_5 ?_
    refine r_ic_ge (tgt := 61) dX8_hadOf_19 (by decide) ?_ ?_
    · refine r_iload_n (place := 2) dX8_hadOf_61 rfl rfl ?_
      refine r_if_eq (tgt := 67) dX8_hadOf_62 (by decide) ?_ ?_
      · refine r_iincC (place := 1) (ls' := [(1, .int (a1 + (1 : Int32))), (0, .ref (G.1 a0)), (2, .int a2), (3, .int a3)]) dX8_hadOf_67 rfl xc_1 (by decide) rfl ?_
        refine r_goto (tgt := 2) dX8_hadOf_70 (by decide) ?_
        exact r_sub [1, 0] rfl (hk2 a0 (a1 + (1 : Int32)) ta0 h)
      · refine r_iload_n (place := 1) dX8_hadOf_65 rfl rfl ?_
        exact r_iret dX8_hadOf_66 rfl
    · refine r_iload_n (place := 2) dX8_hadOf_22 rfl rfl ?_
      refine r_if_eq (tgt := 53) dX8_hadOf_23 (by decide) ?_ ?_
      · exact r_sub [0, 1, 3] rfl (t_X8_hadOf_53 kk2 hk2 (f_X8_hadOf_17 kk2 n) ih a0 a1 a3 ta0 h)
      · refine r_aload_n (place := 0) dX8_hadOf_26 rfl rfl ?_
        refine r_getR dX8_hadOf_27 fg_X8_7 ta0 ?_
        refine r_bipush dX8_hadOf_30 xb_92 ?_
        refine r_bipush dX8_hadOf_32 xb_6 ?_
        refine r_iload_n (place := 1) dX8_hadOf_34 rfl rfl ?_
        refine r_imul dX8_hadOf_35 ?_
        refine r_iadd dX8_hadOf_36 ?_
        refine r_iload_n (place := 3) dX8_hadOf_37 rfl rfl ?_
        refine r_iadd dX8_hadOf_38 ?_
        refine r_iald dX8_hadOf_39 (xt_7_0 ta0) (fun v1 => ?_)
        refine r_aload_n (place := 0) dX8_hadOf_40 rfl rfl ?_
        refine r_getR dX8_hadOf_41 fg_X8_32 ta0 ?_
        refine r_iload_n (place := 3) dX8_hadOf_44 rfl rfl ?_
        refine r_iald dX8_hadOf_45 (xt_7_16 ta0) (fun v2 => ?_)
        refine r_ic_ne (tgt := 53) dX8_hadOf_46 (by decide) ?_ ?_
        · exact r_sub [0, 1, 3] rfl (t_X8_hadOf_53 kk2 hk2 (f_X8_hadOf_17 kk2 n) ih a0 a1 a3 ta0 h)
        · refine r_iconst dX8_hadOf_49 xc_1 ?_
          refine r_goto (tgt := 54) dX8_hadOf_50 (by decide) ?_
          exact r_sub [0, 1, 3] rfl (t_X8_hadOf_54 kk2 hk2 (f_X8_hadOf_17 kk2 n) ih a0 a1 a3 (1 : Int32) ta0 h)
def f_X8_hadOf_2  : Nat → Nat → Int32 → Mem → Option (Int32 × Mem)
  | 0, _, _, _ => none
  | n + 1, a0, a1, h =>
    ald h (xrf a0 0) (7 : Int32) fun v1 =>
    if v1 ≤ a1 then
        some ((-4 : Int32), h)
    else
        f_X8_hadOf_17 (f_X8_hadOf_2 n) xFU a0 a1 (1 : Int32) (0 : Int32) h
set_option maxRecDepth 20000 in
theorem t_X8_hadOf_2 {G : xG}  : ∀ (n : Nat) (a0 : Nat) (a1 : Int32) (ta0 : xTy a0 7) (h : Mem), Rn G 0 FX8_hadOf xcI 2 [(0, .ref (G.1 a0)), (1, .int a1)] [] h (f_X8_hadOf_2 n a0 a1 h) := by
  intro n
  induction n with
  | zero => intros; intro r hr; cases hr
  | succ n ih =>
    intro a0 a1 ta0 h
    unfold f_X8_hadOf_2
    refine r_iload_n (place := 1) dX8_hadOf_2 rfl rfl ?_
    refine r_aload_n (place := 0) dX8_hadOf_3 rfl rfl ?_
    refine r_getR dX8_hadOf_4 fg_X8_7 ta0 ?_
    refine r_bipush dX8_hadOf_7 xb_7 ?_
    refine r_iald dX8_hadOf_9 (xt_7_0 ta0) (fun v1 => ?_)
    refine r_ic_ge (tgt := 73) dX8_hadOf_10 (by decide) ?_ ?_
    · refine r_bipush dX8_hadOf_73 xb_m4 ?_
      exact r_iret dX8_hadOf_75 rfl
    · refine r_iconst dX8_hadOf_13 xc_1 ?_
      refine r_istore_n (ls' := [(2, .int (1 : Int32)), (0, .ref (G.1 a0)), (1, .int a1)]) dX8_hadOf_14 rfl (by decide) rfl ?_
      refine r_iconst dX8_hadOf_15 xc_0 ?_
      refine r_istore_n (ls' := [(3, .int (0 : Int32)), (2, .int (1 : Int32)), (0, .ref (G.1 a0)), (1, .int a1)]) dX8_hadOf_16 rfl (by decide) rfl ?_
      exact r_sub [2, 3, 1, 0] rfl (t_X8_hadOf_17 (f_X8_hadOf_2 n) ih xFU a0 a1 (1 : Int32) (0 : Int32) ta0 h)
def f_X8_hadOf (a0 : Nat) (h : Mem) : Option (Int32 × Mem) :=
  f_X8_hadOf_2 xFU a0 (0 : Int32) h
set_option maxRecDepth 20000 in
theorem c_X8_hadOf {G : xG} (a0 : Nat) (ta0 : xTy a0 7) (h : Mem) : Sm G 0 yX8_hadOf FX8_hadOf xcI [.ref (G.1 a0)] h (f_X8_hadOf a0 h) := by
  refine Sm.of pn_X8 rfl (Nat.le_of_ble_eq_true rfl) (ls := [(0, .ref (G.1 a0))]) rfl ?_
  unfold f_X8_hadOf
  refine r_iconst dX8_hadOf_0 xc_0 ?_
  refine r_istore_n (ls' := [(1, .int (0 : Int32)), (0, .ref (G.1 a0))]) dX8_hadOf_1 rfl (by decide) rfl ?_
  exact r_sub [1, 0] rfl (t_X8_hadOf_2 xFU a0 (0 : Int32) ta0 h)
def f_X8_turnOf_41 (kk2 : Nat → Int32 → Int32 → Int32 → Mem → Option (Int32 × Mem)) (a0 : Nat) (a1 : Int32) (a2 : Int32) (a3 : Int32) (h : Mem) : Option (Int32 × Mem) :=
  kk2 a0 a1 a2 (a3 + (1 : Int32)) h
set_option maxRecDepth 20000 in
theorem t_X8_turnOf_41 {G : xG} (kk2 : Nat → Int32 → Int32 → Int32 → Mem → Option (Int32 × Mem)) (hk2 : ∀ (a0 : Nat) (a1 : Int32) (a2 : Int32) (a3 : Int32) (ta0 : xTy a0 7) (h : Mem), Rn G 3 FX8_turnOf xcI 2 [(0, .ref (G.1 a0)), (1, .int a1), (2, .int a2), (3, .int a3)] [] h (kk2 a0 a1 a2 a3 h)) (a0 : Nat) (a1 : Int32) (a2 : Int32) (a3 : Int32) (ta0 : xTy a0 7) (h : Mem) : Rn G 3 FX8_turnOf xcI 41 [(0, .ref (G.1 a0)), (1, .int a1), (2, .int a2), (3, .int a3)] [] h (f_X8_turnOf_41 kk2 a0 a1 a2 a3 h) := by
  unfold f_X8_turnOf_41
  refine r_iincC (place := 3) (ls' := [(3, .int (a3 + (1 : Int32))), (0, .ref (G.1 a0)), (1, .int a1), (2, .int a2)]) dX8_turnOf_41 rfl xc_1 (by decide) rfl ?_
  refine r_goto (tgt := 2) dX8_turnOf_44 (by decide) ?_
  exact r_sub [1, 2, 3, 0] rfl (hk2 a0 a1 a2 (a3 + (1 : Int32)) ta0 h)
def f_X8_turnOf_2  : Nat → Nat → Int32 → Int32 → Int32 → Mem → Option (Int32 × Mem)
  | 0, _, _, _, _, _ => none
  | n + 1, a0, a1, a2, a3, h =>
    if (6 : Int32) < a3 then
        some ((-4 : Int32), h)
    else
        b2 (f_X8_of a0 ((a1 + a3) - (a1 + a3) / (6 : Int32) * (6 : Int32)) (0 : Int32) h) fun v2 h1 =>
        if v2 = a2 then
            b2 (f_X8_memberOf a0 ((a1 + a3) - (a1 + a3) / (6 : Int32) * (6 : Int32)) h1) fun v4 h3 =>
            if v4 = (-4 : Int32) then
                f_X8_turnOf_41 (f_X8_turnOf_2 n) a0 a1 a2 a3 h3
            else
                some (((a1 + a3) - (a1 + a3) / (6 : Int32) * (6 : Int32)), h3)
        else
            f_X8_turnOf_41 (f_X8_turnOf_2 n) a0 a1 a2 a3 h1
set_option maxRecDepth 20000 in
theorem t_X8_turnOf_2 {G : xG}  : ∀ (n : Nat) (a0 : Nat) (a1 : Int32) (a2 : Int32) (a3 : Int32) (ta0 : xTy a0 7) (h : Mem), Rn G 3 FX8_turnOf xcI 2 [(0, .ref (G.1 a0)), (1, .int a1), (2, .int a2), (3, .int a3)] [] h (f_X8_turnOf_2 n a0 a1 a2 a3 h) := by
  intro n
  induction n with
  | zero => intros; intro r hr; cases hr
  | succ n ih =>
    intro a0 a1 a2 a3 ta0 h
    unfold f_X8_turnOf_2
    refine r_iload_n (place := 3) dX8_turnOf_2 rfl rfl ?_
    refine r_bipush dX8_turnOf_3 xb_6 ?_
    refine r_ic_gt (tgt := 47) dX8_turnOf_5 (by decide) ?_ ?_
    · refine r_bipush dX8_turnOf_47 xb_m4 ?_
      exact r_iret dX8_turnOf_49 rfl
    · refine r_iload_n (place := 1) dX8_turnOf_8 rfl rfl ?_
      refine r_iload_n (place := 3) dX8_turnOf_9 rfl rfl ?_
      refine r_iadd dX8_turnOf_10 ?_
      refine r_bipush dX8_turnOf_11 xb_6 ?_
      refine r_irem dX8_turnOf_13 (by decide) ?_
      refine r_istore (ls' := [(4, .int ((a1 + a3) - (a1 + a3) / (6 : Int32) * (6 : Int32))), (0, .ref (G.1 a0)), (1, .int a1), (2, .int a2), (3, .int a3)]) dX8_turnOf_14 (by decide) rfl ?_
      refine r_aload_n (place := 1) dX8_turnOf_16 rfl rfl ?_
      refine r_iload (place := 0) dX8_turnOf_17 rfl ?_
      refine r_iconst dX8_turnOf_19 xc_0 ?_
      refine r_callVI (rest := []) dX8_turnOf_20 m_X8_of lk_X8_166 rfl (by decide) ta0 (c_X8_of a0 ta0 ((a1 + a3) - (a1 + a3) / (6 : Int32) * (6 : Int32)) (0 : Int32) h) (by decide) rfl rfl (Nat.le_of_ble_eq_true rfl) (fun v2 h1 => ?_)
      refine r_iload_n (place := 3) dX8_turnOf_23 rfl rfl ?_
      refine r_ic_ne (tgt := 41) dX8_turnOf_24 (by decide) ?_ ?_
      · exact r_sub [1, 2, 3, 4] rfl (t_X8_turnOf_41 (f_X8_turnOf_2 n) ih a0 a1 a2 a3 ta0 h1)
      · refine r_aload_n (place := 1) dX8_turnOf_27 rfl rfl ?_
        refine r_iload (place := 0) dX8_turnOf_28 rfl ?_
        refine r_callVI (rest := []) dX8_turnOf_30 m_X8_memberOf lk_X8_200 rfl (by decide) ta0 (c_X8_memberOf a0 ta0 ((a1 + a3) - (a1 + a3) / (6 : Int32) * (6 : Int32)) h1) (by decide) rfl rfl (Nat.le_of_ble_eq_true rfl) (fun v4 h3 => ?_)
        refine r_bipush dX8_turnOf_33 xb_m4 ?_
        refine r_ic_eq (tgt := 41) dX8_turnOf_35 (by decide) ?_ ?_
        · exact r_sub [1, 2, 3, 4] rfl (t_X8_turnOf_41 (f_X8_turnOf_2 n) ih a0 a1 a2 a3 ta0 h3)
        · refine r_iload (place := 0) dX8_turnOf_38 rfl ?_
          exact r_iret dX8_turnOf_40 rfl
def f_X8_turnOf (a0 : Nat) (a1 : Int32) (a2 : Int32) (h : Mem) : Option (Int32 × Mem) :=
  f_X8_turnOf_2 xFU a0 a1 a2 (1 : Int32) h
set_option maxRecDepth 20000 in
theorem c_X8_turnOf {G : xG} (a0 : Nat) (ta0 : xTy a0 7) (a1 : Int32) (a2 : Int32) (h : Mem) : Sm G 3 yX8_turnOf FX8_turnOf xcI [.ref (G.1 a0), .int a1, .int a2] h (f_X8_turnOf a0 a1 a2 h) := by
  refine Sm.of pn_X8 rfl (Nat.le_of_ble_eq_true rfl) (ls := [(0, .ref (G.1 a0)), (1, .int a1), (2, .int a2)]) rfl ?_
  unfold f_X8_turnOf
  refine r_iconst dX8_turnOf_0 xc_1 ?_
  refine r_istore_n (ls' := [(3, .int (1 : Int32)), (0, .ref (G.1 a0)), (1, .int a1), (2, .int a2)]) dX8_turnOf_1 rfl (by decide) rfl ?_
  exact r_sub [1, 2, 3, 0] rfl (t_X8_turnOf_2 xFU a0 a1 a2 (1 : Int32) ta0 h)
def f_X8_sharesOut_129  (a0 : Nat) (a1 : Int32) (a2 : Int32) (a3 : Int32) (a4 : Int32) (a6 : Int32) (h : Mem) : Option (Unit × Mem) :=
  ast h (xrf a0 0) (((92 : Int32) + ((6 : Int32) * a4)) + (5 : Int32)) a6 fun h1 =>
  b2 (f_X8_memberOf a0 a6 h1) fun v3 h2 =>
  b2 (f_X8_of a0 a6 (((45 : Int32) + ((6 : Int32) * v3)) + (4 : Int32)) h2) fun v5 h4 =>
  b2 (f_X8_lesser a2 v5 h4) fun v7 h6 =>
  b2 (f_X8_goes a0 a6 a1 v7 a3 (0 : Int32) h6) fun _ h8 =>
  some ((), h8)
set_option maxRecDepth 20000 in
theorem t_X8_sharesOut_129 {G : xG}  (a0 : Nat) (a1 : Int32) (a2 : Int32) (a3 : Int32) (a4 : Int32) (a6 : Int32) (ta0 : xTy a0 7) (h : Mem) : Rn G 6 FX8_sharesOut xcV 129 [(0, .ref (G.1 a0)), (1, .int a1), (2, .int a2), (3, .int a3), (4, .int a4), (6, .int a6)] [] h (f_X8_sharesOut_129 a0 a1 a2 a3 a4 a6 h) := by
  unfold f_X8_sharesOut_129
  refine r_aload_n (place := 0) dX8_sharesOut_129 rfl rfl ?_
  refine r_getR dX8_sharesOut_130 fg_X8_7 ta0 ?_
  refine r_bipush dX8_sharesOut_133 xb_92 ?_
  refine r_bipush dX8_sharesOut_135 xb_6 ?_
  refine r_iload (place := 4) dX8_sharesOut_137 rfl ?_
  refine r_imul dX8_sharesOut_139 ?_
  refine r_iadd dX8_sharesOut_140 ?_
  refine r_iconst dX8_sharesOut_141 xc_5 ?_
  refine r_iadd dX8_sharesOut_142 ?_
  refine r_iload (place := 5) dX8_sharesOut_143 rfl ?_
  refine r_iast dX8_sharesOut_145 (xt_7_0 ta0) (fun h1 => ?_)
  refine r_aload_n (place := 0) dX8_sharesOut_146 rfl rfl ?_
  refine r_iload (place := 5) dX8_sharesOut_147 rfl ?_
  refine r_iload_n (place := 1) dX8_sharesOut_149 rfl rfl ?_
  refine r_iload_n (place := 2) dX8_sharesOut_150 rfl rfl ?_
  refine r_aload_n (place := 0) dX8_sharesOut_151 rfl rfl ?_
  refine r_iload (place := 5) dX8_sharesOut_152 rfl ?_
  refine r_bipush dX8_sharesOut_154 xb_45 ?_
  refine r_bipush dX8_sharesOut_156 xb_6 ?_
  refine r_aload_n (place := 0) dX8_sharesOut_158 rfl rfl ?_
  refine r_iload (place := 5) dX8_sharesOut_159 rfl ?_
  refine r_callVI (rest := [.int (6 : Int32), .int (45 : Int32), .int a6, .ref (G.1 a0), .int a2, .int a1, .int a6, .ref (G.1 a0)]) dX8_sharesOut_161 m_X8_memberOf lk_X8_200 rfl (by decide) ta0 (c_X8_memberOf a0 ta0 a6 h1) (by decide) rfl rfl (Nat.le_of_ble_eq_true rfl) (fun v3 h2 => ?_)
  refine r_imul dX8_sharesOut_164 ?_
  refine r_iadd dX8_sharesOut_165 ?_
  refine r_iconst dX8_sharesOut_166 xc_4 ?_
  refine r_iadd dX8_sharesOut_167 ?_
  refine r_callVI (rest := [.int a2, .int a1, .int a6, .ref (G.1 a0)]) dX8_sharesOut_168 m_X8_of lk_X8_166 rfl (by decide) ta0 (c_X8_of a0 ta0 a6 (((45 : Int32) + ((6 : Int32) * v3)) + (4 : Int32)) h2) (by decide) rfl rfl (Nat.le_of_ble_eq_true rfl) (fun v5 h4 => ?_)
  refine r_callSI (rest := [.int a1, .int a6, .ref (G.1 a0)]) dX8_sharesOut_171 m_X8_lesser lk_X8_210 (c_X8_lesser a2 v5 h4) (by decide) rfl rfl (Nat.le_of_ble_eq_true rfl) (fun v7 h6 => ?_)
  refine r_iload_n (place := 3) dX8_sharesOut_174 rfl rfl ?_
  refine r_iconst dX8_sharesOut_175 xc_0 ?_
  refine r_callVV (rest := []) dX8_sharesOut_176 m_X8_goes lk_X8_213 rfl (by decide) ta0 (c_X8_goes a0 ta0 a6 a1 v7 a3 (0 : Int32) h6) (by decide) rfl rfl (Nat.le_of_ble_eq_true rfl) (fun h8 => ?_)
  exact r_ret dX8_sharesOut_179 rfl
def f_X8_sharesOut_94  : Nat → Nat → Int32 → Int32 → Int32 → Int32 → Int32 → Int32 → Mem → Option (Unit × Mem)
  | 0, _, _, _, _, _, _, _, _ => none
  | n + 1, a0, a1, a2, a3, a4, a6, a7, h =>
    if (5 : Int32) ≤ a7 then
        f_X8_sharesOut_129 a0 a1 a2 a3 a4 a6 h
    else
        ald h (xrf a0 16) a7 fun v1 =>
        ast h (xrf a0 0) (((92 : Int32) + ((6 : Int32) * a4)) + a7) v1 fun h2 =>
        (f_X8_sharesOut_94 n) a0 a1 a2 a3 a4 a6 (a7 + (1 : Int32)) h2
set_option maxRecDepth 20000 in
theorem t_X8_sharesOut_94 {G : xG}  : ∀ (n : Nat) (a0 : Nat) (a1 : Int32) (a2 : Int32) (a3 : Int32) (a4 : Int32) (a6 : Int32) (a7 : Int32) (ta0 : xTy a0 7) (h : Mem), Rn G 6 FX8_sharesOut xcV 94 [(0, .ref (G.1 a0)), (1, .int a1), (2, .int a2), (3, .int a3), (4, .int a4), (6, .int a6), (7, .int a7)] [] h (f_X8_sharesOut_94 n a0 a1 a2 a3 a4 a6 a7 h) := by
  intro n
  induction n with
  | zero => intros; intro r hr; cases hr
  | succ n ih =>
    intro a0 a1 a2 a3 a4 a6 a7 ta0 h
    unfold f_X8_sharesOut_94
    refine r_iload (place := 6) dX8_sharesOut_94 rfl ?_
    refine r_iconst dX8_sharesOut_96 xc_5 ?_
    refine r_ic_ge (tgt := 129) dX8_sharesOut_97 (by decide) ?_ ?_
    · exact r_sub [0, 1, 2, 3, 4, 5] rfl (t_X8_sharesOut_129 a0 a1 a2 a3 a4 a6 ta0 h)
    · refine r_aload_n (place := 0) dX8_sharesOut_100 rfl rfl ?_
      refine r_getR dX8_sharesOut_101 fg_X8_7 ta0 ?_
      refine r_bipush dX8_sharesOut_104 xb_92 ?_
      refine r_bipush dX8_sharesOut_106 xb_6 ?_
      refine r_iload (place := 4) dX8_sharesOut_108 rfl ?_
      refine r_imul dX8_sharesOut_110 ?_
      refine r_iadd dX8_sharesOut_111 ?_
      refine r_iload (place := 6) dX8_sharesOut_112 rfl ?_
      refine r_iadd dX8_sharesOut_114 ?_
      refine r_aload_n (place := 0) dX8_sharesOut_115 rfl rfl ?_
      refine r_getR dX8_sharesOut_116 fg_X8_32 ta0 ?_
      refine r_iload (place := 6) dX8_sharesOut_119 rfl ?_
      refine r_iald dX8_sharesOut_121 (xt_7_16 ta0) (fun v1 => ?_)
      refine r_iast dX8_sharesOut_122 (xt_7_0 ta0) (fun h2 => ?_)
      refine r_iincC (place := 6) (ls' := [(7, .int (a7 + (1 : Int32))), (0, .ref (G.1 a0)), (1, .int a1), (2, .int a2), (3, .int a3), (4, .int a4), (6, .int a6)]) dX8_sharesOut_123 rfl xc_1 (by decide) rfl ?_
      refine r_goto (tgt := 94) dX8_sharesOut_126 (by decide) ?_
      exact r_sub [1, 2, 3, 4, 5, 6, 0] rfl (ih a0 a1 a2 a3 a4 a6 (a7 + (1 : Int32)) ta0 h2)
def f_X8_sharesOut_62  (a0 : Nat) (a1 : Int32) (a2 : Int32) (a3 : Int32) (a4 : Int32) (s0 : Int32) (h : Mem) : Option (Unit × Mem) :=
  if a4 = (-4 : Int32) then
      ald h (xrf a0 0) (7 : Int32) fun v1 =>
      ald h (xrf a0 0) (7 : Int32) fun v2 =>
      ast h (xrf a0 0) (7 : Int32) (v2 + (1 : Int32)) fun h3 =>
      f_X8_sharesOut_94 xFU a0 a1 a2 a3 v1 s0 (0 : Int32) h3
  else
      f_X8_sharesOut_129 a0 a1 a2 a3 a4 s0 h
set_option maxRecDepth 20000 in
theorem t_X8_sharesOut_62 {G : xG}  (a0 : Nat) (a1 : Int32) (a2 : Int32) (a3 : Int32) (a4 : Int32) (s0 : Int32) (ta0 : xTy a0 7) (h : Mem) : Rn G 6 FX8_sharesOut xcV 62 [(0, .ref (G.1 a0)), (1, .int a1), (2, .int a2), (3, .int a3), (4, .int a4)] [.int s0] h (f_X8_sharesOut_62 a0 a1 a2 a3 a4 s0 h) := by
  unfold f_X8_sharesOut_62
  refine r_istore (ls' := [(6, .int s0), (0, .ref (G.1 a0)), (1, .int a1), (2, .int a2), (3, .int a3), (4, .int a4)]) dX8_sharesOut_62 (by decide) rfl ?_
  refine r_iload (place := 5) dX8_sharesOut_64 rfl ?_
  refine r_bipush dX8_sharesOut_66 xb_m4 ?_
  refine r_ic_ne (tgt := 129) dX8_sharesOut_68 (by decide) ?_ ?_
  · exact r_sub [1, 2, 3, 4, 5, 0] rfl (t_X8_sharesOut_129 a0 a1 a2 a3 a4 s0 ta0 h)
  · refine r_aload_n (place := 1) dX8_sharesOut_71 rfl rfl ?_
    refine r_getR dX8_sharesOut_72 fg_X8_7 ta0 ?_
    refine r_bipush dX8_sharesOut_75 xb_7 ?_
    refine r_iald dX8_sharesOut_77 (xt_7_0 ta0) (fun v1 => ?_)
    refine r_istore (ls' := [(4, .int v1), (6, .int s0), (0, .ref (G.1 a0)), (1, .int a1), (2, .int a2), (3, .int a3)]) dX8_sharesOut_78 (by decide) rfl ?_
    refine r_aload_n (place := 2) dX8_sharesOut_80 rfl rfl ?_
    refine r_getR dX8_sharesOut_81 fg_X8_7 ta0 ?_
    refine r_bipush dX8_sharesOut_84 xb_7 ?_
    refine r_dup2 dX8_sharesOut_86 rfl rfl ?_
    refine r_iald dX8_sharesOut_87 (xt_7_0 ta0) (fun v2 => ?_)
    refine r_iconst dX8_sharesOut_88 xc_1 ?_
    refine r_iadd dX8_sharesOut_89 ?_
    refine r_iast dX8_sharesOut_90 (xt_7_0 ta0) (fun h3 => ?_)
    refine r_iconst dX8_sharesOut_91 xc_0 ?_
    refine r_istore (ls' := [(7, .int (0 : Int32)), (4, .int v1), (6, .int s0), (0, .ref (G.1 a0)), (1, .int a1), (2, .int a2), (3, .int a3)]) dX8_sharesOut_92 (by decide) rfl ?_
    exact r_sub [3, 4, 5, 6, 1, 2, 0] rfl (t_X8_sharesOut_94 xFU a0 a1 a2 a3 v1 s0 (0 : Int32) ta0 h3)
def f_X8_sharesOut_32  (a0 : Nat) (a1 : Int32) (a2 : Int32) (a3 : Int32) (a4 : Int32) (s0 : Int32) (h : Mem) : Option (Unit × Mem) :=
  b2 (f_X8_turnOf a0 s0 (1 : Int32) h) fun v2 h1 =>
  if v2 = (-4 : Int32) then
      b2 (f_X8_turnOf a0 s0 (2 : Int32) h1) fun v4 h3 =>
      f_X8_sharesOut_62 a0 a1 a2 a3 a4 v4 h3
  else
      f_X8_sharesOut_62 a0 a1 a2 a3 a4 v2 h1
set_option maxRecDepth 20000 in
theorem t_X8_sharesOut_32 {G : xG}  (a0 : Nat) (a1 : Int32) (a2 : Int32) (a3 : Int32) (a4 : Int32) (s0 : Int32) (ta0 : xTy a0 7) (h : Mem) : Rn G 6 FX8_sharesOut xcV 32 [(0, .ref (G.1 a0)), (1, .int a1), (2, .int a2), (3, .int a3), (4, .int a4)] [.int s0] h (f_X8_sharesOut_32 a0 a1 a2 a3 a4 s0 h) := by
  unfold f_X8_sharesOut_32
  refine r_istore (ls' := [(5, .int s0), (0, .ref (G.1 a0)), (1, .int a1), (2, .int a2), (3, .int a3), (4, .int a4)]) dX8_sharesOut_32 (by decide) rfl ?_
  refine r_aload_n (place := 1) dX8_sharesOut_34 rfl rfl ?_
  refine r_iload (place := 0) dX8_sharesOut_35 rfl ?_
  refine r_iconst dX8_sharesOut_37 xc_1 ?_
  refine r_callVI (rest := []) dX8_sharesOut_38 m_X8_turnOf lk_X8_207 rfl (by decide) ta0 (c_X8_turnOf a0 ta0 s0 (1 : Int32) h) (by decide) rfl rfl (Nat.le_of_ble_eq_true rfl) (fun v2 h1 => ?_)
  refine r_istore (ls' := [(6, .int v2), (5, .int s0), (0, .ref (G.1 a0)), (1, .int a1), (2, .int a2), (3, .int a3), (4, .int a4)]) dX8_sharesOut_41 (by decide) rfl ?_
  refine r_iload (place := 0) dX8_sharesOut_43 rfl ?_
  refine r_bipush dX8_sharesOut_45 xb_m4 ?_
  refine r_ic_ne (tgt := 60) dX8_sharesOut_47 (by decide) ?_ ?_
  · refine r_iload (place := 0) dX8_sharesOut_60 rfl ?_
    exact r_sub [2, 3, 4, 5, 6] rfl (t_X8_sharesOut_62 a0 a1 a2 a3 a4 v2 ta0 h1)
  · refine r_aload_n (place := 2) dX8_sharesOut_50 rfl rfl ?_
    refine r_iload (place := 1) dX8_sharesOut_51 rfl ?_
    refine r_iconst dX8_sharesOut_53 xc_2 ?_
    refine r_callVI (rest := []) dX8_sharesOut_54 m_X8_turnOf lk_X8_207 rfl (by decide) ta0 (c_X8_turnOf a0 ta0 s0 (2 : Int32) h1) (by decide) rfl rfl (Nat.le_of_ble_eq_true rfl) (fun v4 h3 => ?_)
    refine r_goto (tgt := 62) dX8_sharesOut_57 (by decide) ?_
    exact r_sub [2, 3, 4, 5, 6] rfl (t_X8_sharesOut_62 a0 a1 a2 a3 a4 v4 ta0 h3)
def f_X8_sharesOut (a0 : Nat) (a1 : Int32) (a2 : Int32) (a3 : Int32) (h : Mem) : Option (Unit × Mem) :=
  b2 (f_X8_hadOf a0 h) fun v2 h1 =>
  if v2 = (-4 : Int32) then
      f_X8_sharesOut_32 a0 a1 a2 a3 v2 (5 : Int32) h1
  else
      ald h1 (xrf a0 0) (((92 : Int32) + ((6 : Int32) * v2)) + (5 : Int32)) fun v3 =>
      f_X8_sharesOut_32 a0 a1 a2 a3 v2 v3 h1
set_option maxRecDepth 20000 in
theorem c_X8_sharesOut {G : xG} (a0 : Nat) (ta0 : xTy a0 7) (a1 : Int32) (a2 : Int32) (a3 : Int32) (h : Mem) : Sm G 6 yX8_sharesOut FX8_sharesOut xcV [.ref (G.1 a0), .int a1, .int a2, .int a3] h (f_X8_sharesOut a0 a1 a2 a3 h) := by
  refine Sm.of pn_X8 rfl (Nat.le_of_ble_eq_true rfl) (ls := [(0, .ref (G.1 a0)), (1, .int a1), (2, .int a2), (3, .int a3)]) rfl ?_
  unfold f_X8_sharesOut
  refine r_aload_n (place := 0) dX8_sharesOut_0 rfl rfl ?_
  refine r_callVI (rest := []) dX8_sharesOut_1 m_X8_hadOf lk_X8_203 rfl (by decide) ta0 (c_X8_hadOf a0 ta0 h) (by decide) rfl rfl (Nat.le_of_ble_eq_true rfl) (fun v2 h1 => ?_)
  refine r_istore (ls' := [(4, .int v2), (0, .ref (G.1 a0)), (1, .int a1), (2, .int a2), (3, .int a3)]) dX8_sharesOut_4 (by decide) rfl ?_
  refine r_iload (place := 0) dX8_sharesOut_6 rfl ?_
  refine r_bipush dX8_sharesOut_8 xb_m4 ?_
  refine r_ic_ne (tgt := 17) dX8_sharesOut_10 (by decide) ?_ ?_
  · refine r_aload_n (place := 1) dX8_sharesOut_17 rfl rfl ?_
    refine r_getR dX8_sharesOut_18 fg_X8_7 ta0 ?_
    refine r_bipush dX8_sharesOut_21 xb_92 ?_
    refine r_bipush dX8_sharesOut_23 xb_6 ?_
    refine r_iload (place := 0) dX8_sharesOut_25 rfl ?_
    refine r_imul dX8_sharesOut_27 ?_
    refine r_iadd dX8_sharesOut_28 ?_
    refine r_iconst dX8_sharesOut_29 xc_5 ?_
    refine r_iadd dX8_sharesOut_30 ?_
    refine r_iald dX8_sharesOut_31 (xt_7_0 ta0) (fun v3 => ?_)
    exact r_sub [1, 2, 3, 4, 0] rfl (t_X8_sharesOut_32 a0 a1 a2 a3 v2 v3 ta0 h1)
  · refine r_iconst dX8_sharesOut_13 xc_5 ?_
    refine r_goto (tgt := 32) dX8_sharesOut_14 (by decide) ?_
    exact r_sub [1, 2, 3, 4, 0] rfl (t_X8_sharesOut_32 a0 a1 a2 a3 v2 (5 : Int32) ta0 h1)
def f_X8_forgets_80 (kk4 : Nat → Int32 → Int32 → Mem → Option (Unit × Mem)) (kk53 : Nat → Int32 → Int32 → Int32 → Int32 → Mem → Option (Unit × Mem)) (a0 : Nat) (a1 : Int32) (a2 : Int32) (a4 : Int32) (s0 : Int32) (h : Mem) : Option (Unit × Mem) :=
  kk53 a0 a1 a2 s0 (a4 + (1 : Int32)) h
set_option maxRecDepth 20000 in
theorem t_X8_forgets_80 {G : xG} (kk4 : Nat → Int32 → Int32 → Mem → Option (Unit × Mem)) (hk4 : ∀ (a0 : Nat) (a1 : Int32) (a2 : Int32) (ta0 : xTy a0 7) (h : Mem), Rn G 3 FX8_forgets xcV 4 [(0, .ref (G.1 a0)), (1, .int a1), (2, .int a2)] [] h (kk4 a0 a1 a2 h)) (kk53 : Nat → Int32 → Int32 → Int32 → Int32 → Mem → Option (Unit × Mem)) (hk53 : ∀ (a0 : Nat) (a1 : Int32) (a2 : Int32) (a3 : Int32) (a4 : Int32) (ta0 : xTy a0 7) (h : Mem), Rn G 3 FX8_forgets xcV 53 [(0, .ref (G.1 a0)), (1, .int a1), (2, .int a2), (3, .int a3), (4, .int a4)] [] h (kk53 a0 a1 a2 a3 a4 h)) (a0 : Nat) (a1 : Int32) (a2 : Int32) (a4 : Int32) (s0 : Int32) (ta0 : xTy a0 7) (h : Mem) : Rn G 3 FX8_forgets xcV 80 [(0, .ref (G.1 a0)), (1, .int a1), (2, .int a2), (4, .int a4)] [.int s0] h (f_X8_forgets_80 kk4 kk53 a0 a1 a2 a4 s0 h) := by
  unfold f_X8_forgets_80
  refine r_istore_n (ls' := [(3, .int s0), (0, .ref (G.1 a0)), (1, .int a1), (2, .int a2), (4, .int a4)]) dX8_forgets_80 rfl (by decide) rfl ?_
  refine r_iincC (place := 4) (ls' := [(4, .int (a4 + (1 : Int32))), (3, .int s0), (0, .ref (G.1 a0)), (1, .int a1), (2, .int a2)]) dX8_forgets_81 rfl xc_1 (by decide) rfl ?_
  refine r_goto (tgt := 53) dX8_forgets_84 (by decide) ?_
  exact r_sub [2, 3, 4, 1, 0] rfl (hk53 a0 a1 a2 s0 (a4 + (1 : Int32)) ta0 h)
def f_X8_forgets_75 (kk4 : Nat → Int32 → Int32 → Mem → Option (Unit × Mem)) (kk53 : Nat → Int32 → Int32 → Int32 → Int32 → Mem → Option (Unit × Mem)) (a0 : Nat) (a1 : Int32) (a2 : Int32) (a4 : Int32) (h : Mem) : Option (Unit × Mem) :=
  f_X8_forgets_80 kk4 kk53 a0 a1 a2 a4 (1 : Int32) h
set_option maxRecDepth 20000 in
theorem t_X8_forgets_75 {G : xG} (kk4 : Nat → Int32 → Int32 → Mem → Option (Unit × Mem)) (hk4 : ∀ (a0 : Nat) (a1 : Int32) (a2 : Int32) (ta0 : xTy a0 7) (h : Mem), Rn G 3 FX8_forgets xcV 4 [(0, .ref (G.1 a0)), (1, .int a1), (2, .int a2)] [] h (kk4 a0 a1 a2 h)) (kk53 : Nat → Int32 → Int32 → Int32 → Int32 → Mem → Option (Unit × Mem)) (hk53 : ∀ (a0 : Nat) (a1 : Int32) (a2 : Int32) (a3 : Int32) (a4 : Int32) (ta0 : xTy a0 7) (h : Mem), Rn G 3 FX8_forgets xcV 53 [(0, .ref (G.1 a0)), (1, .int a1), (2, .int a2), (3, .int a3), (4, .int a4)] [] h (kk53 a0 a1 a2 a3 a4 h)) (a0 : Nat) (a1 : Int32) (a2 : Int32) (a4 : Int32) (ta0 : xTy a0 7) (h : Mem) : Rn G 3 FX8_forgets xcV 75 [(0, .ref (G.1 a0)), (1, .int a1), (2, .int a2), (4, .int a4)] [] h (f_X8_forgets_75 kk4 kk53 a0 a1 a2 a4 h) := by
  unfold f_X8_forgets_75
  refine r_iconst dX8_forgets_75 xc_1 ?_
  refine r_goto (tgt := 80) dX8_forgets_76 (by decide) ?_
  exact r_sub [0, 1, 2, 3] rfl (t_X8_forgets_80 kk4 hk4 kk53 hk53 a0 a1 a2 a4 (1 : Int32) ta0 h)
def f_X8_forgets_140 (kk4 : Nat → Int32 → Int32 → Mem → Option (Unit × Mem)) (a0 : Nat) (a1 : Int32) (a2 : Int32) (h : Mem) : Option (Unit × Mem) :=
  kk4 a0 a1 (a2 + (1 : Int32)) h
set_option maxRecDepth 20000 in
theorem t_X8_forgets_140 {G : xG} (kk4 : Nat → Int32 → Int32 → Mem → Option (Unit × Mem)) (hk4 : ∀ (a0 : Nat) (a1 : Int32) (a2 : Int32) (ta0 : xTy a0 7) (h : Mem), Rn G 3 FX8_forgets xcV 4 [(0, .ref (G.1 a0)), (1, .int a1), (2, .int a2)] [] h (kk4 a0 a1 a2 h)) (a0 : Nat) (a1 : Int32) (a2 : Int32) (ta0 : xTy a0 7) (h : Mem) : Rn G 3 FX8_forgets xcV 140 [(0, .ref (G.1 a0)), (1, .int a1), (2, .int a2)] [] h (f_X8_forgets_140 kk4 a0 a1 a2 h) := by
  unfold f_X8_forgets_140
  refine r_iincC (place := 2) (ls' := [(2, .int (a2 + (1 : Int32))), (0, .ref (G.1 a0)), (1, .int a1)]) dX8_forgets_140 rfl xc_1 (by decide) rfl ?_
  refine r_goto (tgt := 4) dX8_forgets_143 (by decide) ?_
  exact r_sub [1, 2, 0] rfl (hk4 a0 a1 (a2 + (1 : Int32)) ta0 h)
def f_X8_forgets_94 (kk4 : Nat → Int32 → Int32 → Mem → Option (Unit × Mem)) : Nat → Nat → Int32 → Int32 → Int32 → Mem → Option (Unit × Mem)
  | 0, _, _, _, _, _ => none
  | n + 1, a0, a1, a2, a4, h =>
    if (6 : Int32) ≤ a4 then
        f_X8_forgets_140 kk4 a0 (a1 + (1 : Int32)) a2 h
    else
        ald h (xrf a0 0) (((92 : Int32) + ((6 : Int32) * a2)) + a4) fun v1 =>
        ast h (xrf a0 0) (((92 : Int32) + ((6 : Int32) * a1)) + a4) v1 fun h2 =>
        (f_X8_forgets_94 kk4 n) a0 a1 a2 (a4 + (1 : Int32)) h2
set_option maxRecDepth 20000 in
theorem t_X8_forgets_94 {G : xG} (kk4 : Nat → Int32 → Int32 → Mem → Option (Unit × Mem)) (hk4 : ∀ (a0 : Nat) (a1 : Int32) (a2 : Int32) (ta0 : xTy a0 7) (h : Mem), Rn G 3 FX8_forgets xcV 4 [(0, .ref (G.1 a0)), (1, .int a1), (2, .int a2)] [] h (kk4 a0 a1 a2 h)) : ∀ (n : Nat) (a0 : Nat) (a1 : Int32) (a2 : Int32) (a4 : Int32) (ta0 : xTy a0 7) (h : Mem), Rn G 3 FX8_forgets xcV 94 [(0, .ref (G.1 a0)), (1, .int a1), (2, .int a2), (4, .int a4)] [] h (f_X8_forgets_94 kk4 n a0 a1 a2 a4 h) := by
  intro n
  induction n with
  | zero => intros; intro r hr; cases hr
  | succ n ih =>
    intro a0 a1 a2 a4 ta0 h
    unfold f_X8_forgets_94
    refine r_iload (place := 3) dX8_forgets_94 rfl ?_
    refine r_bipush dX8_forgets_96 xb_6 ?_
    refine r_ic_ge (tgt := 137) dX8_forgets_98 (by decide) ?_ ?_
    · refine r_iincC (place := 1) (ls' := [(1, .int (a1 + (1 : Int32))), (0, .ref (G.1 a0)), (2, .int a2), (4, .int a4)]) dX8_forgets_137 rfl xc_1 (by decide) rfl ?_
      exact r_sub [1, 0, 2] rfl (t_X8_forgets_140 kk4 hk4 a0 (a1 + (1 : Int32)) a2 ta0 h)
    · refine r_aload_n (place := 0) dX8_forgets_101 rfl rfl ?_
      refine r_getR dX8_forgets_102 fg_X8_7 ta0 ?_
      refine r_bipush dX8_forgets_105 xb_92 ?_
      refine r_bipush dX8_forgets_107 xb_6 ?_
      refine r_iload_n (place := 1) dX8_forgets_109 rfl rfl ?_
      refine r_imul dX8_forgets_110 ?_
      refine r_iadd dX8_forgets_111 ?_
      refine r_iload (place := 3) dX8_forgets_112 rfl ?_
      refine r_iadd dX8_forgets_114 ?_
      refine r_aload_n (place := 0) dX8_forgets_115 rfl rfl ?_
      refine r_getR dX8_forgets_116 fg_X8_7 ta0 ?_
      refine r_bipush dX8_forgets_119 xb_92 ?_
      refine r_bipush dX8_forgets_121 xb_6 ?_
      refine r_iload_n (place := 2) dX8_forgets_123 rfl rfl ?_
      refine r_imul dX8_forgets_124 ?_
      refine r_iadd dX8_forgets_125 ?_
      refine r_iload (place := 3) dX8_forgets_126 rfl ?_
      refine r_iadd dX8_forgets_128 ?_
      refine r_iald dX8_forgets_129 (xt_7_0 ta0) (fun v1 => ?_)
      refine r_iast dX8_forgets_130 (xt_7_0 ta0) (fun h2 => ?_)
      refine r_iincC (place := 3) (ls' := [(4, .int (a4 + (1 : Int32))), (0, .ref (G.1 a0)), (1, .int a1), (2, .int a2)]) dX8_forgets_131 rfl xc_1 (by decide) rfl ?_
      refine r_goto (tgt := 94) dX8_forgets_134 (by decide) ?_
      exact r_sub [1, 2, 3, 0] rfl (ih a0 a1 a2 (a4 + (1 : Int32)) ta0 h2)
def f_X8_forgets_53 (kk4 : Nat → Int32 → Int32 → Mem → Option (Unit × Mem)) : Nat → Nat → Int32 → Int32 → Int32 → Int32 → Mem → Option (Unit × Mem)
  | 0, _, _, _, _, _, _ => none
  | n + 1, a0, a1, a2, a3, a4, h =>
    if (6 : Int32) ≤ a4 then
        if a3 = 0 then
            f_X8_forgets_140 kk4 a0 a1 a2 h
        else
            f_X8_forgets_94 kk4 xFU a0 a1 a2 (0 : Int32) h
    else
        if a3 = 0 then
            b2 (f_X8_memberOf a0 a4 h) fun v2 h1 =>
            if v2 = (-4 : Int32) then
                f_X8_forgets_80 kk4 (f_X8_forgets_53 kk4 n) a0 a1 a2 a4 (0 : Int32) h1
            else
                f_X8_forgets_75 kk4 (f_X8_forgets_53 kk4 n) a0 a1 a2 a4 h1
        else
            f_X8_forgets_75 kk4 (f_X8_forgets_53 kk4 n) a0 a1 a2 a4 h
set_option maxRecDepth 20000 in
theorem t_X8_forgets_53 {G : xG} (kk4 : Nat → Int32 → Int32 → Mem → Option (Unit × Mem)) (hk4 : ∀ (a0 : Nat) (a1 : Int32) (a2 : Int32) (ta0 : xTy a0 7) (h : Mem), Rn G 3 FX8_forgets xcV 4 [(0, .ref (G.1 a0)), (1, .int a1), (2, .int a2)] [] h (kk4 a0 a1 a2 h)) : ∀ (n : Nat) (a0 : Nat) (a1 : Int32) (a2 : Int32) (a3 : Int32) (a4 : Int32) (ta0 : xTy a0 7) (h : Mem), Rn G 3 FX8_forgets xcV 53 [(0, .ref (G.1 a0)), (1, .int a1), (2, .int a2), (3, .int a3), (4, .int a4)] [] h (f_X8_forgets_53 kk4 n a0 a1 a2 a3 a4 h) := by
  intro n
  induction n with
  | zero => intros; intro r hr; cases hr
  | succ n ih =>
    intro a0 a1 a2 a3 a4 ta0 h
    unfold f_X8_forgets_53
    refine r_iload (place := 4) dX8_forgets_53 rfl ?_
    refine r_bipush dX8_forgets_55 xb_6 ?_
    refine r_ic_ge (tgt := 87) dX8_forgets_57 (by decide) ?_ ?_
    · refine r_iload_n (place := 3) dX8_forgets_87 rfl rfl ?_
      refine r_if_eq (tgt := 140) dX8_forgets_88 (by decide) ?_ ?_
      · exact r_sub [0, 1, 2] rfl (t_X8_forgets_140 kk4 hk4 a0 a1 a2 ta0 h)
      · refine r_iconst dX8_forgets_91 xc_0 ?_
        refine r_istore (ls' := [(4, .int (0 : Int32)), (0, .ref (G.1 a0)), (1, .int a1), (2, .int a2), (3, .int a3)]) dX8_forgets_92 (by decide) rfl ?_
        exact r_sub [1, 2, 3, 0] rfl (t_X8_forgets_94 kk4 hk4 xFU a0 a1 a2 (0 : Int32) ta0 h)
    · refine r_iload_n (place := 3) dX8_forgets_60 rfl rfl ?_
      refine r_if_ne (tgt := 75) dX8_forgets_61 (by decide) ?_ ?_
      · exact r_sub [0, 1, 2, 4] rfl (t_X8_forgets_75 kk4 hk4 (f_X8_forgets_53 kk4 n) ih a0 a1 a2 a4 ta0 h)
      · refine r_aload_n (place := 0) dX8_forgets_64 rfl rfl ?_
        refine r_iload (place := 4) dX8_forgets_65 rfl ?_
        refine r_callVI (rest := []) dX8_forgets_67 m_X8_memberOf lk_X8_200 rfl (by decide) ta0 (c_X8_memberOf a0 ta0 a4 h) (by decide) rfl rfl (Nat.le_of_ble_eq_true rfl) (fun v2 h1 => ?_)
        refine r_bipush dX8_forgets_70 xb_m4 ?_
        refine r_ic_eq (tgt := 79) dX8_forgets_72 (by decide) ?_ ?_
        · refine r_iconst dX8_forgets_79 xc_0 ?_
          exact r_sub [0, 1, 2, 4] rfl (t_X8_forgets_80 kk4 hk4 (f_X8_forgets_53 kk4 n) ih a0 a1 a2 a4 (0 : Int32) ta0 h1)
        · exact r_sub [0, 1, 2, 4] rfl (t_X8_forgets_75 kk4 hk4 (f_X8_forgets_53 kk4 n) ih a0 a1 a2 a4 ta0 h1)
def f_X8_forgets_17 (kk4 : Nat → Int32 → Int32 → Mem → Option (Unit × Mem)) : Nat → Nat → Int32 → Int32 → Int32 → Mem → Option (Unit × Mem)
  | 0, _, _, _, _, _ => none
  | n + 1, a0, a1, a2, a3, h =>
    if (5 : Int32) ≤ a3 then
        f_X8_forgets_53 kk4 xFU a0 a1 a2 (0 : Int32) (0 : Int32) h
    else
        ald h (xrf a0 0) (((92 : Int32) + ((6 : Int32) * a2)) + a3) fun v1 =>
        ast h (xrf a0 16) a3 v1 fun h2 =>
        (f_X8_forgets_17 kk4 n) a0 a1 a2 (a3 + (1 : Int32)) h2
set_option maxRecDepth 20000 in
theorem t_X8_forgets_17 {G : xG} (kk4 : Nat → Int32 → Int32 → Mem → Option (Unit × Mem)) (hk4 : ∀ (a0 : Nat) (a1 : Int32) (a2 : Int32) (ta0 : xTy a0 7) (h : Mem), Rn G 3 FX8_forgets xcV 4 [(0, .ref (G.1 a0)), (1, .int a1), (2, .int a2)] [] h (kk4 a0 a1 a2 h)) : ∀ (n : Nat) (a0 : Nat) (a1 : Int32) (a2 : Int32) (a3 : Int32) (ta0 : xTy a0 7) (h : Mem), Rn G 3 FX8_forgets xcV 17 [(0, .ref (G.1 a0)), (1, .int a1), (2, .int a2), (3, .int a3)] [] h (f_X8_forgets_17 kk4 n a0 a1 a2 a3 h) := by
  intro n
  induction n with
  | zero => intros; intro r hr; cases hr
  | succ n ih =>
    intro a0 a1 a2 a3 ta0 h
    unfold f_X8_forgets_17
    refine r_iload_n (place := 3) dX8_forgets_17 rfl rfl ?_
    refine r_iconst dX8_forgets_18 xc_5 ?_
    refine r_ic_ge (tgt := 48) dX8_forgets_19 (by decide) ?_ ?_
    · refine r_iconst dX8_forgets_48 xc_0 ?_
      refine r_istore_n (ls' := [(3, .int (0 : Int32)), (0, .ref (G.1 a0)), (1, .int a1), (2, .int a2)]) dX8_forgets_49 rfl (by decide) rfl ?_
      refine r_iconst dX8_forgets_50 xc_0 ?_
      refine r_istore (ls' := [(4, .int (0 : Int32)), (3, .int (0 : Int32)), (0, .ref (G.1 a0)), (1, .int a1), (2, .int a2)]) dX8_forgets_51 (by decide) rfl ?_
      exact r_sub [2, 3, 4, 1, 0] rfl (t_X8_forgets_53 kk4 hk4 xFU a0 a1 a2 (0 : Int32) (0 : Int32) ta0 h)
    · refine r_aload_n (place := 0) dX8_forgets_22 rfl rfl ?_
      refine r_getR dX8_forgets_23 fg_X8_32 ta0 ?_
      refine r_iload_n (place := 3) dX8_forgets_26 rfl rfl ?_
      refine r_aload_n (place := 0) dX8_forgets_27 rfl rfl ?_
      refine r_getR dX8_forgets_28 fg_X8_7 ta0 ?_
      refine r_bipush dX8_forgets_31 xb_92 ?_
      refine r_bipush dX8_forgets_33 xb_6 ?_
      refine r_iload_n (place := 2) dX8_forgets_35 rfl rfl ?_
      refine r_imul dX8_forgets_36 ?_
      refine r_iadd dX8_forgets_37 ?_
      refine r_iload_n (place := 3) dX8_forgets_38 rfl rfl ?_
      refine r_iadd dX8_forgets_39 ?_
      refine r_iald dX8_forgets_40 (xt_7_0 ta0) (fun v1 => ?_)
      refine r_iast dX8_forgets_41 (xt_7_16 ta0) (fun h2 => ?_)
      refine r_iincC (place := 3) (ls' := [(3, .int (a3 + (1 : Int32))), (0, .ref (G.1 a0)), (1, .int a1), (2, .int a2)]) dX8_forgets_42 rfl xc_1 (by decide) rfl ?_
      refine r_goto (tgt := 17) dX8_forgets_45 (by decide) ?_
      exact r_sub [1, 2, 3, 0] rfl (ih a0 a1 a2 (a3 + (1 : Int32)) ta0 h2)
def f_X8_forgets_4  : Nat → Nat → Int32 → Int32 → Mem → Option (Unit × Mem)
  | 0, _, _, _, _ => none
  | n + 1, a0, a1, a2, h =>
    ald h (xrf a0 0) (7 : Int32) fun v1 =>
    if v1 ≤ a2 then
        ast h (xrf a0 0) (7 : Int32) a1 fun h2 =>
        some ((), h2)
    else
        f_X8_forgets_17 (f_X8_forgets_4 n) xFU a0 a1 a2 (0 : Int32) h
set_option maxRecDepth 20000 in
theorem t_X8_forgets_4 {G : xG}  : ∀ (n : Nat) (a0 : Nat) (a1 : Int32) (a2 : Int32) (ta0 : xTy a0 7) (h : Mem), Rn G 3 FX8_forgets xcV 4 [(0, .ref (G.1 a0)), (1, .int a1), (2, .int a2)] [] h (f_X8_forgets_4 n a0 a1 a2 h) := by
  intro n
  induction n with
  | zero => intros; intro r hr; cases hr
  | succ n ih =>
    intro a0 a1 a2 ta0 h
    unfold f_X8_forgets_4
    refine r_iload_n (place := 2) dX8_forgets_4 rfl rfl ?_
    refine r_aload_n (place := 0) dX8_forgets_5 rfl rfl ?_
    refine r_getR dX8_forgets_6 fg_X8_7 ta0 ?_
    refine r_bipush dX8_forgets_9 xb_7 ?_
    refine r_iald dX8_forgets_11 (xt_7_0 ta0) (fun v1 => ?_)
    refine r_ic_ge (tgt := 146) dX8_forgets_12 (by decide) ?_ ?_
    · refine r_aload_n (place := 0) dX8_forgets_146 rfl rfl ?_
      refine r_getR dX8_forgets_147 fg_X8_7 ta0 ?_
      refine r_bipush dX8_forgets_150 xb_7 ?_
      refine r_iload_n (place := 1) dX8_forgets_152 rfl rfl ?_
      refine r_iast dX8_forgets_153 (xt_7_0 ta0) (fun h2 => ?_)
      exact r_ret dX8_forgets_154 rfl
    · refine r_iconst dX8_forgets_15 xc_0 ?_
      refine r_istore_n (ls' := [(3, .int (0 : Int32)), (0, .ref (G.1 a0)), (1, .int a1), (2, .int a2)]) dX8_forgets_16 rfl (by decide) rfl ?_
      exact r_sub [1, 2, 3, 0] rfl (t_X8_forgets_17 (f_X8_forgets_4 n) ih xFU a0 a1 a2 (0 : Int32) ta0 h)
def f_X8_forgets (a0 : Nat) (h : Mem) : Option (Unit × Mem) :=
  f_X8_forgets_4 xFU a0 (0 : Int32) (0 : Int32) h
set_option maxRecDepth 20000 in
theorem c_X8_forgets {G : xG} (a0 : Nat) (ta0 : xTy a0 7) (h : Mem) : Sm G 3 yX8_forgets FX8_forgets xcV [.ref (G.1 a0)] h (f_X8_forgets a0 h) := by
  refine Sm.of pn_X8 rfl (Nat.le_of_ble_eq_true rfl) (ls := [(0, .ref (G.1 a0))]) rfl ?_
  unfold f_X8_forgets
  refine r_iconst dX8_forgets_0 xc_0 ?_
  refine r_istore_n (ls' := [(1, .int (0 : Int32)), (0, .ref (G.1 a0))]) dX8_forgets_1 rfl (by decide) rfl ?_
  refine r_iconst dX8_forgets_2 xc_0 ?_
  refine r_istore_n (ls' := [(2, .int (0 : Int32)), (1, .int (0 : Int32)), (0, .ref (G.1 a0))]) dX8_forgets_3 rfl (by decide) rfl ?_
  exact r_sub [2, 1, 0] rfl (t_X8_forgets_4 xFU a0 (0 : Int32) (0 : Int32) ta0 h)
def f_X8_isShareMatching_2  : Nat → Nat → Nat → Int32 → Mem → Option (Int32 × Mem)
  | 0, _, _, _, _ => none
  | n + 1, a0, a1, a2, h =>
    if (6 : Int32) ≤ a2 then
        some ((0 : Int32), h)
    else
        b2 (f_X8_memberOf a0 a2 h) fun v2 h1 =>
        if v2 = (-4 : Int32) then
            (f_X8_isShareMatching_2 n) a0 a1 (a2 + (1 : Int32)) h1
        else
            b2 (f_X8_at a2 ((45 : Int32) + ((6 : Int32) * v2)) h1) fun v4 h3 =>
            b2 (f_X8_isMatching a0 v4 a1 h3) fun v6 h5 =>
            zg v6 (some (v6, h5))
set_option maxRecDepth 20000 in
theorem t_X8_isShareMatching_2 {G : xG}  : ∀ (n : Nat) (a0 : Nat) (a1 : Nat) (a2 : Int32) (ta0 : xTy a0 7) (ta1 : xTy a1 8) (h : Mem), Rn G 3 FX8_isShareMatching xcI 2 [(0, .ref (G.1 a0)), (1, .ref (G.1 a1)), (2, .int a2)] [] h (f_X8_isShareMatching_2 n a0 a1 a2 h) := by
  intro n
  induction n with
  | zero => intros; intro r hr; cases hr
  | succ n ih =>
    intro a0 a1 a2 ta0 ta1 h
    unfold f_X8_isShareMatching_2
    refine r_iload_n (place := 2) dX8_isShareMatching_2 rfl rfl ?_
    refine r_bipush dX8_isShareMatching_3 xb_6 ?_
    refine r_ic_ge (tgt := 43) dX8_isShareMatching_5 (by decide) ?_ ?_
    · refine r_iconst dX8_isShareMatching_43 xc_0 ?_
      exact r_zret1 dX8_isShareMatching_44 rfl (by decide)
    · refine r_aload_n (place := 0) dX8_isShareMatching_8 rfl rfl ?_
      refine r_iload_n (place := 2) dX8_isShareMatching_9 rfl rfl ?_
      refine r_callVI (rest := []) dX8_isShareMatching_10 m_X8_memberOf lk_X8_200 rfl (by decide) ta0 (c_X8_memberOf a0 ta0 a2 h) (by decide) rfl rfl (Nat.le_of_ble_eq_true rfl) (fun v2 h1 => ?_)
      refine r_istore_n (ls' := [(3, .int v2), (0, .ref (G.1 a0)), (1, .ref (G.1 a1)), (2, .int a2)]) dX8_isShareMatching_13 rfl (by decide) rfl ?_
      refine r_iload_n (place := 0) dX8_isShareMatching_14 rfl rfl ?_
      refine r_bipush dX8_isShareMatching_15 xb_m4 ?_
      refine r_ic_eq (tgt := 37) dX8_isShareMatching_17 (by decide) ?_ ?_
      · refine r_iincC (place := 3) (ls' := [(2, .int (a2 + (1 : Int32))), (3, .int v2), (0, .ref (G.1 a0)), (1, .ref (G.1 a1))]) dX8_isShareMatching_37 rfl xc_1 (by decide) rfl ?_
        refine r_goto (tgt := 2) dX8_isShareMatching_40 (by decide) ?_
        exact r_sub [2, 3, 0] rfl (ih a0 a1 (a2 + (1 : Int32)) ta0 ta1 h1)
      · refine r_aload_n (place := 1) dX8_isShareMatching_20 rfl rfl ?_
        refine r_iload_n (place := 3) dX8_isShareMatching_21 rfl rfl ?_
        refine r_bipush dX8_isShareMatching_22 xb_45 ?_
        refine r_bipush dX8_isShareMatching_24 xb_6 ?_
        refine r_iload_n (place := 0) dX8_isShareMatching_26 rfl rfl ?_
        refine r_imul dX8_isShareMatching_27 ?_
        refine r_iadd dX8_isShareMatching_28 ?_
        refine r_callSI (rest := [.ref (G.1 a0)]) dX8_isShareMatching_29 m_X8_at lk_X8_115 (c_X8_at a2 ((45 : Int32) + ((6 : Int32) * v2)) h1) (by decide) rfl rfl (Nat.le_of_ble_eq_true rfl) (fun v4 h3 => ?_)
        refine r_aload_n (place := 2) dX8_isShareMatching_32 rfl rfl ?_
        refine r_callVI (rest := []) dX8_isShareMatching_33 m_X8_isMatching lk_X8_184 rfl (by decide) ta0 (c_X8_isMatching a0 ta0 v4 a1 ta1 h3) (by decide) rfl rfl (Nat.le_of_ble_eq_true rfl) (fun v6 h5 => ?_)
        exact r_zret dX8_isShareMatching_36 rfl
def f_X8_isShareMatching (a0 : Nat) (a1 : Nat) (h : Mem) : Option (Int32 × Mem) :=
  f_X8_isShareMatching_2 xFU a0 a1 (0 : Int32) h
set_option maxRecDepth 20000 in
theorem c_X8_isShareMatching {G : xG} (a0 : Nat) (ta0 : xTy a0 7) (a1 : Nat) (ta1 : xTy a1 8) (h : Mem) : Sm G 3 yX8_isShareMatching FX8_isShareMatching xcI [.ref (G.1 a0), .ref (G.1 a1)] h (f_X8_isShareMatching a0 a1 h) := by
  refine Sm.of pn_X8 rfl (Nat.le_of_ble_eq_true rfl) (ls := [(0, .ref (G.1 a0)), (1, .ref (G.1 a1))]) rfl ?_
  unfold f_X8_isShareMatching
  refine r_iconst dX8_isShareMatching_0 xc_0 ?_
  refine r_istore_n (ls' := [(2, .int (0 : Int32)), (0, .ref (G.1 a0)), (1, .ref (G.1 a1))]) dX8_isShareMatching_1 rfl (by decide) rfl ?_
  exact r_sub [1, 2, 0] rfl (t_X8_isShareMatching_2 xFU a0 a1 (0 : Int32) ta0 ta1 h)
def f_X8_says_130 (kk73 : Nat → Int32 → Int32 → Int32 → Int32 → Int32 → Mem → Option (Int32 × Mem)) (a0 : Nat) (a2 : Int32) (a3 : Int32) (a5 : Int32) (a6 : Int32) (a7 : Int32) (h : Mem) : Option (Int32 × Mem) :=
  kk73 a0 a2 a3 a5 a6 (a7 + (1 : Int32)) h
set_option maxRecDepth 20000 in
theorem t_X8_says_130 {G : xG} (kk73 : Nat → Int32 → Int32 → Int32 → Int32 → Int32 → Mem → Option (Int32 × Mem)) (hk73 : ∀ (a0 : Nat) (a2 : Int32) (a3 : Int32) (a5 : Int32) (a6 : Int32) (a7 : Int32) (ta0 : xTy a0 7) (h : Mem), Rn G 7 FX8_says xcI 73 [(0, .ref (G.1 a0)), (2, .int a2), (3, .int a3), (5, .int a5), (6, .int a6), (7, .int a7)] [] h (kk73 a0 a2 a3 a5 a6 a7 h)) (a0 : Nat) (a2 : Int32) (a3 : Int32) (a5 : Int32) (a6 : Int32) (a7 : Int32) (ta0 : xTy a0 7) (h : Mem) : Rn G 7 FX8_says xcI 130 [(0, .ref (G.1 a0)), (2, .int a2), (3, .int a3), (5, .int a5), (6, .int a6), (7, .int a7)] [] h (f_X8_says_130 kk73 a0 a2 a3 a5 a6 a7 h) := by
  unfold f_X8_says_130
  refine r_iincC (place := 5) (ls' := [(7, .int (a7 + (1 : Int32))), (0, .ref (G.1 a0)), (2, .int a2), (3, .int a3), (5, .int a5), (6, .int a6)]) dX8_says_130 rfl xc_1 (by decide) rfl ?_
  refine r_goto (tgt := 73) dX8_says_133 (by decide) ?_
  exact r_sub [1, 2, 3, 4, 5, 0] rfl (hk73 a0 a2 a3 a5 a6 (a7 + (1 : Int32)) ta0 h)
def f_X8_says_105 (kk73 : Nat → Int32 → Int32 → Int32 → Int32 → Int32 → Mem → Option (Int32 × Mem)) (a0 : Nat) (a2 : Int32) (a3 : Int32) (a5 : Int32) (a6 : Int32) (a7 : Int32) (s0 : Int32) (h : Mem) : Option (Int32 × Mem) :=
  if s0 = (-4 : Int32) then
      f_X8_says_130 kk73 a0 a2 a3 a5 a6 a7 h
  else
      b2 (f_X8_lesser a3 s0 h) fun v2 h1 =>
      b2 (f_X8_goes a0 a7 a5 v2 a2 (0 : Int32) h1) fun _ h3 =>
      f_X8_says_130 kk73 a0 a2 a3 a5 a6 a7 h3
set_option maxRecDepth 20000 in
theorem t_X8_says_105 {G : xG} (kk73 : Nat → Int32 → Int32 → Int32 → Int32 → Int32 → Mem → Option (Int32 × Mem)) (hk73 : ∀ (a0 : Nat) (a2 : Int32) (a3 : Int32) (a5 : Int32) (a6 : Int32) (a7 : Int32) (ta0 : xTy a0 7) (h : Mem), Rn G 7 FX8_says xcI 73 [(0, .ref (G.1 a0)), (2, .int a2), (3, .int a3), (5, .int a5), (6, .int a6), (7, .int a7)] [] h (kk73 a0 a2 a3 a5 a6 a7 h)) (a0 : Nat) (a2 : Int32) (a3 : Int32) (a5 : Int32) (a6 : Int32) (a7 : Int32) (s0 : Int32) (ta0 : xTy a0 7) (h : Mem) : Rn G 7 FX8_says xcI 105 [(0, .ref (G.1 a0)), (2, .int a2), (3, .int a3), (5, .int a5), (6, .int a6), (7, .int a7)] [.int s0] h (f_X8_says_105 kk73 a0 a2 a3 a5 a6 a7 s0 h) := by
  unfold f_X8_says_105
  refine r_istore (ls' := [(8, .int s0), (0, .ref (G.1 a0)), (2, .int a2), (3, .int a3), (5, .int a5), (6, .int a6), (7, .int a7)]) dX8_says_105 (by decide) rfl ?_
  refine r_iload (place := 0) dX8_says_107 rfl ?_
  refine r_bipush dX8_says_109 xb_m4 ?_
  refine r_ic_eq (tgt := 130) dX8_says_111 (by decide) ?_ ?_
  · exact r_sub [1, 2, 3, 4, 5, 6] rfl (t_X8_says_130 kk73 hk73 a0 a2 a3 a5 a6 a7 ta0 h)
  · refine r_aload_n (place := 1) dX8_says_114 rfl rfl ?_
    refine r_iload (place := 6) dX8_says_115 rfl ?_
    refine r_iload (place := 4) dX8_says_117 rfl ?_
    refine r_iload_n (place := 3) dX8_says_119 rfl rfl ?_
    refine r_iload (place := 0) dX8_says_120 rfl ?_
    refine r_callSI (rest := [.int a5, .int a7, .ref (G.1 a0)]) dX8_says_122 m_X8_lesser lk_X8_210 (c_X8_lesser a3 s0 h) (by decide) rfl rfl (Nat.le_of_ble_eq_true rfl) (fun v2 h1 => ?_)
    refine r_iload_n (place := 2) dX8_says_125 rfl rfl ?_
    refine r_iconst dX8_says_126 xc_0 ?_
    refine r_callVV (rest := []) dX8_says_127 m_X8_goes lk_X8_213 rfl (by decide) ta0 (c_X8_goes a0 ta0 a7 a5 v2 a2 (0 : Int32) h1) (by decide) rfl rfl (Nat.le_of_ble_eq_true rfl) (fun h3 => ?_)
    exact r_sub [1, 2, 3, 4, 5, 6] rfl (t_X8_says_130 kk73 hk73 a0 a2 a3 a5 a6 a7 ta0 h3)
def f_X8_says_140  : Nat → Nat → Int32 → Int32 → Int32 → Int32 → Mem → Option (Int32 × Mem)
  | 0, _, _, _, _, _, _ => none
  | n + 1, a0, a2, a3, a5, a6, h =>
    b2 (f_X8_nextShare a0 h) fun v2 h1 =>
    if v2 = 0 then
        ald h1 (xrf a0 0) (2 : Int32) fun v3 =>
        some ((v3 - a6), h1)
    else
        b2 (f_X8_isShareMatching a0 (xrf a0 20) h1) fun v5 h4 =>
        if v5 = 0 then
            (f_X8_says_140 n) a0 a2 a3 a5 a6 h4
        else
            b2 (f_X8_sharesOut a0 a5 a3 a2 h4) fun _ h6 =>
            (f_X8_says_140 n) a0 a2 a3 a5 a6 h6
set_option maxRecDepth 20000 in
theorem t_X8_says_140 {G : xG}  : ∀ (n : Nat) (a0 : Nat) (a2 : Int32) (a3 : Int32) (a5 : Int32) (a6 : Int32) (ta0 : xTy a0 7) (h : Mem), Rn G 7 FX8_says xcI 140 [(0, .ref (G.1 a0)), (2, .int a2), (3, .int a3), (5, .int a5), (6, .int a6)] [] h (f_X8_says_140 n a0 a2 a3 a5 a6 h) := by
  intro n
  induction n with
  | zero => intros; intro r hr; cases hr
  | succ n ih =>
    intro a0 a2 a3 a5 a6 ta0 h
    unfold f_X8_says_140
    refine r_aload_n (place := 0) dX8_says_140 rfl rfl ?_
    refine r_callVI (rest := []) dX8_says_141 m_X8_nextShare lk_X8_227 rfl (by decide) ta0 (c_X8_nextShare a0 ta0 h) (by decide) rfl rfl (Nat.le_of_ble_eq_true rfl) (fun v2 h1 => ?_)
    refine r_if_eq (tgt := 169) dX8_says_144 (by decide) ?_ ?_
    · refine r_aload_n (place := 0) dX8_says_169 rfl rfl ?_
      refine r_getR dX8_says_170 fg_X8_7 ta0 ?_
      refine r_iconst dX8_says_173 xc_2 ?_
      refine r_iald dX8_says_174 (xt_7_0 ta0) (fun v3 => ?_)
      refine r_iload (place := 4) dX8_says_175 rfl ?_
      refine r_isub dX8_says_177 ?_
      exact r_iret dX8_says_178 rfl
    · refine r_aload_n (place := 0) dX8_says_147 rfl rfl ?_
      refine r_aload_n (place := 0) dX8_says_148 rfl rfl ?_
      refine r_getR dX8_says_149 fg_X8_44 ta0 ?_
      refine r_callVI (rest := []) dX8_says_152 m_X8_isShareMatching lk_X8_230 rfl (by decide) ta0 (c_X8_isShareMatching a0 ta0 (xrf a0 20) (xt_7_20 ta0) h1) (by decide) rfl rfl (Nat.le_of_ble_eq_true rfl) (fun v5 h4 => ?_)
      refine r_if_eq (tgt := 140) dX8_says_155 (by decide) ?_ ?_
      · exact r_sub [0, 1, 2, 3, 4] rfl (ih a0 a2 a3 a5 a6 ta0 h4)
      · refine r_aload_n (place := 0) dX8_says_158 rfl rfl ?_
        refine r_iload (place := 3) dX8_says_159 rfl ?_
        refine r_iload_n (place := 2) dX8_says_161 rfl rfl ?_
        refine r_iload_n (place := 1) dX8_says_162 rfl rfl ?_
        refine r_callVV (rest := []) dX8_says_163 m_X8_sharesOut lk_X8_234 rfl (by decide) ta0 (c_X8_sharesOut a0 ta0 a5 a3 a2 h4) (by decide) rfl rfl (Nat.le_of_ble_eq_true rfl) (fun h6 => ?_)
        refine r_goto (tgt := 140) dX8_says_166 (by decide) ?_
        exact r_sub [0, 1, 2, 3, 4] rfl (ih a0 a2 a3 a5 a6 ta0 h6)
def f_X8_says_73  : Nat → Nat → Int32 → Int32 → Int32 → Int32 → Int32 → Mem → Option (Int32 × Mem)
  | 0, _, _, _, _, _, _, _ => none
  | n + 1, a0, a2, a3, a5, a6, a7, h =>
    if (6 : Int32) ≤ a7 then
        b2 (f_X8_noShare a0 h) fun _ h1 =>
        f_X8_says_140 xFU a0 a2 a3 a5 a6 h1
    else
        b2 (f_X8_of a0 a7 (0 : Int32) h) fun v3 h2 =>
        if v3 = 0 then
            f_X8_says_105 (f_X8_says_73 n) a0 a2 a3 a5 a6 a7 (-4 : Int32) h2
        else
            b2 (f_X8_widest a0 a7 (xrf a0 20) h2) fun v5 h4 =>
            f_X8_says_105 (f_X8_says_73 n) a0 a2 a3 a5 a6 a7 v5 h4
set_option maxRecDepth 20000 in
theorem t_X8_says_73 {G : xG}  : ∀ (n : Nat) (a0 : Nat) (a2 : Int32) (a3 : Int32) (a5 : Int32) (a6 : Int32) (a7 : Int32) (ta0 : xTy a0 7) (h : Mem), Rn G 7 FX8_says xcI 73 [(0, .ref (G.1 a0)), (2, .int a2), (3, .int a3), (5, .int a5), (6, .int a6), (7, .int a7)] [] h (f_X8_says_73 n a0 a2 a3 a5 a6 a7 h) := by
  intro n
  induction n with
  | zero => intros; intro r hr; cases hr
  | succ n ih =>
    intro a0 a2 a3 a5 a6 a7 ta0 h
    unfold f_X8_says_73
    refine r_iload (place := 5) dX8_says_73 rfl ?_
    refine r_bipush dX8_says_75 xb_6 ?_
    refine r_ic_ge (tgt := 136) dX8_says_77 (by decide) ?_ ?_
    · refine r_aload_n (place := 0) dX8_says_136 rfl rfl ?_
      refine r_callVV (rest := []) dX8_says_137 m_X8_noShare lk_X8_224 rfl (by decide) ta0 (c_X8_noShare a0 ta0 h) (by decide) rfl rfl (Nat.le_of_ble_eq_true rfl) (fun h1 => ?_)
      exact r_sub [0, 1, 2, 3, 4] rfl (t_X8_says_140 xFU a0 a2 a3 a5 a6 ta0 h1)
    · refine r_aload_n (place := 0) dX8_says_80 rfl rfl ?_
      refine r_iload (place := 5) dX8_says_81 rfl ?_
      refine r_iconst dX8_says_83 xc_0 ?_
      refine r_callVI (rest := []) dX8_says_84 m_X8_of lk_X8_166 rfl (by decide) ta0 (c_X8_of a0 ta0 a7 (0 : Int32) h) (by decide) rfl rfl (Nat.le_of_ble_eq_true rfl) (fun v3 h2 => ?_)
      refine r_if_ne (tgt := 95) dX8_says_87 (by decide) ?_ ?_
      · refine r_aload_n (place := 0) dX8_says_95 rfl rfl ?_
        refine r_iload (place := 5) dX8_says_96 rfl ?_
        refine r_aload_n (place := 0) dX8_says_98 rfl rfl ?_
        refine r_getR dX8_says_99 fg_X8_44 ta0 ?_
        refine r_callVI (rest := []) dX8_says_102 m_X8_widest lk_X8_220 rfl (by decide) ta0 (c_X8_widest a0 ta0 a7 (xrf a0 20) (xt_7_20 ta0) h2) (by decide) rfl rfl (Nat.le_of_ble_eq_true rfl) (fun v5 h4 => ?_)
        exact r_sub [0, 1, 2, 3, 4, 5] rfl (t_X8_says_105 (f_X8_says_73 n) ih a0 a2 a3 a5 a6 a7 v5 ta0 h4)
      · refine r_bipush dX8_says_90 xb_m4 ?_
        refine r_goto (tgt := 105) dX8_says_92 (by decide) ?_
        exact r_sub [0, 1, 2, 3, 4, 5] rfl (t_X8_says_105 (f_X8_says_73 n) ih a0 a2 a3 a5 a6 a7 (-4 : Int32) ta0 h2)
def f_X8_says_70  (a0 : Nat) (a2 : Int32) (a3 : Int32) (a5 : Int32) (a6 : Int32) (h : Mem) : Option (Int32 × Mem) :=
  f_X8_says_73 xFU a0 a2 a3 a5 a6 (0 : Int32) h
set_option maxRecDepth 20000 in
theorem t_X8_says_70 {G : xG}  (a0 : Nat) (a2 : Int32) (a3 : Int32) (a5 : Int32) (a6 : Int32) (ta0 : xTy a0 7) (h : Mem) : Rn G 7 FX8_says xcI 70 [(0, .ref (G.1 a0)), (2, .int a2), (3, .int a3), (5, .int a5), (6, .int a6)] [] h (f_X8_says_70 a0 a2 a3 a5 a6 h) := by
  unfold f_X8_says_70
  refine r_iconst dX8_says_70 xc_0 ?_
  refine r_istore (ls' := [(7, .int (0 : Int32)), (0, .ref (G.1 a0)), (2, .int a2), (3, .int a3), (5, .int a5), (6, .int a6)]) dX8_says_71 (by decide) rfl ?_
  exact r_sub [1, 2, 3, 4, 5, 0] rfl (t_X8_says_73 xFU a0 a2 a3 a5 a6 (0 : Int32) ta0 h)
def f_X8_says_29  : Nat → Nat → Nat → Int32 → Int32 → Int32 → Int32 → Int32 → Int32 → Mem → Option (Int32 × Mem)
  | 0, _, _, _, _, _, _, _, _, _ => none
  | n + 1, a0, a1, a2, a3, a4, a5, a6, a7, h =>
    if (4 : Int32) ≤ a7 then
        if a4 = (1 : Int32) then
            b2 (f_X8_keeps a0 (xrf a0 20) a2 a3 a5 h) fun _ h1 =>
            f_X8_says_70 a0 a2 a3 a5 a6 h1
        else
            f_X8_says_70 a0 a2 a3 a5 a6 h
    else
        ald h a1 a7 fun v2 =>
        ast h (xrf a0 20) a7 v2 fun h3 =>
        (f_X8_says_29 n) a0 a1 a2 a3 a4 a5 a6 (a7 + (1 : Int32)) h3
set_option maxRecDepth 20000 in
theorem t_X8_says_29 {G : xG}  : ∀ (n : Nat) (a0 : Nat) (a1 : Nat) (a2 : Int32) (a3 : Int32) (a4 : Int32) (a5 : Int32) (a6 : Int32) (a7 : Int32) (ta0 : xTy a0 7) (ta1 : xTy a1 8) (h : Mem), Rn G 7 FX8_says xcI 29 [(0, .ref (G.1 a0)), (1, .ref (G.1 a1)), (2, .int a2), (3, .int a3), (4, .int a4), (5, .int a5), (6, .int a6), (7, .int a7)] [] h (f_X8_says_29 n a0 a1 a2 a3 a4 a5 a6 a7 h) := by
  intro n
  induction n with
  | zero => intros; intro r hr; cases hr
  | succ n ih =>
    intro a0 a1 a2 a3 a4 a5 a6 a7 ta0 ta1 h
    unfold f_X8_says_29
    refine r_iload (place := 7) dX8_says_29 rfl ?_
    refine r_iconst dX8_says_31 xc_4 ?_
    refine r_ic_ge (tgt := 52) dX8_says_32 (by decide) ?_ ?_
    · refine r_iload (place := 4) dX8_says_52 rfl ?_
      refine r_iconst dX8_says_54 xc_1 ?_
      refine r_ic_ne (tgt := 70) dX8_says_55 (by decide) ?_ ?_
      · exact r_sub [0, 2, 3, 5, 6] rfl (t_X8_says_70 a0 a2 a3 a5 a6 ta0 h)
      · refine r_aload_n (place := 0) dX8_says_58 rfl rfl ?_
        refine r_aload_n (place := 0) dX8_says_59 rfl rfl ?_
        refine r_getR dX8_says_60 fg_X8_44 ta0 ?_
        refine r_iload_n (place := 2) dX8_says_63 rfl rfl ?_
        refine r_iload_n (place := 3) dX8_says_64 rfl rfl ?_
        refine r_iload (place := 5) dX8_says_65 rfl ?_
        refine r_callVV (rest := []) dX8_says_67 m_X8_keeps lk_X8_216 rfl (by decide) ta0 (c_X8_keeps a0 ta0 (xrf a0 20) (xt_7_20 ta0) a2 a3 a5 h) (by decide) rfl rfl (Nat.le_of_ble_eq_true rfl) (fun h1 => ?_)
        exact r_sub [0, 2, 3, 5, 6] rfl (t_X8_says_70 a0 a2 a3 a5 a6 ta0 h1)
    · refine r_aload_n (place := 0) dX8_says_35 rfl rfl ?_
      refine r_getR dX8_says_36 fg_X8_44 ta0 ?_
      refine r_iload (place := 7) dX8_says_39 rfl ?_
      refine r_aload_n (place := 1) dX8_says_41 rfl rfl ?_
      refine r_iload (place := 7) dX8_says_42 rfl ?_
      refine r_iald dX8_says_44 ta1 (fun v2 => ?_)
      refine r_iast dX8_says_45 (xt_7_20 ta0) (fun h3 => ?_)
      refine r_iincC (place := 7) (ls' := [(7, .int (a7 + (1 : Int32))), (0, .ref (G.1 a0)), (1, .ref (G.1 a1)), (2, .int a2), (3, .int a3), (4, .int a4), (5, .int a5), (6, .int a6)]) dX8_says_46 rfl xc_1 (by decide) rfl ?_
      refine r_goto (tgt := 29) dX8_says_49 (by decide) ?_
      exact r_sub [1, 2, 3, 4, 5, 6, 7, 0] rfl (ih a0 a1 a2 a3 a4 a5 a6 (a7 + (1 : Int32)) ta0 ta1 h3)
def f_X8_says (a0 : Nat) (a1 : Nat) (a2 : Int32) (a3 : Int32) (a4 : Int32) (h : Mem) : Option (Int32 × Mem) :=
  ald h (xrf a0 0) (1 : Int32) fun v1 =>
  ald h (xrf a0 0) (2 : Int32) fun v2 =>
  ald h (xrf a0 0) (1 : Int32) fun v3 =>
  ast h (xrf a0 0) (1 : Int32) (v3 + (1 : Int32)) fun h4 =>
  f_X8_says_29 xFU a0 a1 a2 a3 a4 v1 v2 (0 : Int32) h4
set_option maxRecDepth 20000 in
theorem c_X8_says {G : xG} (a0 : Nat) (ta0 : xTy a0 7) (a1 : Nat) (ta1 : xTy a1 8) (a2 : Int32) (a3 : Int32) (a4 : Int32) (h : Mem) : Sm G 7 yX8_says FX8_says xcI [.ref (G.1 a0), .ref (G.1 a1), .int a2, .int a3, .int a4] h (f_X8_says a0 a1 a2 a3 a4 h) := by
  refine Sm.of pn_X8 rfl (Nat.le_of_ble_eq_true rfl) (ls := [(0, .ref (G.1 a0)), (1, .ref (G.1 a1)), (2, .int a2), (3, .int a3), (4, .int a4)]) rfl ?_
  unfold f_X8_says
  refine r_aload_n (place := 0) dX8_says_0 rfl rfl ?_
  refine r_getR dX8_says_1 fg_X8_7 ta0 ?_
  refine r_iconst dX8_says_4 xc_1 ?_
  refine r_iald dX8_says_5 (xt_7_0 ta0) (fun v1 => ?_)
  refine r_istore (ls' := [(5, .int v1), (0, .ref (G.1 a0)), (1, .ref (G.1 a1)), (2, .int a2), (3, .int a3), (4, .int a4)]) dX8_says_6 (by decide) rfl ?_
  refine r_aload_n (place := 1) dX8_says_8 rfl rfl ?_
  refine r_getR dX8_says_9 fg_X8_7 ta0 ?_
  refine r_iconst dX8_says_12 xc_2 ?_
  refine r_iald dX8_says_13 (xt_7_0 ta0) (fun v2 => ?_)
  refine r_istore (ls' := [(6, .int v2), (5, .int v1), (0, .ref (G.1 a0)), (1, .ref (G.1 a1)), (2, .int a2), (3, .int a3), (4, .int a4)]) dX8_says_14 (by decide) rfl ?_
  refine r_aload_n (place := 2) dX8_says_16 rfl rfl ?_
  refine r_getR dX8_says_17 fg_X8_7 ta0 ?_
  refine r_iconst dX8_says_20 xc_1 ?_
  refine r_dup2 dX8_says_21 rfl rfl ?_
  refine r_iald dX8_says_22 (xt_7_0 ta0) (fun v3 => ?_)
  refine r_iconst dX8_says_23 xc_1 ?_
  refine r_iadd dX8_says_24 ?_
  refine r_iast dX8_says_25 (xt_7_0 ta0) (fun h4 => ?_)
  refine r_iconst dX8_says_26 xc_0 ?_
  refine r_istore (ls' := [(7, .int (0 : Int32)), (6, .int v2), (5, .int v1), (0, .ref (G.1 a0)), (1, .ref (G.1 a1)), (2, .int a2), (3, .int a3), (4, .int a4)]) dX8_says_27 (by decide) rfl ?_
  exact r_sub [3, 4, 5, 6, 7, 2, 1, 0] rfl (t_X8_says_29 xFU a0 a1 a2 a3 a4 v1 v2 (0 : Int32) ta0 ta1 h4)
def f_X8_isClient (a0 : Int32) (h : Mem) : Option (Int32 × Mem) :=
  b2 (f_X8_in a0.toInt64 (0 : Int64) (5 : Int64) h) fun v2 h1 =>
  zg v2 (some (v2, h1))
set_option maxRecDepth 20000 in
theorem c_X8_isClient {G : xG} (a0 : Int32) (h : Mem) : Sm G 1 yX8_isClient FX8_isClient xcI [.int a0] h (f_X8_isClient a0 h) := by
  refine Sm.of pn_X8 rfl (Nat.le_of_ble_eq_true rfl) (ls := [(0, .int a0)]) rfl ?_
  unfold f_X8_isClient
  refine r_iload_n (place := 0) dX8_isClient_0 rfl rfl ?_
  refine r_i2l dX8_isClient_1 ?_
  refine r_lconst dX8_isClient_2 xl_0 ?_
  refine r_ldc2 dX8_isClient_3 ll_X8_238 ?_
  refine r_callSI (rest := []) dX8_isClient_6 m_X8_in lk_X8_59 (c_X8_in a0.toInt64 (0 : Int64) (5 : Int64) h) (by decide) rfl rfl (Nat.le_of_ble_eq_true rfl) (fun v2 h1 => ?_)
  exact r_zret dX8_isClient_9 rfl
def f_X8_isNew_84 (kk2 : Nat → Int32 → Int32 → Int32 → Mem → Option (Unit × Mem)) (a0 : Nat) (a1 : Int32) (a2 : Int32) (a3 : Int32) (s0 : Nat) (s1 : Int32) (s2 : Int32) (h : Mem) : Option (Unit × Mem) :=
  ast h s0 s1 s2 fun h1 =>
  kk2 a0 a1 a2 (a3 + (1 : Int32)) h1
set_option maxRecDepth 20000 in
theorem t_X8_isNew_84 {G : xG} (kk2 : Nat → Int32 → Int32 → Int32 → Mem → Option (Unit × Mem)) (hk2 : ∀ (a0 : Nat) (a1 : Int32) (a2 : Int32) (a3 : Int32) (ta0 : xTy a0 7) (h : Mem), Rn G 4 FX8_isNew xcV 2 [(0, .ref (G.1 a0)), (1, .int a1), (2, .int a2), (3, .int a3)] [] h (kk2 a0 a1 a2 a3 h)) (a0 : Nat) (a1 : Int32) (a2 : Int32) (a3 : Int32) (s0 : Nat) (s1 : Int32) (s2 : Int32) (ta0 : xTy a0 7) (ts0 : xTy s0 8) (h : Mem) : Rn G 4 FX8_isNew xcV 84 [(0, .ref (G.1 a0)), (1, .int a1), (2, .int a2), (3, .int a3)] [.int s2, .int s1, .ref (G.1 s0)] h (f_X8_isNew_84 kk2 a0 a1 a2 a3 s0 s1 s2 h) := by
  unfold f_X8_isNew_84
  refine r_iast dX8_isNew_84 ts0 (fun h1 => ?_)
  refine r_iincC (place := 3) (ls' := [(3, .int (a3 + (1 : Int32))), (0, .ref (G.1 a0)), (1, .int a1), (2, .int a2)]) dX8_isNew_85 rfl xc_1 (by decide) rfl ?_
  refine r_goto (tgt := 2) dX8_isNew_88 (by decide) ?_
  exact r_sub [1, 2, 3, 0] rfl (hk2 a0 a1 a2 (a3 + (1 : Int32)) ta0 h1)
def f_X8_isNew_54 (kk2 : Nat → Int32 → Int32 → Int32 → Mem → Option (Unit × Mem)) (a0 : Nat) (a1 : Int32) (a2 : Int32) (a3 : Int32) (s0 : Int32) (h : Mem) : Option (Unit × Mem) :=
  b2 (f_X8_at a1 a3 h) fun v2 h1 =>
  if s0 = 0 then
      f_X8_isNew_84 kk2 a0 a1 a2 a3 (xrf a0 0) v2 (0 : Int32) h1
  else
      b2 (f_X8_at a1 a3 h1) fun v4 h3 =>
      ald h3 (xrf a0 0) v4 fun v5 =>
      f_X8_isNew_84 kk2 a0 a1 a2 a3 (xrf a0 0) v2 v5 h3
set_option maxRecDepth 20000 in
theorem t_X8_isNew_54 {G : xG} (kk2 : Nat → Int32 → Int32 → Int32 → Mem → Option (Unit × Mem)) (hk2 : ∀ (a0 : Nat) (a1 : Int32) (a2 : Int32) (a3 : Int32) (ta0 : xTy a0 7) (h : Mem), Rn G 4 FX8_isNew xcV 2 [(0, .ref (G.1 a0)), (1, .int a1), (2, .int a2), (3, .int a3)] [] h (kk2 a0 a1 a2 a3 h)) (a0 : Nat) (a1 : Int32) (a2 : Int32) (a3 : Int32) (s0 : Int32) (ta0 : xTy a0 7) (h : Mem) : Rn G 4 FX8_isNew xcV 54 [(0, .ref (G.1 a0)), (1, .int a1), (2, .int a2), (3, .int a3)] [.int s0] h (f_X8_isNew_54 kk2 a0 a1 a2 a3 s0 h) := by
  unfold f_X8_isNew_54
  refine r_istore (ls' := [(4, .int s0), (0, .ref (G.1 a0)), (1, .int a1), (2, .int a2), (3, .int a3)]) dX8_isNew_54 (by decide) rfl ?_
  refine r_aload_n (place := 1) dX8_isNew_56 rfl rfl ?_
  refine r_getR dX8_isNew_57 fg_X8_7 ta0 ?_
  refine r_iload_n (place := 2) dX8_isNew_60 rfl rfl ?_
  refine r_iload_n (place := 4) dX8_isNew_61 rfl rfl ?_
  refine r_callSI (rest := [.ref (G.1 (xrf a0 0))]) dX8_isNew_62 m_X8_at lk_X8_115 (c_X8_at a1 a3 h) (by decide) rfl rfl (Nat.le_of_ble_eq_true rfl) (fun v2 h1 => ?_)
  refine r_iload (place := 0) dX8_isNew_65 rfl ?_
  refine r_if_eq (tgt := 83) dX8_isNew_67 (by decide) ?_ ?_
  · refine r_iconst dX8_isNew_83 xc_0 ?_
    exact r_sub [1, 2, 3, 4] rfl (t_X8_isNew_84 kk2 hk2 a0 a1 a2 a3 (xrf a0 0) v2 (0 : Int32) ta0 (xt_7_0 ta0) h1)
  · refine r_aload_n (place := 1) dX8_isNew_70 rfl rfl ?_
    refine r_getR dX8_isNew_71 fg_X8_7 ta0 ?_
    refine r_iload_n (place := 2) dX8_isNew_74 rfl rfl ?_
    refine r_iload_n (place := 4) dX8_isNew_75 rfl rfl ?_
    refine r_callSI (rest := [.ref (G.1 (xrf a0 0)), .int v2, .ref (G.1 (xrf a0 0))]) dX8_isNew_76 m_X8_at lk_X8_115 (c_X8_at a1 a3 h1) (by decide) rfl rfl (Nat.le_of_ble_eq_true rfl) (fun v4 h3 => ?_)
    refine r_iald dX8_isNew_79 (xt_7_0 ta0) (fun v5 => ?_)
    refine r_goto (tgt := 84) dX8_isNew_80 (by decide) ?_
    exact r_sub [1, 2, 3, 4] rfl (t_X8_isNew_84 kk2 hk2 a0 a1 a2 a3 (xrf a0 0) v2 v5 ta0 (xt_7_0 ta0) h3)
def f_X8_isNew_49 (kk2 : Nat → Int32 → Int32 → Int32 → Mem → Option (Unit × Mem)) (a0 : Nat) (a1 : Int32) (a2 : Int32) (a3 : Int32) (h : Mem) : Option (Unit × Mem) :=
  f_X8_isNew_54 kk2 a0 a1 a2 a3 (1 : Int32) h
set_option maxRecDepth 20000 in
theorem t_X8_isNew_49 {G : xG} (kk2 : Nat → Int32 → Int32 → Int32 → Mem → Option (Unit × Mem)) (hk2 : ∀ (a0 : Nat) (a1 : Int32) (a2 : Int32) (a3 : Int32) (ta0 : xTy a0 7) (h : Mem), Rn G 4 FX8_isNew xcV 2 [(0, .ref (G.1 a0)), (1, .int a1), (2, .int a2), (3, .int a3)] [] h (kk2 a0 a1 a2 a3 h)) (a0 : Nat) (a1 : Int32) (a2 : Int32) (a3 : Int32) (ta0 : xTy a0 7) (h : Mem) : Rn G 4 FX8_isNew xcV 49 [(0, .ref (G.1 a0)), (1, .int a1), (2, .int a2), (3, .int a3)] [] h (f_X8_isNew_49 kk2 a0 a1 a2 a3 h) := by
  unfold f_X8_isNew_49
  refine r_iconst dX8_isNew_49 xc_1 ?_
  refine r_goto (tgt := 54) dX8_isNew_50 (by decide) ?_
  exact r_sub [0, 1, 2, 3] rfl (t_X8_isNew_54 kk2 hk2 a0 a1 a2 a3 (1 : Int32) ta0 h)
def f_X8_isNew_2  : Nat → Nat → Int32 → Int32 → Int32 → Mem → Option (Unit × Mem)
  | 0, _, _, _, _, _ => none
  | n + 1, a0, a1, a2, a3, h =>
    if (961 : Int32) ≤ a3 then
        b2 (f_X8_at a1 (0 : Int32) h) fun v2 h1 =>
        ast h1 (xrf a0 0) v2 a2 fun h3 =>
        b2 (f_X8_at a1 (9 : Int32) h3) fun v5 h4 =>
        ast h4 (xrf a0 0) v5 (1 : Int32) fun h6 =>
        b2 (f_X8_forgets a0 h6) fun _ h7 =>
        some ((), h7)
    else
        if a3 = (10 : Int32) then
            f_X8_isNew_49 (f_X8_isNew_2 n) a0 a1 a2 a3 h
        else
            if a3 = (11 : Int32) then
                f_X8_isNew_49 (f_X8_isNew_2 n) a0 a1 a2 a3 h
            else
                b2 (f_X8_in a3.toInt64 (21 : Int64) (28 : Int64) h) fun v9 h8 =>
                if v9 = 0 then
                    b2 (f_X8_in a3.toInt64 (281 : Int64) (400 : Int64) h8) fun v11 h10 =>
                    if v11 = 0 then
                        f_X8_isNew_54 (f_X8_isNew_2 n) a0 a1 a2 a3 (0 : Int32) h10
                    else
                        f_X8_isNew_49 (f_X8_isNew_2 n) a0 a1 a2 a3 h10
                else
                    f_X8_isNew_49 (f_X8_isNew_2 n) a0 a1 a2 a3 h8
set_option maxRecDepth 20000 in
theorem t_X8_isNew_2 {G : xG}  : ∀ (n : Nat) (a0 : Nat) (a1 : Int32) (a2 : Int32) (a3 : Int32) (ta0 : xTy a0 7) (h : Mem), Rn G 4 FX8_isNew xcV 2 [(0, .ref (G.1 a0)), (1, .int a1), (2, .int a2), (3, .int a3)] [] h (f_X8_isNew_2 n a0 a1 a2 a3 h) := by
  intro n
  induction n with
  | zero => intros; intro r hr; cases hr
  | succ n ih =>
    intro a0 a1 a2 a3 ta0 h
    unfold f_X8_isNew_2
    refine r_iload_n (place := 3) dX8_isNew_2 rfl rfl ?_
    refine r_sipush dX8_isNew_3 xs_961 ?_
    refine r_ic_ge (tgt := 91) dX8_isNew_6 (by decide) ?_ ?_
    · refine r_aload_n (place := 0) dX8_isNew_91 rfl rfl ?_
      refine r_getR dX8_isNew_92 fg_X8_7 ta0 ?_
      refine r_iload_n (place := 1) dX8_isNew_95 rfl rfl ?_
      refine r_iconst dX8_isNew_96 xc_0 ?_
      refine r_callSI (rest := [.ref (G.1 (xrf a0 0))]) dX8_isNew_97 m_X8_at lk_X8_115 (c_X8_at a1 (0 : Int32) h) (by decide) rfl rfl (Nat.le_of_ble_eq_true rfl) (fun v2 h1 => ?_)
      refine r_iload_n (place := 2) dX8_isNew_100 rfl rfl ?_
      refine r_iast dX8_isNew_101 (xt_7_0 ta0) (fun h3 => ?_)
      refine r_aload_n (place := 0) dX8_isNew_102 rfl rfl ?_
      refine r_getR dX8_isNew_103 fg_X8_7 ta0 ?_
      refine r_iload_n (place := 1) dX8_isNew_106 rfl rfl ?_
      refine r_bipush dX8_isNew_107 xb_9 ?_
      refine r_callSI (rest := [.ref (G.1 (xrf a0 0))]) dX8_isNew_109 m_X8_at lk_X8_115 (c_X8_at a1 (9 : Int32) h3) (by decide) rfl rfl (Nat.le_of_ble_eq_true rfl) (fun v5 h4 => ?_)
      refine r_iconst dX8_isNew_112 xc_1 ?_
      refine r_iast dX8_isNew_113 (xt_7_0 ta0) (fun h6 => ?_)
      refine r_aload_n (place := 0) dX8_isNew_114 rfl rfl ?_
      refine r_callVV (rest := []) dX8_isNew_115 m_X8_forgets lk_X8_246 rfl (by decide) ta0 (c_X8_forgets a0 ta0 h6) (by decide) rfl rfl (Nat.le_of_ble_eq_true rfl) (fun h7 => ?_)
      exact r_ret dX8_isNew_118 rfl
    · refine r_iload_n (place := 3) dX8_isNew_9 rfl rfl ?_
      refine r_bipush dX8_isNew_10 xb_10 ?_
      refine r_ic_eq (tgt := 49) dX8_isNew_12 (by decide) ?_ ?_
      · exact r_sub [0, 1, 2, 3] rfl (t_X8_isNew_49 (f_X8_isNew_2 n) ih a0 a1 a2 a3 ta0 h)
      · refine r_iload_n (place := 3) dX8_isNew_15 rfl rfl ?_
        refine r_bipush dX8_isNew_16 xb_11 ?_
        refine r_ic_eq (tgt := 49) dX8_isNew_18 (by decide) ?_ ?_
        · exact r_sub [0, 1, 2, 3] rfl (t_X8_isNew_49 (f_X8_isNew_2 n) ih a0 a1 a2 a3 ta0 h)
        · refine r_iload_n (place := 3) dX8_isNew_21 rfl rfl ?_
          refine r_i2l dX8_isNew_22 ?_
          refine r_ldc2 dX8_isNew_23 ll_X8_240 ?_
          refine r_ldc2 dX8_isNew_26 ll_X8_164 ?_
          refine r_callSI (rest := []) dX8_isNew_29 m_X8_in lk_X8_59 (c_X8_in a3.toInt64 (21 : Int64) (28 : Int64) h) (by decide) rfl rfl (Nat.le_of_ble_eq_true rfl) (fun v9 h8 => ?_)
          refine r_if_ne (tgt := 49) dX8_isNew_32 (by decide) ?_ ?_
          · exact r_sub [0, 1, 2, 3] rfl (t_X8_isNew_49 (f_X8_isNew_2 n) ih a0 a1 a2 a3 ta0 h8)
          · refine r_iload_n (place := 3) dX8_isNew_35 rfl rfl ?_
            refine r_i2l dX8_isNew_36 ?_
            refine r_ldc2 dX8_isNew_37 ll_X8_242 ?_
            refine r_ldc2 dX8_isNew_40 ll_X8_244 ?_
            refine r_callSI (rest := []) dX8_isNew_43 m_X8_in lk_X8_59 (c_X8_in a3.toInt64 (281 : Int64) (400 : Int64) h8) (by decide) rfl rfl (Nat.le_of_ble_eq_true rfl) (fun v11 h10 => ?_)
            refine r_if_eq (tgt := 53) dX8_isNew_46 (by decide) ?_ ?_
            · refine r_iconst dX8_isNew_53 xc_0 ?_
              exact r_sub [0, 1, 2, 3] rfl (t_X8_isNew_54 (f_X8_isNew_2 n) ih a0 a1 a2 a3 (0 : Int32) ta0 h10)
            · exact r_sub [0, 1, 2, 3] rfl (t_X8_isNew_49 (f_X8_isNew_2 n) ih a0 a1 a2 a3 ta0 h10)
def f_X8_isNew (a0 : Nat) (a1 : Int32) (a2 : Int32) (h : Mem) : Option (Unit × Mem) :=
  f_X8_isNew_2 xFU a0 a1 a2 (0 : Int32) h
set_option maxRecDepth 20000 in
theorem c_X8_isNew {G : xG} (a0 : Nat) (ta0 : xTy a0 7) (a1 : Int32) (a2 : Int32) (h : Mem) : Sm G 4 yX8_isNew FX8_isNew xcV [.ref (G.1 a0), .int a1, .int a2] h (f_X8_isNew a0 a1 a2 h) := by
  refine Sm.of pn_X8 rfl (Nat.le_of_ble_eq_true rfl) (ls := [(0, .ref (G.1 a0)), (1, .int a1), (2, .int a2)]) rfl ?_
  unfold f_X8_isNew
  refine r_iconst dX8_isNew_0 xc_0 ?_
  refine r_istore_n (ls' := [(3, .int (0 : Int32)), (0, .ref (G.1 a0)), (1, .int a1), (2, .int a2)]) dX8_isNew_1 rfl (by decide) rfl ?_
  exact r_sub [1, 2, 3, 0] rfl (t_X8_isNew_2 xFU a0 a1 a2 (0 : Int32) ta0 h)
def f_X8_wake_148  : Nat → Nat → Int32 → Int32 → Int32 → Mem → Option (Int32 × Mem)
  | 0, _, _, _, _, _ => none
  | n + 1, a0, a1, a4, a5, h =>
    b2 (f_X8_of a0 a1 (4 : Int32) h) fun v2 h1 =>
    if v2 ≤ a5 then
        b2 (f_X8_queueGoesOn a0 a1 h1) fun _ h3 =>
        b2 (f_X8_flag a4 h3) fun v5 h4 =>
        some (v5, h4)
    else
        b2 (f_X8_sends a0 a1 a5 h1) fun _ h6 =>
        (f_X8_wake_148 n) a0 a1 a4 (a5 + (1 : Int32)) h6
set_option maxRecDepth 20000 in
theorem t_X8_wake_148 {G : xG}  : ∀ (n : Nat) (a0 : Nat) (a1 : Int32) (a4 : Int32) (a5 : Int32) (ta0 : xTy a0 7) (h : Mem), Rn G 6 FX8_wake xcI 148 [(0, .ref (G.1 a0)), (1, .int a1), (4, .int a4), (5, .int a5)] [] h (f_X8_wake_148 n a0 a1 a4 a5 h) := by
  intro n
  induction n with
  | zero => intros; intro r hr; cases hr
  | succ n ih =>
    intro a0 a1 a4 a5 ta0 h
    unfold f_X8_wake_148
    refine r_iload (place := 3) dX8_wake_148 rfl ?_
    refine r_aload_n (place := 0) dX8_wake_150 rfl rfl ?_
    refine r_iload_n (place := 1) dX8_wake_151 rfl rfl ?_
    refine r_iconst dX8_wake_152 xc_4 ?_
    refine r_callVI (rest := [.int a5]) dX8_wake_153 m_X8_of lk_X8_166 rfl (by decide) ta0 (c_X8_of a0 ta0 a1 (4 : Int32) h) (by decide) rfl rfl (Nat.le_of_ble_eq_true rfl) (fun v2 h1 => ?_)
    refine r_ic_ge (tgt := 172) dX8_wake_156 (by decide) ?_ ?_
    · refine r_aload_n (place := 0) dX8_wake_172 rfl rfl ?_
      refine r_iload_n (place := 1) dX8_wake_173 rfl rfl ?_
      refine r_callVV (rest := []) dX8_wake_174 m_X8_queueGoesOn lk_X8_257 rfl (by decide) ta0 (c_X8_queueGoesOn a0 ta0 a1 h1) (by decide) rfl rfl (Nat.le_of_ble_eq_true rfl) (fun h3 => ?_)
      refine r_iload (place := 2) dX8_wake_177 rfl ?_
      refine r_callSI (rest := []) dX8_wake_179 m_X8_flag lk_X8_260 (c_X8_flag a4 h3) (by decide) rfl rfl (Nat.le_of_ble_eq_true rfl) (fun v5 h4 => ?_)
      exact r_iret dX8_wake_182 rfl
    · refine r_aload_n (place := 0) dX8_wake_159 rfl rfl ?_
      refine r_iload_n (place := 1) dX8_wake_160 rfl rfl ?_
      refine r_iload (place := 3) dX8_wake_161 rfl ?_
      refine r_callVV (rest := []) dX8_wake_163 m_X8_sends lk_X8_173 rfl (by decide) ta0 (c_X8_sends a0 ta0 a1 a5 h1) (by decide) rfl rfl (Nat.le_of_ble_eq_true rfl) (fun h6 => ?_)
      refine r_iincC (place := 3) (ls' := [(5, .int (a5 + (1 : Int32))), (0, .ref (G.1 a0)), (1, .int a1), (4, .int a4)]) dX8_wake_166 rfl xc_1 (by decide) rfl ?_
      refine r_goto (tgt := 148) dX8_wake_169 (by decide) ?_
      exact r_sub [1, 2, 3, 0] rfl (ih a0 a1 a4 (a5 + (1 : Int32)) ta0 h6)
def f_X8_wake_74  (a0 : Nat) (a1 : Int32) (a3 : Int32) (a4 : Int32) (h : Mem) : Option (Int32 × Mem) :=
  b2 (f_X8_at a1 (0 : Int32) h) fun v2 h1 =>
  ast h1 (xrf a0 0) v2 (1 : Int32) fun h3 =>
  b2 (f_X8_at a1 (1 : Int32) h3) fun v5 h4 =>
  ast h4 (xrf a0 0) v5 a3 fun h6 =>
  b2 (f_X8_at a1 (12 : Int32) h6) fun v8 h7 =>
  ast h7 (xrf a0 0) v8 (0 : Int32) fun h9 =>
  b2 (f_X8_at a1 (21 : Int32) h9) fun v11 h10 =>
  ast h10 (xrf a0 0) v11 (-4 : Int32) fun h12 =>
  b2 (f_X8_at a1 (6 : Int32) h12) fun v14 h13 =>
  ast h13 (xrf a0 0) v14 (0 : Int32) fun h15 =>
  b2 (f_X8_at a1 (7 : Int32) h15) fun v17 h16 =>
  ast h16 (xrf a0 0) v17 (0 : Int32) fun h18 =>
  f_X8_wake_148 xFU a0 a1 a4 (0 : Int32) h18
set_option maxRecDepth 20000 in
theorem t_X8_wake_74 {G : xG}  (a0 : Nat) (a1 : Int32) (a3 : Int32) (a4 : Int32) (ta0 : xTy a0 7) (h : Mem) : Rn G 6 FX8_wake xcI 74 [(0, .ref (G.1 a0)), (1, .int a1), (3, .int a3), (4, .int a4)] [] h (f_X8_wake_74 a0 a1 a3 a4 h) := by
  unfold f_X8_wake_74
  refine r_aload_n (place := 0) dX8_wake_74 rfl rfl ?_
  refine r_getR dX8_wake_75 fg_X8_7 ta0 ?_
  refine r_iload_n (place := 1) dX8_wake_78 rfl rfl ?_
  refine r_iconst dX8_wake_79 xc_0 ?_
  refine r_callSI (rest := [.ref (G.1 (xrf a0 0))]) dX8_wake_80 m_X8_at lk_X8_115 (c_X8_at a1 (0 : Int32) h) (by decide) rfl rfl (Nat.le_of_ble_eq_true rfl) (fun v2 h1 => ?_)
  refine r_iconst dX8_wake_83 xc_1 ?_
  refine r_iast dX8_wake_84 (xt_7_0 ta0) (fun h3 => ?_)
  refine r_aload_n (place := 0) dX8_wake_85 rfl rfl ?_
  refine r_getR dX8_wake_86 fg_X8_7 ta0 ?_
  refine r_iload_n (place := 1) dX8_wake_89 rfl rfl ?_
  refine r_iconst dX8_wake_90 xc_1 ?_
  refine r_callSI (rest := [.ref (G.1 (xrf a0 0))]) dX8_wake_91 m_X8_at lk_X8_115 (c_X8_at a1 (1 : Int32) h3) (by decide) rfl rfl (Nat.le_of_ble_eq_true rfl) (fun v5 h4 => ?_)
  refine r_iload_n (place := 2) dX8_wake_94 rfl rfl ?_
  refine r_iast dX8_wake_95 (xt_7_0 ta0) (fun h6 => ?_)
  refine r_aload_n (place := 0) dX8_wake_96 rfl rfl ?_
  refine r_getR dX8_wake_97 fg_X8_7 ta0 ?_
  refine r_iload_n (place := 1) dX8_wake_100 rfl rfl ?_
  refine r_bipush dX8_wake_101 xb_12 ?_
  refine r_callSI (rest := [.ref (G.1 (xrf a0 0))]) dX8_wake_103 m_X8_at lk_X8_115 (c_X8_at a1 (12 : Int32) h6) (by decide) rfl rfl (Nat.le_of_ble_eq_true rfl) (fun v8 h7 => ?_)
  refine r_iconst dX8_wake_106 xc_0 ?_
  refine r_iast dX8_wake_107 (xt_7_0 ta0) (fun h9 => ?_)
  refine r_aload_n (place := 0) dX8_wake_108 rfl rfl ?_
  refine r_getR dX8_wake_109 fg_X8_7 ta0 ?_
  refine r_iload_n (place := 1) dX8_wake_112 rfl rfl ?_
  refine r_bipush dX8_wake_113 xb_21 ?_
  refine r_callSI (rest := [.ref (G.1 (xrf a0 0))]) dX8_wake_115 m_X8_at lk_X8_115 (c_X8_at a1 (21 : Int32) h9) (by decide) rfl rfl (Nat.le_of_ble_eq_true rfl) (fun v11 h10 => ?_)
  refine r_bipush dX8_wake_118 xb_m4 ?_
  refine r_iast dX8_wake_120 (xt_7_0 ta0) (fun h12 => ?_)
  refine r_aload_n (place := 0) dX8_wake_121 rfl rfl ?_
  refine r_getR dX8_wake_122 fg_X8_7 ta0 ?_
  refine r_iload_n (place := 1) dX8_wake_125 rfl rfl ?_
  refine r_bipush dX8_wake_126 xb_6 ?_
  refine r_callSI (rest := [.ref (G.1 (xrf a0 0))]) dX8_wake_128 m_X8_at lk_X8_115 (c_X8_at a1 (6 : Int32) h12) (by decide) rfl rfl (Nat.le_of_ble_eq_true rfl) (fun v14 h13 => ?_)
  refine r_iconst dX8_wake_131 xc_0 ?_
  refine r_iast dX8_wake_132 (xt_7_0 ta0) (fun h15 => ?_)
  refine r_aload_n (place := 0) dX8_wake_133 rfl rfl ?_
  refine r_getR dX8_wake_134 fg_X8_7 ta0 ?_
  refine r_iload_n (place := 1) dX8_wake_137 rfl rfl ?_
  refine r_bipush dX8_wake_138 xb_7 ?_
  refine r_callSI (rest := [.ref (G.1 (xrf a0 0))]) dX8_wake_140 m_X8_at lk_X8_115 (c_X8_at a1 (7 : Int32) h15) (by decide) rfl rfl (Nat.le_of_ble_eq_true rfl) (fun v17 h16 => ?_)
  refine r_iconst dX8_wake_143 xc_0 ?_
  refine r_iast dX8_wake_144 (xt_7_0 ta0) (fun h18 => ?_)
  refine r_iconst dX8_wake_145 xc_0 ?_
  refine r_istore (ls' := [(5, .int (0 : Int32)), (0, .ref (G.1 a0)), (1, .int a1), (3, .int a3), (4, .int a4)]) dX8_wake_146 (by decide) rfl ?_
  exact r_sub [1, 2, 4, 0] rfl (t_X8_wake_148 xFU a0 a1 a4 (0 : Int32) ta0 h18)
def f_X8_wake_61  (a0 : Nat) (a1 : Int32) (a3 : Int32) (s0 : Int32) (h : Mem) : Option (Int32 × Mem) :=
  if s0 = 0 then
      b2 (f_X8_isNew a0 a1 (1 : Int32) h) fun _ h1 =>
      f_X8_wake_74 a0 a1 a3 s0 h1
  else
      f_X8_wake_74 a0 a1 a3 s0 h
set_option maxRecDepth 20000 in
theorem t_X8_wake_61 {G : xG}  (a0 : Nat) (a1 : Int32) (a3 : Int32) (s0 : Int32) (ta0 : xTy a0 7) (h : Mem) : Rn G 6 FX8_wake xcI 61 [(0, .ref (G.1 a0)), (1, .int a1), (3, .int a3)] [.int s0] h (f_X8_wake_61 a0 a1 a3 s0 h) := by
  unfold f_X8_wake_61
  refine r_istore (ls' := [(4, .int s0), (0, .ref (G.1 a0)), (1, .int a1), (3, .int a3)]) dX8_wake_61 (by decide) rfl ?_
  refine r_iload (place := 0) dX8_wake_63 rfl ?_
  refine r_if_ne (tgt := 74) dX8_wake_65 (by decide) ?_ ?_
  · exact r_sub [1, 2, 3, 0] rfl (t_X8_wake_74 a0 a1 a3 s0 ta0 h)
  · refine r_aload_n (place := 1) dX8_wake_68 rfl rfl ?_
    refine r_iload_n (place := 2) dX8_wake_69 rfl rfl ?_
    refine r_iconst dX8_wake_70 xc_1 ?_
    refine r_callVV (rest := []) dX8_wake_71 m_X8_isNew lk_X8_254 rfl (by decide) ta0 (c_X8_isNew a0 ta0 a1 (1 : Int32) h) (by decide) rfl rfl (Nat.le_of_ble_eq_true rfl) (fun h1 => ?_)
    exact r_sub [1, 2, 3, 0] rfl (t_X8_wake_74 a0 a1 a3 s0 ta0 h1)
def f_X8_wake_60  (a0 : Nat) (a1 : Int32) (a3 : Int32) (h : Mem) : Option (Int32 × Mem) :=
  f_X8_wake_61 a0 a1 a3 (0 : Int32) h
set_option maxRecDepth 20000 in
theorem t_X8_wake_60 {G : xG}  (a0 : Nat) (a1 : Int32) (a3 : Int32) (ta0 : xTy a0 7) (h : Mem) : Rn G 6 FX8_wake xcI 60 [(0, .ref (G.1 a0)), (1, .int a1), (3, .int a3)] [] h (f_X8_wake_60 a0 a1 a3 h) := by
  unfold f_X8_wake_60
  refine r_iconst dX8_wake_60 xc_0 ?_
  exact r_sub [0, 1, 2] rfl (t_X8_wake_61 a0 a1 a3 (0 : Int32) ta0 h)
def f_X8_wake (a0 : Nat) (a1 : Int32) (a2 : Int32) (a3 : Int32) (h : Mem) : Option (Int32 × Mem) :=
  b2 (f_X8_isClient a1 h) fun v2 h1 =>
  if v2 = 0 then
      some ((-1 : Int32), h1)
  else
      b2 (f_X8_in a2.toInt64 (0 : Int64) (1 : Int64) h1) fun v4 h3 =>
      if v4 = 0 then
          some ((-1 : Int32), h3)
      else
          b2 (f_X8_in a3.toInt64 (0 : Int64) (99 : Int64) h3) fun v6 h5 =>
          if v6 = 0 then
              some ((-1 : Int32), h5)
          else
              b2 (f_X8_isAwake a0 a1 h5) fun v8 h7 =>
              if v8 = 0 then
                  if a2 = 0 then
                      b2 (f_X8_of a0 a1 (0 : Int32) h7) fun v10 h9 =>
                      if v10 = (2 : Int32) then
                          f_X8_wake_61 a0 a1 a3 (1 : Int32) h9
                      else
                          f_X8_wake_60 a0 a1 a3 h9
                  else
                      f_X8_wake_60 a0 a1 a3 h7
              else
                  some ((-2 : Int32), h7)
set_option maxRecDepth 20000 in
theorem c_X8_wake {G : xG} (a0 : Nat) (ta0 : xTy a0 7) (a1 : Int32) (a2 : Int32) (a3 : Int32) (h : Mem) : Sm G 6 yX8_wake FX8_wake xcI [.ref (G.1 a0), .int a1, .int a2, .int a3] h (f_X8_wake a0 a1 a2 a3 h) := by
  refine Sm.of pn_X8 rfl (Nat.le_of_ble_eq_true rfl) (ls := [(0, .ref (G.1 a0)), (1, .int a1), (2, .int a2), (3, .int a3)]) rfl ?_
  unfold f_X8_wake
  refine r_iload_n (place := 1) dX8_wake_0 rfl rfl ?_
  refine r_callSI (rest := []) dX8_wake_1 m_X8_isClient lk_X8_249 (c_X8_isClient a1 h) (by decide) rfl rfl (Nat.le_of_ble_eq_true rfl) (fun v2 h1 => ?_)
  refine r_if_eq (tgt := 29) dX8_wake_4 (by decide) ?_ ?_
  · refine r_iconst dX8_wake_29 xc_m1 ?_
    exact r_iret dX8_wake_30 rfl
  · refine r_iload_n (place := 2) dX8_wake_7 rfl rfl ?_
    refine r_i2l dX8_wake_8 ?_
    refine r_lconst dX8_wake_9 xl_0 ?_
    refine r_lconst dX8_wake_10 xl_1 ?_
    refine r_callSI (rest := []) dX8_wake_11 m_X8_in lk_X8_59 (c_X8_in a2.toInt64 (0 : Int64) (1 : Int64) h1) (by decide) rfl rfl (Nat.le_of_ble_eq_true rfl) (fun v4 h3 => ?_)
    refine r_if_eq (tgt := 29) dX8_wake_14 (by decide) ?_ ?_
    · refine r_iconst dX8_wake_29 xc_m1 ?_
      exact r_iret dX8_wake_30 rfl
    · refine r_iload_n (place := 3) dX8_wake_17 rfl rfl ?_
      refine r_i2l dX8_wake_18 ?_
      refine r_lconst dX8_wake_19 xl_0 ?_
      refine r_ldc2 dX8_wake_20 ll_X8_252 ?_
      refine r_callSI (rest := []) dX8_wake_23 m_X8_in lk_X8_59 (c_X8_in a3.toInt64 (0 : Int64) (99 : Int64) h3) (by decide) rfl rfl (Nat.le_of_ble_eq_true rfl) (fun v6 h5 => ?_)
      refine r_if_ne (tgt := 31) dX8_wake_26 (by decide) ?_ ?_
      · refine r_aload_n (place := 0) dX8_wake_31 rfl rfl ?_
        refine r_iload_n (place := 1) dX8_wake_32 rfl rfl ?_
        refine r_callVI (rest := []) dX8_wake_33 m_X8_isAwake lk_X8_177 rfl (by decide) ta0 (c_X8_isAwake a0 ta0 a1 h5) (by decide) rfl rfl (Nat.le_of_ble_eq_true rfl) (fun v8 h7 => ?_)
        refine r_if_eq (tgt := 42) dX8_wake_36 (by decide) ?_ ?_
        · refine r_iload_n (place := 2) dX8_wake_42 rfl rfl ?_
          refine r_if_ne (tgt := 60) dX8_wake_43 (by decide) ?_ ?_
          · exact r_sub [0, 1, 3] rfl (t_X8_wake_60 a0 a1 a3 ta0 h7)
          · refine r_aload_n (place := 0) dX8_wake_46 rfl rfl ?_
            refine r_iload_n (place := 1) dX8_wake_47 rfl rfl ?_
            refine r_iconst dX8_wake_48 xc_0 ?_
            refine r_callVI (rest := []) dX8_wake_49 m_X8_of lk_X8_166 rfl (by decide) ta0 (c_X8_of a0 ta0 a1 (0 : Int32) h7) (by decide) rfl rfl (Nat.le_of_ble_eq_true rfl) (fun v10 h9 => ?_)
            refine r_iconst dX8_wake_52 xc_2 ?_
            refine r_ic_ne (tgt := 60) dX8_wake_53 (by decide) ?_ ?_
            · exact r_sub [0, 1, 3] rfl (t_X8_wake_60 a0 a1 a3 ta0 h9)
            · refine r_iconst dX8_wake_56 xc_1 ?_
              refine r_goto (tgt := 61) dX8_wake_57 (by decide) ?_
              exact r_sub [0, 1, 3] rfl (t_X8_wake_61 a0 a1 a3 (1 : Int32) ta0 h9)
        · refine r_bipush dX8_wake_39 xb_m2 ?_
          exact r_iret dX8_wake_41 rfl
      · refine r_iconst dX8_wake_29 xc_m1 ?_
        exact r_iret dX8_wake_30 rfl
def f_X8_saysWill_22  : Nat → Nat → Int32 → Int32 → Mem → Option (Int32 × Mem)
  | 0, _, _, _, _ => none
  | n + 1, a0, a2, a3, h =>
    if (4 : Int32) ≤ a3 then
        ald h (xrf a0 0) (a2 + (4 : Int32)) fun v1 =>
        ald h (xrf a0 0) (a2 + (5 : Int32)) fun v2 =>
        ald h (xrf a0 0) (a2 + (6 : Int32)) fun v3 =>
        b2 (f_X8_says a0 (xrf a0 21) v1 v2 v3 h) fun v5 h4 =>
        some (v5, h4)
    else
        ald h (xrf a0 0) (a2 + a3) fun v6 =>
        ast h (xrf a0 21) a3 v6 fun h7 =>
        (f_X8_saysWill_22 n) a0 a2 (a3 + (1 : Int32)) h7
set_option maxRecDepth 20000 in
theorem t_X8_saysWill_22 {G : xG}  : ∀ (n : Nat) (a0 : Nat) (a2 : Int32) (a3 : Int32) (ta0 : xTy a0 7) (h : Mem), Rn G 8 FX8_saysWill xcI 22 [(0, .ref (G.1 a0)), (2, .int a2), (3, .int a3)] [] h (f_X8_saysWill_22 n a0 a2 a3 h) := by
  intro n
  induction n with
  | zero => intros; intro r hr; cases hr
  | succ n ih =>
    intro a0 a2 a3 ta0 h
    unfold f_X8_saysWill_22
    refine r_iload_n (place := 2) dX8_saysWill_22 rfl rfl ?_
    refine r_iconst dX8_saysWill_23 xc_4 ?_
    refine r_ic_ge (tgt := 47) dX8_saysWill_24 (by decide) ?_ ?_
    · refine r_aload_n (place := 0) dX8_saysWill_47 rfl rfl ?_
      refine r_aload_n (place := 0) dX8_saysWill_48 rfl rfl ?_
      refine r_getR dX8_saysWill_49 fg_X8_47 ta0 ?_
      refine r_aload_n (place := 0) dX8_saysWill_52 rfl rfl ?_
      refine r_getR dX8_saysWill_53 fg_X8_7 ta0 ?_
      refine r_iload_n (place := 1) dX8_saysWill_56 rfl rfl ?_
      refine r_iconst dX8_saysWill_57 xc_4 ?_
      refine r_iadd dX8_saysWill_58 ?_
      refine r_iald dX8_saysWill_59 (xt_7_0 ta0) (fun v1 => ?_)
      refine r_aload_n (place := 0) dX8_saysWill_60 rfl rfl ?_
      refine r_getR dX8_saysWill_61 fg_X8_7 ta0 ?_
      refine r_iload_n (place := 1) dX8_saysWill_64 rfl rfl ?_
      refine r_iconst dX8_saysWill_65 xc_5 ?_
      refine r_iadd dX8_saysWill_66 ?_
      refine r_iald dX8_saysWill_67 (xt_7_0 ta0) (fun v2 => ?_)
      refine r_aload_n (place := 0) dX8_saysWill_68 rfl rfl ?_
      refine r_getR dX8_saysWill_69 fg_X8_7 ta0 ?_
      refine r_iload_n (place := 1) dX8_saysWill_72 rfl rfl ?_
      refine r_bipush dX8_saysWill_73 xb_6 ?_
      refine r_iadd dX8_saysWill_75 ?_
      refine r_iald dX8_saysWill_76 (xt_7_0 ta0) (fun v3 => ?_)
      refine r_callVI (rest := []) dX8_saysWill_77 m_X8_says lk_X8_264 rfl (by decide) ta0 (c_X8_says a0 ta0 (xrf a0 21) (xt_7_21 ta0) v1 v2 v3 h) (by decide) rfl rfl (Nat.le_of_ble_eq_true rfl) (fun v5 h4 => ?_)
      exact r_iret dX8_saysWill_80 rfl
    · refine r_aload_n (place := 0) dX8_saysWill_27 rfl rfl ?_
      refine r_getR dX8_saysWill_28 fg_X8_47 ta0 ?_
      refine r_iload_n (place := 2) dX8_saysWill_31 rfl rfl ?_
      refine r_aload_n (place := 0) dX8_saysWill_32 rfl rfl ?_
      refine r_getR dX8_saysWill_33 fg_X8_7 ta0 ?_
      refine r_iload_n (place := 1) dX8_saysWill_36 rfl rfl ?_
      refine r_iload_n (place := 2) dX8_saysWill_37 rfl rfl ?_
      refine r_iadd dX8_saysWill_38 ?_
      refine r_iald dX8_saysWill_39 (xt_7_0 ta0) (fun v6 => ?_)
      refine r_iast dX8_saysWill_40 (xt_7_21 ta0) (fun h7 => ?_)
      refine r_iincC (place := 2) (ls' := [(3, .int (a3 + (1 : Int32))), (0, .ref (G.1 a0)), (2, .int a2)]) dX8_saysWill_41 rfl xc_1 (by decide) rfl ?_
      refine r_goto (tgt := 22) dX8_saysWill_44 (by decide) ?_
      exact r_sub [1, 2, 0] rfl (ih a0 a2 (a3 + (1 : Int32)) ta0 h7)
def f_X8_saysWill (a0 : Nat) (a1 : Int32) (h : Mem) : Option (Int32 × Mem) :=
  b2 (f_X8_at a1 (22 : Int32) h) fun v2 h1 =>
  b2 (f_X8_at a1 (21 : Int32) h1) fun v4 h3 =>
  ast h3 (xrf a0 0) v4 (-4 : Int32) fun h5 =>
  f_X8_saysWill_22 xFU a0 v2 (0 : Int32) h5
set_option maxRecDepth 20000 in
theorem c_X8_saysWill {G : xG} (a0 : Nat) (ta0 : xTy a0 7) (a1 : Int32) (h : Mem) : Sm G 8 yX8_saysWill FX8_saysWill xcI [.ref (G.1 a0), .int a1] h (f_X8_saysWill a0 a1 h) := by
  refine Sm.of pn_X8 rfl (Nat.le_of_ble_eq_true rfl) (ls := [(0, .ref (G.1 a0)), (1, .int a1)]) rfl ?_
  unfold f_X8_saysWill
  refine r_iload_n (place := 1) dX8_saysWill_0 rfl rfl ?_
  refine r_bipush dX8_saysWill_1 xb_22 ?_
  refine r_callSI (rest := []) dX8_saysWill_3 m_X8_at lk_X8_115 (c_X8_at a1 (22 : Int32) h) (by decide) rfl rfl (Nat.le_of_ble_eq_true rfl) (fun v2 h1 => ?_)
  refine r_istore_n (ls' := [(2, .int v2), (0, .ref (G.1 a0)), (1, .int a1)]) dX8_saysWill_6 rfl (by decide) rfl ?_
  refine r_aload_n (place := 1) dX8_saysWill_7 rfl rfl ?_
  refine r_getR dX8_saysWill_8 fg_X8_7 ta0 ?_
  refine r_iload_n (place := 2) dX8_saysWill_11 rfl rfl ?_
  refine r_bipush dX8_saysWill_12 xb_21 ?_
  refine r_callSI (rest := [.ref (G.1 (xrf a0 0))]) dX8_saysWill_14 m_X8_at lk_X8_115 (c_X8_at a1 (21 : Int32) h1) (by decide) rfl rfl (Nat.le_of_ble_eq_true rfl) (fun v4 h3 => ?_)
  refine r_bipush dX8_saysWill_17 xb_m4 ?_
  refine r_iast dX8_saysWill_19 (xt_7_0 ta0) (fun h5 => ?_)
  refine r_iconst dX8_saysWill_20 xc_0 ?_
  refine r_istore_n (ls' := [(3, .int (0 : Int32)), (2, .int v2), (0, .ref (G.1 a0)), (1, .int a1)]) dX8_saysWill_21 rfl (by decide) rfl ?_
  exact r_sub [2, 1, 0] rfl (t_X8_saysWill_22 xFU a0 v2 (0 : Int32) ta0 h5)
def f_X8_sleep_230  (a0 : Nat) (a1 : Int32) (a4 : Int32) (h : Mem) : Option (Int32 × Mem) :=
  b2 (f_X8_of a0 a1 (1 : Int32) h) fun v2 h1 =>
  if v2 = 0 then
      b2 (f_X8_isNew a0 a1 (0 : Int32) h1) fun _ h3 =>
      some (a4, h3)
  else
      some (a4, h1)
set_option maxRecDepth 20000 in
theorem t_X8_sleep_230 {G : xG}  (a0 : Nat) (a1 : Int32) (a4 : Int32) (ta0 : xTy a0 7) (h : Mem) : Rn G 9 FX8_sleep xcI 230 [(0, .ref (G.1 a0)), (1, .int a1), (4, .int a4)] [] h (f_X8_sleep_230 a0 a1 a4 h) := by
  unfold f_X8_sleep_230
  refine r_aload_n (place := 0) dX8_sleep_230 rfl rfl ?_
  refine r_iload_n (place := 1) dX8_sleep_231 rfl rfl ?_
  refine r_iconst dX8_sleep_232 xc_1 ?_
  refine r_callVI (rest := []) dX8_sleep_233 m_X8_of lk_X8_166 rfl (by decide) ta0 (c_X8_of a0 ta0 a1 (1 : Int32) h) (by decide) rfl rfl (Nat.le_of_ble_eq_true rfl) (fun v2 h1 => ?_)
  refine r_if_ne (tgt := 245) dX8_sleep_236 (by decide) ?_ ?_
  · refine r_iload (place := 2) dX8_sleep_245 rfl ?_
    exact r_iret dX8_sleep_247 rfl
  · refine r_aload_n (place := 0) dX8_sleep_239 rfl rfl ?_
    refine r_iload_n (place := 1) dX8_sleep_240 rfl rfl ?_
    refine r_iconst dX8_sleep_241 xc_0 ?_
    refine r_callVV (rest := []) dX8_sleep_242 m_X8_isNew lk_X8_254 rfl (by decide) ta0 (c_X8_isNew a0 ta0 a1 (0 : Int32) h1) (by decide) rfl rfl (Nat.le_of_ble_eq_true rfl) (fun h3 => ?_)
    refine r_iload (place := 2) dX8_sleep_245 rfl ?_
    exact r_iret dX8_sleep_247 rfl
def f_X8_sleep_228  (a0 : Nat) (a1 : Int32) (s0 : Int32) (h : Mem) : Option (Int32 × Mem) :=
  f_X8_sleep_230 a0 a1 s0 h
set_option maxRecDepth 20000 in
theorem t_X8_sleep_228 {G : xG}  (a0 : Nat) (a1 : Int32) (s0 : Int32) (ta0 : xTy a0 7) (h : Mem) : Rn G 9 FX8_sleep xcI 228 [(0, .ref (G.1 a0)), (1, .int a1)] [.int s0] h (f_X8_sleep_228 a0 a1 s0 h) := by
  unfold f_X8_sleep_228
  refine r_istore (ls' := [(4, .int s0), (0, .ref (G.1 a0)), (1, .int a1)]) dX8_sleep_228 (by decide) rfl ?_
  exact r_sub [1, 2, 0] rfl (t_X8_sleep_230 a0 a1 s0 ta0 h)
def f_X8_sleep_132  : Nat → Nat → Int32 → Int32 → Mem → Option (Int32 × Mem)
  | 0, _, _, _, _ => none
  | n + 1, a0, a1, a5, h =>
    if (7 : Int32) ≤ a5 then
        b2 (f_X8_at a1 (21 : Int32) h) fun v2 h1 =>
        ald h1 (xrf a0 0) (0 : Int32) fun v3 =>
        b2 (f_X8_of a0 a1 (20 : Int32) h1) fun v5 h4 =>
        b2 (f_X8_of a0 a1 (1 : Int32) h4) fun v7 h6 =>
        b2 (f_X8_lesser v5 v7 h6) fun v9 h8 =>
        ast h8 (xrf a0 0) v2 (v3 + v9) fun h10 =>
        b2 (f_X8_of a0 a1 (21 : Int32) h10) fun v12 h11 =>
        ald h11 (xrf a0 0) (0 : Int32) fun v13 =>
        if v12 = v13 then
            b2 (f_X8_saysWill a0 a1 h11) fun v15 h14 =>
            f_X8_sleep_228 a0 a1 v15 h14
        else
            f_X8_sleep_228 a0 a1 (0 : Int32) h11
    else
        b2 (f_X8_at a1 ((22 : Int32) + a5) h) fun v17 h16 =>
        b2 (f_X8_of a0 a1 ((13 : Int32) + a5) h16) fun v19 h18 =>
        ast h18 (xrf a0 0) v17 v19 fun h20 =>
        (f_X8_sleep_132 n) a0 a1 (a5 + (1 : Int32)) h20
set_option maxRecDepth 20000 in
theorem t_X8_sleep_132 {G : xG}  : ∀ (n : Nat) (a0 : Nat) (a1 : Int32) (a5 : Int32) (ta0 : xTy a0 7) (h : Mem), Rn G 9 FX8_sleep xcI 132 [(0, .ref (G.1 a0)), (1, .int a1), (5, .int a5)] [] h (f_X8_sleep_132 n a0 a1 a5 h) := by
  intro n
  induction n with
  | zero => intros; intro r hr; cases hr
  | succ n ih =>
    intro a0 a1 a5 ta0 h
    unfold f_X8_sleep_132
    refine r_iload (place := 2) dX8_sleep_132 rfl ?_
    refine r_bipush dX8_sleep_134 xb_7 ?_
    refine r_ic_ge (tgt := 169) dX8_sleep_136 (by decide) ?_ ?_
    · refine r_aload_n (place := 0) dX8_sleep_169 rfl rfl ?_
      refine r_getR dX8_sleep_170 fg_X8_7 ta0 ?_
      refine r_iload_n (place := 1) dX8_sleep_173 rfl rfl ?_
      refine r_bipush dX8_sleep_174 xb_21 ?_
      refine r_callSI (rest := [.ref (G.1 (xrf a0 0))]) dX8_sleep_176 m_X8_at lk_X8_115 (c_X8_at a1 (21 : Int32) h) (by decide) rfl rfl (Nat.le_of_ble_eq_true rfl) (fun v2 h1 => ?_)
      refine r_aload_n (place := 0) dX8_sleep_179 rfl rfl ?_
      refine r_getR dX8_sleep_180 fg_X8_7 ta0 ?_
      refine r_iconst dX8_sleep_183 xc_0 ?_
      refine r_iald dX8_sleep_184 (xt_7_0 ta0) (fun v3 => ?_)
      refine r_aload_n (place := 0) dX8_sleep_185 rfl rfl ?_
      refine r_iload_n (place := 1) dX8_sleep_186 rfl rfl ?_
      refine r_bipush dX8_sleep_187 xb_20 ?_
      refine r_callVI (rest := [.int v3, .int v2, .ref (G.1 (xrf a0 0))]) dX8_sleep_189 m_X8_of lk_X8_166 rfl (by decide) ta0 (c_X8_of a0 ta0 a1 (20 : Int32) h1) (by decide) rfl rfl (Nat.le_of_ble_eq_true rfl) (fun v5 h4 => ?_)
      refine r_aload_n (place := 0) dX8_sleep_192 rfl rfl ?_
      refine r_iload_n (place := 1) dX8_sleep_193 rfl rfl ?_
      refine r_iconst dX8_sleep_194 xc_1 ?_
      refine r_callVI (rest := [.int v5, .int v3, .int v2, .ref (G.1 (xrf a0 0))]) dX8_sleep_195 m_X8_of lk_X8_166 rfl (by decide) ta0 (c_X8_of a0 ta0 a1 (1 : Int32) h4) (by decide) rfl rfl (Nat.le_of_ble_eq_true rfl) (fun v7 h6 => ?_)
      refine r_callSI (rest := [.int v3, .int v2, .ref (G.1 (xrf a0 0))]) dX8_sleep_198 m_X8_lesser lk_X8_210 (c_X8_lesser v5 v7 h6) (by decide) rfl rfl (Nat.le_of_ble_eq_true rfl) (fun v9 h8 => ?_)
      refine r_iadd dX8_sleep_201 ?_
      refine r_iast dX8_sleep_202 (xt_7_0 ta0) (fun h10 => ?_)
      refine r_aload_n (place := 0) dX8_sleep_203 rfl rfl ?_
      refine r_iload_n (place := 1) dX8_sleep_204 rfl rfl ?_
      refine r_bipush dX8_sleep_205 xb_21 ?_
      refine r_callVI (rest := []) dX8_sleep_207 m_X8_of lk_X8_166 rfl (by decide) ta0 (c_X8_of a0 ta0 a1 (21 : Int32) h10) (by decide) rfl rfl (Nat.le_of_ble_eq_true rfl) (fun v12 h11 => ?_)
      refine r_aload_n (place := 0) dX8_sleep_210 rfl rfl ?_
      refine r_getR dX8_sleep_211 fg_X8_7 ta0 ?_
      refine r_iconst dX8_sleep_214 xc_0 ?_
      refine r_iald dX8_sleep_215 (xt_7_0 ta0) (fun v13 => ?_)
      refine r_ic_ne (tgt := 227) dX8_sleep_216 (by decide) ?_ ?_
      · refine r_iconst dX8_sleep_227 xc_0 ?_
        exact r_sub [0, 1] rfl (t_X8_sleep_228 a0 a1 (0 : Int32) ta0 h11)
      · refine r_aload_n (place := 0) dX8_sleep_219 rfl rfl ?_
        refine r_iload_n (place := 1) dX8_sleep_220 rfl rfl ?_
        refine r_callVI (rest := []) dX8_sleep_221 m_X8_saysWill lk_X8_268 rfl (by decide) ta0 (c_X8_saysWill a0 ta0 a1 h11) (by decide) rfl rfl (Nat.le_of_ble_eq_true rfl) (fun v15 h14 => ?_)
        refine r_goto (tgt := 228) dX8_sleep_224 (by decide) ?_
        exact r_sub [0, 1] rfl (t_X8_sleep_228 a0 a1 v15 ta0 h14)
    · refine r_aload_n (place := 0) dX8_sleep_139 rfl rfl ?_
      refine r_getR dX8_sleep_140 fg_X8_7 ta0 ?_
      refine r_iload_n (place := 1) dX8_sleep_143 rfl rfl ?_
      refine r_bipush dX8_sleep_144 xb_22 ?_
      refine r_iload (place := 2) dX8_sleep_146 rfl ?_
      refine r_iadd dX8_sleep_148 ?_
      refine r_callSI (rest := [.ref (G.1 (xrf a0 0))]) dX8_sleep_149 m_X8_at lk_X8_115 (c_X8_at a1 ((22 : Int32) + a5) h) (by decide) rfl rfl (Nat.le_of_ble_eq_true rfl) (fun v17 h16 => ?_)
      refine r_aload_n (place := 0) dX8_sleep_152 rfl rfl ?_
      refine r_iload_n (place := 1) dX8_sleep_153 rfl rfl ?_
      refine r_bipush dX8_sleep_154 xb_13 ?_
      refine r_iload (place := 2) dX8_sleep_156 rfl ?_
      refine r_iadd dX8_sleep_158 ?_
      refine r_callVI (rest := [.int v17, .ref (G.1 (xrf a0 0))]) dX8_sleep_159 m_X8_of lk_X8_166 rfl (by decide) ta0 (c_X8_of a0 ta0 a1 ((13 : Int32) + a5) h16) (by decide) rfl rfl (Nat.le_of_ble_eq_true rfl) (fun v19 h18 => ?_)
      refine r_iast dX8_sleep_162 (xt_7_0 ta0) (fun h20 => ?_)
      refine r_iincC (place := 2) (ls' := [(5, .int (a5 + (1 : Int32))), (0, .ref (G.1 a0)), (1, .int a1)]) dX8_sleep_163 rfl xc_1 (by decide) rfl ?_
      refine r_goto (tgt := 132) dX8_sleep_166 (by decide) ?_
      exact r_sub [1, 2, 0] rfl (ih a0 a1 (a5 + (1 : Int32)) ta0 h20)
def f_X8_sleep_51  (a0 : Nat) (a1 : Int32) (s0 : Int32) (h : Mem) : Option (Int32 × Mem) :=
  b2 (f_X8_at a1 (0 : Int32) h) fun v2 h1 =>
  ast h1 (xrf a0 0) v2 (2 : Int32) fun h3 =>
  b2 (f_X8_at a1 (2 : Int32) h3) fun v5 h4 =>
  ald h4 (xrf a0 0) (0 : Int32) fun v6 =>
  b2 (f_X8_of a0 a1 (1 : Int32) h4) fun v8 h7 =>
  ast h7 (xrf a0 0) v5 (v6 + v8) fun h9 =>
  b2 (f_X8_at a1 (6 : Int32) h9) fun v11 h10 =>
  ast h10 (xrf a0 0) v11 (0 : Int32) fun h12 =>
  b2 (f_X8_at a1 (7 : Int32) h12) fun v14 h13 =>
  ast h13 (xrf a0 0) v14 (0 : Int32) fun h15 =>
  b2 (f_X8_at a1 (12 : Int32) h15) fun v17 h16 =>
  ast h16 (xrf a0 0) v17 (0 : Int32) fun h18 =>
  if s0 = 0 then
      f_X8_sleep_230 a0 a1 (0 : Int32) h18
  else
      f_X8_sleep_132 xFU a0 a1 (0 : Int32) h18
set_option maxRecDepth 20000 in
theorem t_X8_sleep_51 {G : xG}  (a0 : Nat) (a1 : Int32) (s0 : Int32) (ta0 : xTy a0 7) (h : Mem) : Rn G 9 FX8_sleep xcI 51 [(0, .ref (G.1 a0)), (1, .int a1)] [.int s0] h (f_X8_sleep_51 a0 a1 s0 h) := by
  unfold f_X8_sleep_51
  refine r_istore_n (ls' := [(3, .int s0), (0, .ref (G.1 a0)), (1, .int a1)]) dX8_sleep_51 rfl (by decide) rfl ?_
  refine r_aload_n (place := 1) dX8_sleep_52 rfl rfl ?_
  refine r_getR dX8_sleep_53 fg_X8_7 ta0 ?_
  refine r_iload_n (place := 2) dX8_sleep_56 rfl rfl ?_
  refine r_iconst dX8_sleep_57 xc_0 ?_
  refine r_callSI (rest := [.ref (G.1 (xrf a0 0))]) dX8_sleep_58 m_X8_at lk_X8_115 (c_X8_at a1 (0 : Int32) h) (by decide) rfl rfl (Nat.le_of_ble_eq_true rfl) (fun v2 h1 => ?_)
  refine r_iconst dX8_sleep_61 xc_2 ?_
  refine r_iast dX8_sleep_62 (xt_7_0 ta0) (fun h3 => ?_)
  refine r_aload_n (place := 1) dX8_sleep_63 rfl rfl ?_
  refine r_getR dX8_sleep_64 fg_X8_7 ta0 ?_
  refine r_iload_n (place := 2) dX8_sleep_67 rfl rfl ?_
  refine r_iconst dX8_sleep_68 xc_2 ?_
  refine r_callSI (rest := [.ref (G.1 (xrf a0 0))]) dX8_sleep_69 m_X8_at lk_X8_115 (c_X8_at a1 (2 : Int32) h3) (by decide) rfl rfl (Nat.le_of_ble_eq_true rfl) (fun v5 h4 => ?_)
  refine r_aload_n (place := 1) dX8_sleep_72 rfl rfl ?_
  refine r_getR dX8_sleep_73 fg_X8_7 ta0 ?_
  refine r_iconst dX8_sleep_76 xc_0 ?_
  refine r_iald dX8_sleep_77 (xt_7_0 ta0) (fun v6 => ?_)
  refine r_aload_n (place := 1) dX8_sleep_78 rfl rfl ?_
  refine r_iload_n (place := 2) dX8_sleep_79 rfl rfl ?_
  refine r_iconst dX8_sleep_80 xc_1 ?_
  refine r_callVI (rest := [.int v6, .int v5, .ref (G.1 (xrf a0 0))]) dX8_sleep_81 m_X8_of lk_X8_166 rfl (by decide) ta0 (c_X8_of a0 ta0 a1 (1 : Int32) h4) (by decide) rfl rfl (Nat.le_of_ble_eq_true rfl) (fun v8 h7 => ?_)
  refine r_iadd dX8_sleep_84 ?_
  refine r_iast dX8_sleep_85 (xt_7_0 ta0) (fun h9 => ?_)
  refine r_aload_n (place := 1) dX8_sleep_86 rfl rfl ?_
  refine r_getR dX8_sleep_87 fg_X8_7 ta0 ?_
  refine r_iload_n (place := 2) dX8_sleep_90 rfl rfl ?_
  refine r_bipush dX8_sleep_91 xb_6 ?_
  refine r_callSI (rest := [.ref (G.1 (xrf a0 0))]) dX8_sleep_93 m_X8_at lk_X8_115 (c_X8_at a1 (6 : Int32) h9) (by decide) rfl rfl (Nat.le_of_ble_eq_true rfl) (fun v11 h10 => ?_)
  refine r_iconst dX8_sleep_96 xc_0 ?_
  refine r_iast dX8_sleep_97 (xt_7_0 ta0) (fun h12 => ?_)
  refine r_aload_n (place := 1) dX8_sleep_98 rfl rfl ?_
  refine r_getR dX8_sleep_99 fg_X8_7 ta0 ?_
  refine r_iload_n (place := 2) dX8_sleep_102 rfl rfl ?_
  refine r_bipush dX8_sleep_103 xb_7 ?_
  refine r_callSI (rest := [.ref (G.1 (xrf a0 0))]) dX8_sleep_105 m_X8_at lk_X8_115 (c_X8_at a1 (7 : Int32) h12) (by decide) rfl rfl (Nat.le_of_ble_eq_true rfl) (fun v14 h13 => ?_)
  refine r_iconst dX8_sleep_108 xc_0 ?_
  refine r_iast dX8_sleep_109 (xt_7_0 ta0) (fun h15 => ?_)
  refine r_aload_n (place := 1) dX8_sleep_110 rfl rfl ?_
  refine r_getR dX8_sleep_111 fg_X8_7 ta0 ?_
  refine r_iload_n (place := 2) dX8_sleep_114 rfl rfl ?_
  refine r_bipush dX8_sleep_115 xb_12 ?_
  refine r_callSI (rest := [.ref (G.1 (xrf a0 0))]) dX8_sleep_117 m_X8_at lk_X8_115 (c_X8_at a1 (12 : Int32) h15) (by decide) rfl rfl (Nat.le_of_ble_eq_true rfl) (fun v17 h16 => ?_)
  refine r_iconst dX8_sleep_120 xc_0 ?_
  refine r_iast dX8_sleep_121 (xt_7_0 ta0) (fun h18 => ?_)
  refine r_iconst dX8_sleep_122 xc_0 ?_
  refine r_istore (ls' := [(4, .int (0 : Int32)), (3, .int s0), (0, .ref (G.1 a0)), (1, .int a1)]) dX8_sleep_123 (by decide) rfl ?_
  refine r_iload_n (place := 1) dX8_sleep_125 rfl rfl ?_
  refine r_if_eq (tgt := 230) dX8_sleep_126 (by decide) ?_ ?_
  · exact r_sub [2, 3, 0] rfl (t_X8_sleep_230 a0 a1 (0 : Int32) ta0 h18)
  · refine r_iconst dX8_sleep_129 xc_0 ?_
    refine r_istore (ls' := [(5, .int (0 : Int32)), (4, .int (0 : Int32)), (3, .int s0), (0, .ref (G.1 a0)), (1, .int a1)]) dX8_sleep_130 (by decide) rfl ?_
    exact r_sub [3, 4, 0] rfl (t_X8_sleep_132 xFU a0 a1 (0 : Int32) ta0 h18)
def f_X8_sleep_50  (a0 : Nat) (a1 : Int32) (h : Mem) : Option (Int32 × Mem) :=
  f_X8_sleep_51 a0 a1 (0 : Int32) h
set_option maxRecDepth 20000 in
theorem t_X8_sleep_50 {G : xG}  (a0 : Nat) (a1 : Int32) (ta0 : xTy a0 7) (h : Mem) : Rn G 9 FX8_sleep xcI 50 [(0, .ref (G.1 a0)), (1, .int a1)] [] h (f_X8_sleep_50 a0 a1 h) := by
  unfold f_X8_sleep_50
  refine r_iconst dX8_sleep_50 xc_0 ?_
  exact r_sub [0, 1] rfl (t_X8_sleep_51 a0 a1 (0 : Int32) ta0 h)
def f_X8_sleep (a0 : Nat) (a1 : Int32) (a2 : Int32) (h : Mem) : Option (Int32 × Mem) :=
  b2 (f_X8_isClient a1 h) fun v2 h1 =>
  if v2 = 0 then
      some ((-1 : Int32), h1)
  else
      b2 (f_X8_in a2.toInt64 (0 : Int64) (1 : Int64) h1) fun v4 h3 =>
      if v4 = 0 then
          some ((-1 : Int32), h3)
      else
          b2 (f_X8_isAwake a0 a1 h3) fun v6 h5 =>
          if v6 = 0 then
              some ((-2 : Int32), h5)
          else
              if a2 = (1 : Int32) then
                  b2 (f_X8_of a0 a1 (12 : Int32) h5) fun v8 h7 =>
                  if v8 = (1 : Int32) then
                      f_X8_sleep_51 a0 a1 (1 : Int32) h7
                  else
                      f_X8_sleep_50 a0 a1 h7
              else
                  f_X8_sleep_50 a0 a1 h5
set_option maxRecDepth 20000 in
theorem c_X8_sleep {G : xG} (a0 : Nat) (ta0 : xTy a0 7) (a1 : Int32) (a2 : Int32) (h : Mem) : Sm G 9 yX8_sleep FX8_sleep xcI [.ref (G.1 a0), .int a1, .int a2] h (f_X8_sleep a0 a1 a2 h) := by
  refine Sm.of pn_X8 rfl (Nat.le_of_ble_eq_true rfl) (ls := [(0, .ref (G.1 a0)), (1, .int a1), (2, .int a2)]) rfl ?_
  unfold f_X8_sleep
  refine r_iload_n (place := 1) dX8_sleep_0 rfl rfl ?_
  refine r_callSI (rest := []) dX8_sleep_1 m_X8_isClient lk_X8_249 (c_X8_isClient a1 h) (by decide) rfl rfl (Nat.le_of_ble_eq_true rfl) (fun v2 h1 => ?_)
  refine r_if_eq (tgt := 17) dX8_sleep_4 (by decide) ?_ ?_
  · refine r_iconst dX8_sleep_17 xc_m1 ?_
    exact r_iret dX8_sleep_18 rfl
  · refine r_iload_n (place := 2) dX8_sleep_7 rfl rfl ?_
    refine r_i2l dX8_sleep_8 ?_
    refine r_lconst dX8_sleep_9 xl_0 ?_
    refine r_lconst dX8_sleep_10 xl_1 ?_
    refine r_callSI (rest := []) dX8_sleep_11 m_X8_in lk_X8_59 (c_X8_in a2.toInt64 (0 : Int64) (1 : Int64) h1) (by decide) rfl rfl (Nat.le_of_ble_eq_true rfl) (fun v4 h3 => ?_)
    refine r_if_ne (tgt := 19) dX8_sleep_14 (by decide) ?_ ?_
    · refine r_aload_n (place := 0) dX8_sleep_19 rfl rfl ?_
      refine r_iload_n (place := 1) dX8_sleep_20 rfl rfl ?_
      refine r_callVI (rest := []) dX8_sleep_21 m_X8_isAwake lk_X8_177 rfl (by decide) ta0 (c_X8_isAwake a0 ta0 a1 h3) (by decide) rfl rfl (Nat.le_of_ble_eq_true rfl) (fun v6 h5 => ?_)
      refine r_if_ne (tgt := 30) dX8_sleep_24 (by decide) ?_ ?_
      · refine r_iload_n (place := 2) dX8_sleep_30 rfl rfl ?_
        refine r_iconst dX8_sleep_31 xc_1 ?_
        refine r_ic_ne (tgt := 50) dX8_sleep_32 (by decide) ?_ ?_
        · exact r_sub [0, 1] rfl (t_X8_sleep_50 a0 a1 ta0 h5)
        · refine r_aload_n (place := 0) dX8_sleep_35 rfl rfl ?_
          refine r_iload_n (place := 1) dX8_sleep_36 rfl rfl ?_
          refine r_bipush dX8_sleep_37 xb_12 ?_
          refine r_callVI (rest := []) dX8_sleep_39 m_X8_of lk_X8_166 rfl (by decide) ta0 (c_X8_of a0 ta0 a1 (12 : Int32) h5) (by decide) rfl rfl (Nat.le_of_ble_eq_true rfl) (fun v8 h7 => ?_)
          refine r_iconst dX8_sleep_42 xc_1 ?_
          refine r_ic_ne (tgt := 50) dX8_sleep_43 (by decide) ?_ ?_
          · exact r_sub [0, 1] rfl (t_X8_sleep_50 a0 a1 ta0 h7)
          · refine r_iconst dX8_sleep_46 xc_1 ?_
            refine r_goto (tgt := 51) dX8_sleep_47 (by decide) ?_
            exact r_sub [0, 1] rfl (t_X8_sleep_51 a0 a1 (1 : Int32) ta0 h7)
      · refine r_bipush dX8_sleep_27 xb_m2 ?_
        exact r_iret dX8_sleep_29 rfl
    · refine r_iconst dX8_sleep_17 xc_m1 ?_
      exact r_iret dX8_sleep_18 rfl
def f_X8_will_103  : Nat → Nat → Int32 → Int32 → Int32 → Int32 → Int32 → Int32 → Int32 → Mem → Option (Int32 × Mem)
  | 0, _, _, _, _, _, _, _, _, _ => none
  | n + 1, a0, a2, a3, a4, a5, a6, a7, a8, h =>
    if (4 : Int32) ≤ a8 then
        ast h (xrf a0 0) (a7 + (5 : Int32)) a2 fun h1 =>
        ast h1 (xrf a0 0) (a7 + (6 : Int32)) a3 fun h2 =>
        ast h2 (xrf a0 0) (a7 + (7 : Int32)) a4 fun h3 =>
        ast h3 (xrf a0 0) (a7 + (8 : Int32)) a5 fun h4 =>
        some (a6, h4)
    else
        ald h (xrf a0 4) a8 fun v5 =>
        ast h (xrf a0 0) ((a7 + (1 : Int32)) + a8) v5 fun h6 =>
        (f_X8_will_103 n) a0 a2 a3 a4 a5 a6 a7 (a8 + (1 : Int32)) h6
set_option maxRecDepth 20000 in
theorem t_X8_will_103 {G : xG}  : ∀ (n : Nat) (a0 : Nat) (a2 : Int32) (a3 : Int32) (a4 : Int32) (a5 : Int32) (a6 : Int32) (a7 : Int32) (a8 : Int32) (ta0 : xTy a0 7) (h : Mem), Rn G 3 FX8_will xcI 103 [(0, .ref (G.1 a0)), (2, .int a2), (3, .int a3), (4, .int a4), (5, .int a5), (6, .int a6), (7, .int a7), (8, .int a8)] [] h (f_X8_will_103 n a0 a2 a3 a4 a5 a6 a7 a8 h) := by
  intro n
  induction n with
  | zero => intros; intro r hr; cases hr
  | succ n ih =>
    intro a0 a2 a3 a4 a5 a6 a7 a8 ta0 h
    unfold f_X8_will_103
    refine r_iload (place := 7) dX8_will_103 rfl ?_
    refine r_iconst dX8_will_105 xc_4 ?_
    refine r_ic_ge (tgt := 134) dX8_will_106 (by decide) ?_ ?_
    · refine r_aload_n (place := 0) dX8_will_134 rfl rfl ?_
      refine r_getR dX8_will_135 fg_X8_7 ta0 ?_
      refine r_iload (place := 6) dX8_will_138 rfl ?_
      refine r_iconst dX8_will_140 xc_5 ?_
      refine r_iadd dX8_will_141 ?_
      refine r_iload_n (place := 1) dX8_will_142 rfl rfl ?_
      refine r_iast dX8_will_143 (xt_7_0 ta0) (fun h1 => ?_)
      refine r_aload_n (place := 0) dX8_will_144 rfl rfl ?_
      refine r_getR dX8_will_145 fg_X8_7 ta0 ?_
      refine r_iload (place := 6) dX8_will_148 rfl ?_
      refine r_bipush dX8_will_150 xb_6 ?_
      refine r_iadd dX8_will_152 ?_
      refine r_iload_n (place := 2) dX8_will_153 rfl rfl ?_
      refine r_iast dX8_will_154 (xt_7_0 ta0) (fun h2 => ?_)
      refine r_aload_n (place := 0) dX8_will_155 rfl rfl ?_
      refine r_getR dX8_will_156 fg_X8_7 ta0 ?_
      refine r_iload (place := 6) dX8_will_159 rfl ?_
      refine r_bipush dX8_will_161 xb_7 ?_
      refine r_iadd dX8_will_163 ?_
      refine r_iload (place := 3) dX8_will_164 rfl ?_
      refine r_iast dX8_will_166 (xt_7_0 ta0) (fun h3 => ?_)
      refine r_aload_n (place := 0) dX8_will_167 rfl rfl ?_
      refine r_getR dX8_will_168 fg_X8_7 ta0 ?_
      refine r_iload (place := 6) dX8_will_171 rfl ?_
      refine r_bipush dX8_will_173 xb_8 ?_
      refine r_iadd dX8_will_175 ?_
      refine r_iload (place := 4) dX8_will_176 rfl ?_
      refine r_iast dX8_will_178 (xt_7_0 ta0) (fun h4 => ?_)
      refine r_iload (place := 5) dX8_will_179 rfl ?_
      exact r_iret dX8_will_181 rfl
    · refine r_aload_n (place := 0) dX8_will_109 rfl rfl ?_
      refine r_getR dX8_will_110 fg_X8_7 ta0 ?_
      refine r_iload (place := 6) dX8_will_113 rfl ?_
      refine r_iconst dX8_will_115 xc_1 ?_
      refine r_iadd dX8_will_116 ?_
      refine r_iload (place := 7) dX8_will_117 rfl ?_
      refine r_iadd dX8_will_119 ?_
      refine r_aload_n (place := 0) dX8_will_120 rfl rfl ?_
      refine r_getR dX8_will_121 fg_X8_23 ta0 ?_
      refine r_iload (place := 7) dX8_will_124 rfl ?_
      refine r_iald dX8_will_126 (xt_7_4 ta0) (fun v5 => ?_)
      refine r_iast dX8_will_127 (xt_7_0 ta0) (fun h6 => ?_)
      refine r_iincC (place := 7) (ls' := [(8, .int (a8 + (1 : Int32))), (0, .ref (G.1 a0)), (2, .int a2), (3, .int a3), (4, .int a4), (5, .int a5), (6, .int a6), (7, .int a7)]) dX8_will_128 rfl xc_1 (by decide) rfl ?_
      refine r_goto (tgt := 103) dX8_will_131 (by decide) ?_
      exact r_sub [1, 2, 3, 4, 5, 6, 7, 0] rfl (ih a0 a2 a3 a4 a5 a6 a7 (a8 + (1 : Int32)) ta0 h6)
def f_X8_will (a0 : Nat) (a1 : Int32) (a2 : Int32) (a3 : Int32) (a4 : Int32) (a5 : Int32) (h : Mem) : Option (Int32 × Mem) :=
  b2 (f_X8_isClient a1 h) fun v2 h1 =>
  if v2 = 0 then
      some ((-1 : Int32), h1)
  else
      b2 (f_X8_in a2.toInt64 (0 : Int64) (99 : Int64) h1) fun v4 h3 =>
      if v4 = 0 then
          some ((-1 : Int32), h3)
      else
          b2 (f_X8_in a3.toInt64 (0 : Int64) (2 : Int64) h3) fun v6 h5 =>
          if v6 = 0 then
              some ((-1 : Int32), h5)
          else
              b2 (f_X8_in a4.toInt64 (0 : Int64) (1 : Int64) h5) fun v8 h7 =>
              if v8 = 0 then
                  some ((-1 : Int32), h7)
              else
                  b2 (f_X8_in a5.toInt64 (0 : Int64) (50 : Int64) h7) fun v10 h9 =>
                  if v10 = 0 then
                      some ((-1 : Int32), h9)
                  else
                      b2 (f_X8_isAwake a0 a1 h9) fun v12 h11 =>
                      if v12 = 0 then
                          some ((-2 : Int32), h11)
                      else
                          b2 (f_X8_isTopic a0 h11) fun v14 h13 =>
                          if v14 = 0 then
                              some ((-2 : Int32), h13)
                          else
                              b2 (f_X8_of a0 a1 (12 : Int32) h13) fun v16 h15 =>
                              b2 (f_X8_at a1 (12 : Int32) h15) fun v18 h17 =>
                              ast h17 (xrf a0 0) v18 (1 : Int32) fun h19 =>
                              f_X8_will_103 xFU a0 a2 a3 a4 a5 v16 v18 (0 : Int32) h19
set_option maxRecDepth 20000 in
theorem c_X8_will {G : xG} (a0 : Nat) (ta0 : xTy a0 7) (a1 : Int32) (a2 : Int32) (a3 : Int32) (a4 : Int32) (a5 : Int32) (h : Mem) : Sm G 3 yX8_will FX8_will xcI [.ref (G.1 a0), .int a1, .int a2, .int a3, .int a4, .int a5] h (f_X8_will a0 a1 a2 a3 a4 a5 h) := by
  refine Sm.of pn_X8 rfl (Nat.le_of_ble_eq_true rfl) (ls := [(0, .ref (G.1 a0)), (1, .int a1), (2, .int a2), (3, .int a3), (4, .int a4), (5, .int a5)]) rfl ?_
  unfold f_X8_will
  refine r_iload_n (place := 1) dX8_will_0 rfl rfl ?_
  refine r_callSI (rest := []) dX8_will_1 m_X8_isClient lk_X8_249 (c_X8_isClient a1 h) (by decide) rfl rfl (Nat.le_of_ble_eq_true rfl) (fun v2 h1 => ?_)
  refine r_if_eq (tgt := 55) dX8_will_4 (by decide) ?_ ?_
  · refine r_iconst dX8_will_55 xc_m1 ?_
    exact r_iret dX8_will_56 rfl
  · refine r_iload_n (place := 2) dX8_will_7 rfl rfl ?_
    refine r_i2l dX8_will_8 ?_
    refine r_lconst dX8_will_9 xl_0 ?_
    refine r_ldc2 dX8_will_10 ll_X8_252 ?_
    refine r_callSI (rest := []) dX8_will_13 m_X8_in lk_X8_59 (c_X8_in a2.toInt64 (0 : Int64) (99 : Int64) h1) (by decide) rfl rfl (Nat.le_of_ble_eq_true rfl) (fun v4 h3 => ?_)
    refine r_if_eq (tgt := 55) dX8_will_16 (by decide) ?_ ?_
    · refine r_iconst dX8_will_55 xc_m1 ?_
      exact r_iret dX8_will_56 rfl
    · refine r_iload_n (place := 3) dX8_will_19 rfl rfl ?_
      refine r_i2l dX8_will_20 ?_
      refine r_lconst dX8_will_21 xl_0 ?_
      refine r_ldc2 dX8_will_22 ll_X8_271 ?_
      refine r_callSI (rest := []) dX8_will_25 m_X8_in lk_X8_59 (c_X8_in a3.toInt64 (0 : Int64) (2 : Int64) h3) (by decide) rfl rfl (Nat.le_of_ble_eq_true rfl) (fun v6 h5 => ?_)
      refine r_if_eq (tgt := 55) dX8_will_28 (by decide) ?_ ?_
      · refine r_iconst dX8_will_55 xc_m1 ?_
        exact r_iret dX8_will_56 rfl
      · refine r_iload (place := 4) dX8_will_31 rfl ?_
        refine r_i2l dX8_will_33 ?_
        refine r_lconst dX8_will_34 xl_0 ?_
        refine r_lconst dX8_will_35 xl_1 ?_
        refine r_callSI (rest := []) dX8_will_36 m_X8_in lk_X8_59 (c_X8_in a4.toInt64 (0 : Int64) (1 : Int64) h5) (by decide) rfl rfl (Nat.le_of_ble_eq_true rfl) (fun v8 h7 => ?_)
        refine r_if_eq (tgt := 55) dX8_will_39 (by decide) ?_ ?_
        · refine r_iconst dX8_will_55 xc_m1 ?_
          exact r_iret dX8_will_56 rfl
        · refine r_iload (place := 5) dX8_will_42 rfl ?_
          refine r_i2l dX8_will_44 ?_
          refine r_lconst dX8_will_45 xl_0 ?_
          refine r_ldc2 dX8_will_46 ll_X8_273 ?_
          refine r_callSI (rest := []) dX8_will_49 m_X8_in lk_X8_59 (c_X8_in a5.toInt64 (0 : Int64) (50 : Int64) h7) (by decide) rfl rfl (Nat.le_of_ble_eq_true rfl) (fun v10 h9 => ?_)
          refine r_if_ne (tgt := 57) dX8_will_52 (by decide) ?_ ?_
          · refine r_aload_n (place := 0) dX8_will_57 rfl rfl ?_
            refine r_iload_n (place := 1) dX8_will_58 rfl rfl ?_
            refine r_callVI (rest := []) dX8_will_59 m_X8_isAwake lk_X8_177 rfl (by decide) ta0 (c_X8_isAwake a0 ta0 a1 h9) (by decide) rfl rfl (Nat.le_of_ble_eq_true rfl) (fun v12 h11 => ?_)
            refine r_if_eq (tgt := 72) dX8_will_62 (by decide) ?_ ?_
            · refine r_bipush dX8_will_72 xb_m2 ?_
              exact r_iret dX8_will_74 rfl
            · refine r_aload_n (place := 0) dX8_will_65 rfl rfl ?_
              refine r_callVI (rest := []) dX8_will_66 m_X8_isTopic lk_X8_275 rfl (by decide) ta0 (c_X8_isTopic a0 ta0 h11) (by decide) rfl rfl (Nat.le_of_ble_eq_true rfl) (fun v14 h13 => ?_)
              refine r_if_ne (tgt := 75) dX8_will_69 (by decide) ?_ ?_
              · refine r_aload_n (place := 0) dX8_will_75 rfl rfl ?_
                refine r_iload_n (place := 1) dX8_will_76 rfl rfl ?_
                refine r_bipush dX8_will_77 xb_12 ?_
                refine r_callVI (rest := []) dX8_will_79 m_X8_of lk_X8_166 rfl (by decide) ta0 (c_X8_of a0 ta0 a1 (12 : Int32) h13) (by decide) rfl rfl (Nat.le_of_ble_eq_true rfl) (fun v16 h15 => ?_)
                refine r_istore (ls' := [(6, .int v16), (0, .ref (G.1 a0)), (1, .int a1), (2, .int a2), (3, .int a3), (4, .int a4), (5, .int a5)]) dX8_will_82 (by decide) rfl ?_
                refine r_iload_n (place := 2) dX8_will_84 rfl rfl ?_
                refine r_bipush dX8_will_85 xb_12 ?_
                refine r_callSI (rest := []) dX8_will_87 m_X8_at lk_X8_115 (c_X8_at a1 (12 : Int32) h15) (by decide) rfl rfl (Nat.le_of_ble_eq_true rfl) (fun v18 h17 => ?_)
                refine r_istore (ls' := [(7, .int v18), (6, .int v16), (0, .ref (G.1 a0)), (1, .int a1), (2, .int a2), (3, .int a3), (4, .int a4), (5, .int a5)]) dX8_will_90 (by decide) rfl ?_
                refine r_aload_n (place := 2) dX8_will_92 rfl rfl ?_
                refine r_getR dX8_will_93 fg_X8_7 ta0 ?_
                refine r_iload (place := 0) dX8_will_96 rfl ?_
                refine r_iconst dX8_will_98 xc_1 ?_
                refine r_iast dX8_will_99 (xt_7_0 ta0) (fun h19 => ?_)
                refine r_iconst dX8_will_100 xc_0 ?_
                refine r_istore (ls' := [(8, .int (0 : Int32)), (7, .int v18), (6, .int v16), (0, .ref (G.1 a0)), (1, .int a1), (2, .int a2), (3, .int a3), (4, .int a4), (5, .int a5)]) dX8_will_101 (by decide) rfl ?_
                exact r_sub [3, 5, 6, 7, 8, 2, 1, 0] rfl (t_X8_will_103 xFU a0 a2 a3 a4 a5 v16 v18 (0 : Int32) ta0 h19)
              · refine r_bipush dX8_will_72 xb_m2 ?_
                exact r_iret dX8_will_74 rfl
          · refine r_iconst dX8_will_55 xc_m1 ?_
            exact r_iret dX8_will_56 rfl
