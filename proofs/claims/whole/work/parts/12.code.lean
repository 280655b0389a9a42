def f_X7_client (a0 : Nat) (a1 : Int32) (a2 : Int32) (h : Mem) : Option (Int32 × Mem) :=
  b2 (f_X7_noClient a1 h) fun v2 h1 =>
  if v2 = 0 then
      b2 (f_X7_outside a2 (0 : Int32) (12 : Int32) h1) fun v4 h3 =>
      if v4 = 0 then
          aald (xrf (xrf a0 2) 0) a1 fun q5 =>
          if a2 = (0 : Int32) then
              some ((h3 q5 8), h3)
          else
          if a2 = (11 : Int32) then
              b2 (f_X5_dueClock (xrf q5 7) h3) fun v7 h6 =>
              some (v7, h6)
          else
          if a2 = (12 : Int32) then
              some ((h3 q5 15), h3)
          else
          if (h3 q5 8) = 0 then
              some ((-4 : Int32), h3)
          else
              b2 (f_X0_sessionFact q5 a2 h3) fun v9 h8 =>
              some (v9, h8)
      else
          some ((-1 : Int32), h3)
  else
      some ((-1 : Int32), h1)
set_option maxRecDepth 20000 in
theorem c_X7_client {G : xG} (a0 : Nat) (ta0 : xTy a0 6) (a1 : Int32) (a2 : Int32) (h : Mem) : Sm G 3 yX7_client FX7_client xcI [.ref (G.1 a0), .int a1, .int a2] h (f_X7_client a0 a1 a2 h) := by
  refine Sm.of pn_X7 rfl (Nat.le_of_ble_eq_true rfl) (ls := [(0, .ref (G.1 a0)), (1, .int a1), (2, .int a2)]) rfl ?_
  unfold f_X7_client
  refine r_iload_n (place := 1) dX7_client_0 rfl rfl ?_
  refine r_callSI (rest := []) dX7_client_1 m_X7_noClient lk_X7_81 (c_X7_noClient a1 h) (by decide) rfl rfl (Nat.le_of_ble_eq_true rfl) (fun v2 h1 => ?_)
  refine r_if_ne (tgt := 17) dX7_client_4 (by decide) ?_ ?_
  · refine r_iconst dX7_client_17 xc_m1 ?_
    exact r_iret dX7_client_18 rfl
  · refine r_iload_n (place := 2) dX7_client_7 rfl rfl ?_
    refine r_iconst dX7_client_8 xc_0 ?_
    refine r_bipush dX7_client_9 xb_12 ?_
    refine r_callSI (rest := []) dX7_client_11 m_X7_outside lk_X7_45 (c_X7_outside a2 (0 : Int32) (12 : Int32) h1) (by decide) rfl rfl (Nat.le_of_ble_eq_true rfl) (fun v4 h3 => ?_)
    refine r_if_eq (tgt := 19) dX7_client_14 (by decide) ?_ ?_
    · refine r_aload_n (place := 0) dX7_client_19 rfl rfl ?_
      refine r_getR dX7_client_20 fg_X7_24 ta0 ?_
      refine r_getR dX7_client_23 fg_X7_87 (xt_6_2 ta0) ?_
      refine r_iload_n (place := 1) dX7_client_26 rfl rfl ?_
      refine r_aald10 dX7_client_27 (xt_5_0 (xt_6_2 ta0)) (fun q5 tq5 => ?_)
      refine r_astore_n (ls' := [(3, .ref (G.1 q5)), (0, .ref (G.1 a0)), (1, .int a1), (2, .int a2)]) dX7_client_28 rfl (by decide) rfl ?_
      refine r_iload_n (place := 3) dX7_client_29 rfl rfl ?_
      refine r_lokI (tgt := 64) (off := 34) (0 : Int32) dX7_client_30 (by decide +kernel) (by decide +kernel) (by decide) ?_ (fun n30_0 => ?_)
      · refine r_aload_n (place := 0) dX7_client_64 rfl rfl ?_
        refine r_getI dX7_client_65 fg_X7_189 tq5 ?_
        exact r_iret dX7_client_68 rfl
      refine r_lokI (tgt := 69) (off := 39) (11 : Int32) dX7_client_30 (by decide +kernel) (by decide +kernel) (by decide) ?_ (fun n30_11 => ?_)
      · refine r_aload_n (place := 0) dX7_client_69 rfl rfl ?_
        refine r_getR dX7_client_70 fg_X7_105 tq5 ?_
        refine r_callVI (rest := []) dX7_client_73 m_X5_dueClock lk_X7_192 rfl (by decide) (xt_0_7 tq5) (c_X5_dueClock (xrf q5 7) (xt_0_7 tq5) h3) (by decide) rfl rfl (Nat.le_of_ble_eq_true rfl) (fun v7 h6 => ?_)
        exact r_iret dX7_client_76 rfl
      refine r_lokI (tgt := 77) (off := 47) (12 : Int32) dX7_client_30 (by decide +kernel) (by decide +kernel) (by decide) ?_ (fun n30_12 => ?_)
      · refine r_aload_n (place := 0) dX7_client_77 rfl rfl ?_
        refine r_getI dX7_client_78 fg_X7_195 tq5 ?_
        exact r_iret dX7_client_81 rfl
      refine r_lokD (tgt := 82) dX7_client_30 (by decide +kernel) (by rw [lv_osw n30_0 (by decide +kernel)]; rw [lv_osw n30_11 (by decide +kernel)]; rw [lv_osw n30_12 (by decide +kernel)]; rfl) (by decide) ?_
      refine r_aload_n (place := 0) dX7_client_82 rfl rfl ?_
      refine r_getI dX7_client_83 fg_X7_189 tq5 ?_
      refine r_if_ne (tgt := 94) dX7_client_86 (by decide) ?_ ?_
      · refine r_aload_n (place := 0) dX7_client_94 rfl rfl ?_
        refine r_iload_n (place := 3) dX7_client_95 rfl rfl ?_
        refine r_callVI (rest := []) dX7_client_96 m_X0_sessionFact lk_X7_198 rfl (by decide) tq5 (c_X0_sessionFact q5 tq5 a2 h3) (by decide) rfl rfl (Nat.le_of_ble_eq_true rfl) (fun v9 h8 => ?_)
        exact r_iret dX7_client_99 rfl
      · refine r_bipush dX7_client_89 xb_m4 ?_
        refine r_goto (tgt := 99) dX7_client_91 (by decide) ?_
        exact r_iret dX7_client_99 rfl
    · refine r_iconst dX7_client_17 xc_m1 ?_
      exact r_iret dX7_client_18 rfl
def f_X7_pathFact (a0 : Int32) (a1 : Int32) (h : Mem) : Option (Int32 × Mem) :=
  if a1 = 0 then
      b2 (f_X1_count a0 h) fun v4 h3 =>
      some (v4, h3)
  else
      b2 (f_X1_levelAt a0 (a1 - (4 : Int32)) h) fun v2 h1 =>
      some (v2, h1)
set_option maxRecDepth 20000 in
theorem c_X7_pathFact {G : xG} (a0 : Int32) (a1 : Int32) (h : Mem) : Sm G 3 yX7_pathFact FX7_pathFact xcI [.int a0, .int a1] h (f_X7_pathFact a0 a1 h) := by
  refine Sm.of pn_X7 rfl (Nat.le_of_ble_eq_true rfl) (ls := [(0, .int a0), (1, .int a1)]) rfl ?_
  unfold f_X7_pathFact
  refine r_iload_n (place := 1) dX7_pathFact_0 rfl rfl ?_
  refine r_if_ne (tgt := 11) dX7_pathFact_1 (by decide) ?_ ?_
  · refine r_iload_n (place := 0) dX7_pathFact_11 rfl rfl ?_
    refine r_iload_n (place := 1) dX7_pathFact_12 rfl rfl ?_
    refine r_iconst dX7_pathFact_13 xc_4 ?_
    refine r_isub dX7_pathFact_14 ?_
    refine r_callSI (rest := []) dX7_pathFact_15 m_X1_levelAt lk_X7_224 (c_X1_levelAt a0 (a1 - (4 : Int32)) h) (by decide) rfl rfl (Nat.le_of_ble_eq_true rfl) (fun v2 h1 => ?_)
    exact r_iret dX7_pathFact_18 rfl
  · refine r_iload_n (place := 0) dX7_pathFact_4 rfl rfl ?_
    refine r_callSI (rest := []) dX7_pathFact_5 m_X1_count lk_X7_73 (c_X1_count a0 h) (by decide) rfl rfl (Nat.le_of_ble_eq_true rfl) (fun v4 h3 => ?_)
    refine r_goto (tgt := 18) dX7_pathFact_8 (by decide) ?_
    exact r_iret dX7_pathFact_18 rfl
def f_X7_subscription_100  (a3 : Int32) (a5 : Int32) (h : Mem) : Option (Int32 × Mem) :=
  b2 (f_X7_pathFact a5 a3 h) fun v2 h1 =>
  some (v2, h1)
set_option maxRecDepth 20000 in
theorem t_X7_subscription_100 {G : xG}  (a3 : Int32) (a5 : Int32)  (h : Mem) : Rn G 4 FX7_subscription xcI 100 [(3, .int a3), (5, .int a5)] [] h (f_X7_subscription_100 a3 a5 h) := by
  unfold f_X7_subscription_100
  refine r_iload (place := 1) dX7_subscription_100 rfl ?_
  refine r_iload_n (place := 0) dX7_subscription_102 rfl rfl ?_
  refine r_callSI (rest := []) dX7_subscription_103 m_X7_pathFact lk_X7_209 (c_X7_pathFact a5 a3 h) (by decide) rfl rfl (Nat.le_of_ble_eq_true rfl) (fun v2 h1 => ?_)
  refine r_goto (tgt := 116) dX7_subscription_106 (by decide) ?_
  exact r_iret dX7_subscription_116 rfl
def f_X7_subscription (a0 : Nat) (a1 : Int32) (a2 : Int32) (a3 : Int32) (h : Mem) : Option (Int32 × Mem) :=
  b2 (f_X7_noClient a1 h) fun v2 h1 =>
  if v2 = 0 then
      if a2 < 0 then
          some ((-1 : Int32), h1)
      else
          b2 (f_X7_outside a3 (0 : Int32) (7 : Int32) h1) fun v4 h3 =>
          if v4 = 0 then
              aald (xrf (xrf a0 2) 0) a1 fun q5 =>
              if a2 < (h3 (xrf q5 0) 3) then
                  b2 (f_X3_cell (xrf q5 0) a2 (0 : Int32) h3) fun v7 h6 =>
                  if a3 = (3 : Int32) then
                      b2 (f_X1_isTopic (h6 a0 5) h6) fun v11 h10 =>
                      if v11 = 0 then
                          some ((-4 : Int32), h10)
                      else
                          b2 (f_X1_matches v7 (h10 a0 5) h10) fun v13 h12 =>
                          b2 (f_X7_flag v13 h12) fun v15 h14 =>
                          some (v15, h14)
                  else
                      if a3 = 0 then
                          f_X7_subscription_100 a3 v7 h6
                      else
                          if a3 ≤ (3 : Int32) then
                              b2 (f_X3_cell (xrf q5 0) a2 a3 h6) fun v9 h8 =>
                              some (v9, h8)
                          else
                              f_X7_subscription_100 a3 v7 h6
              else
                  some ((-4 : Int32), h3)
          else
              some ((-1 : Int32), h3)
  else
      some ((-1 : Int32), h1)
set_option maxRecDepth 20000 in
theorem c_X7_subscription {G : xG} (a0 : Nat) (ta0 : xTy a0 6) (a1 : Int32) (a2 : Int32) (a3 : Int32) (h : Mem) : Sm G 4 yX7_subscription FX7_subscription xcI [.ref (G.1 a0), .int a1, .int a2, .int a3] h (f_X7_subscription a0 a1 a2 a3 h) := by
  refine Sm.of pn_X7 rfl (Nat.le_of_ble_eq_true rfl) (ls := [(0, .ref (G.1 a0)), (1, .int a1), (2, .int a2), (3, .int a3)]) rfl ?_
  unfold f_X7_subscription
  refine r_iload_n (place := 1) dX7_subscription_0 rfl rfl ?_
  refine r_callSI (rest := []) dX7_subscription_1 m_X7_noClient lk_X7_81 (c_X7_noClient a1 h) (by decide) rfl rfl (Nat.le_of_ble_eq_true rfl) (fun v2 h1 => ?_)
  refine r_if_ne (tgt := 21) dX7_subscription_4 (by decide) ?_ ?_
  · refine r_iconst dX7_subscription_21 xc_m1 ?_
    exact r_iret dX7_subscription_22 rfl
  · refine r_iload_n (place := 2) dX7_subscription_7 rfl rfl ?_
    refine r_if_lt (tgt := 21) dX7_subscription_8 (by decide) ?_ ?_
    · refine r_iconst dX7_subscription_21 xc_m1 ?_
      exact r_iret dX7_subscription_22 rfl
    · refine r_iload_n (place := 3) dX7_subscription_11 rfl rfl ?_
      refine r_iconst dX7_subscription_12 xc_0 ?_
      refine r_bipush dX7_subscription_13 xb_7 ?_
      refine r_callSI (rest := []) dX7_subscription_15 m_X7_outside lk_X7_45 (c_X7_outside a3 (0 : Int32) (7 : Int32) h1) (by decide) rfl rfl (Nat.le_of_ble_eq_true rfl) (fun v4 h3 => ?_)
      refine r_if_eq (tgt := 23) dX7_subscription_18 (by decide) ?_ ?_
      · refine r_aload_n (place := 0) dX7_subscription_23 rfl rfl ?_
        refine r_getR dX7_subscription_24 fg_X7_24 ta0 ?_
        refine r_getR dX7_subscription_27 fg_X7_87 (xt_6_2 ta0) ?_
        refine r_iload_n (place := 1) dX7_subscription_30 rfl rfl ?_
        refine r_aald10 dX7_subscription_31 (xt_5_0 (xt_6_2 ta0)) (fun q5 tq5 => ?_)
        refine r_getR dX7_subscription_32 fg_X7_131 tq5 ?_
        refine r_astore (ls' := [(4, .ref (G.1 (xrf q5 0))), (0, .ref (G.1 a0)), (1, .int a1), (2, .int a2), (3, .int a3)]) dX7_subscription_35 (by decide) rfl ?_
        refine r_iload_n (place := 3) dX7_subscription_37 rfl rfl ?_
        refine r_aload (place := 0) dX7_subscription_38 rfl ?_
        refine r_getI dX7_subscription_40 fg_X7_144 (xt_0_0 tq5) ?_
        refine r_ic_lt (tgt := 49) dX7_subscription_43 (by decide) ?_ ?_
        · refine r_aload (place := 0) dX7_subscription_49 rfl ?_
          refine r_iload_n (place := 3) dX7_subscription_51 rfl rfl ?_
          refine r_iconst dX7_subscription_52 xc_0 ?_
          refine r_callVI (rest := []) dX7_subscription_53 m_X3_cell lk_X7_159 rfl (by decide) (xt_0_0 tq5) (c_X3_cell (xrf q5 0) (xt_0_0 tq5) a2 (0 : Int32) h3) (by decide) rfl rfl (Nat.le_of_ble_eq_true rfl) (fun v7 h6 => ?_)
          refine r_istore (ls' := [(5, .int v7), (4, .ref (G.1 (xrf q5 0))), (0, .ref (G.1 a0)), (1, .int a1), (2, .int a2), (3, .int a3)]) dX7_subscription_56 (by decide) rfl ?_
          refine r_iload_n (place := 5) dX7_subscription_58 rfl rfl ?_
          refine r_iconst dX7_subscription_59 xc_3 ?_
          refine r_ic_ne (tgt := 91) dX7_subscription_60 (by decide) ?_ ?_
          · refine r_iload_n (place := 5) dX7_subscription_91 rfl rfl ?_
            refine r_if_eq (tgt := 100) dX7_subscription_92 (by decide) ?_ ?_
            · exact r_sub [5, 0] rfl (t_X7_subscription_100 a3 v7 h6)
            · refine r_iload_n (place := 5) dX7_subscription_95 rfl rfl ?_
              refine r_iconst dX7_subscription_96 xc_3 ?_
              refine r_ic_le (tgt := 109) dX7_subscription_97 (by decide) ?_ ?_
              · refine r_aload (place := 1) dX7_subscription_109 rfl ?_
                refine r_iload_n (place := 4) dX7_subscription_111 rfl rfl ?_
                refine r_iload_n (place := 5) dX7_subscription_112 rfl rfl ?_
                refine r_callVI (rest := []) dX7_subscription_113 m_X3_cell lk_X7_159 rfl (by decide) (xt_0_0 tq5) (c_X3_cell (xrf q5 0) (xt_0_0 tq5) a2 a3 h6) (by decide) rfl rfl (Nat.le_of_ble_eq_true rfl) (fun v9 h8 => ?_)
                exact r_iret dX7_subscription_116 rfl
              · exact r_sub [5, 0] rfl (t_X7_subscription_100 a3 v7 h6)
          · refine r_aload_n (place := 2) dX7_subscription_63 rfl rfl ?_
            refine r_getI dX7_subscription_64 fg_X7_38 ta0 ?_
            refine r_callSI (rest := []) dX7_subscription_67 m_X1_isTopic lk_X7_102 (c_X1_isTopic (h6 a0 5) h6) (by decide) rfl rfl (Nat.le_of_ble_eq_true rfl) (fun v11 h10 => ?_)
            refine r_if_eq (tgt := 88) dX7_subscription_70 (by decide) ?_ ?_
            · refine r_bipush dX7_subscription_88 xb_m4 ?_
              exact r_iret dX7_subscription_90 rfl
            · refine r_iload (place := 0) dX7_subscription_73 rfl ?_
              refine r_aload_n (place := 2) dX7_subscription_75 rfl rfl ?_
              refine r_getI dX7_subscription_76 fg_X7_38 ta0 ?_
              refine r_callSI (rest := []) dX7_subscription_79 m_X1_matches lk_X7_201 (c_X1_matches v7 (h10 a0 5) h10) (by decide) rfl rfl (Nat.le_of_ble_eq_true rfl) (fun v13 h12 => ?_)
              refine r_callSI (rest := []) dX7_subscription_82 m_X7_flag lk_X7_205 (c_X7_flag v13 h12) (by decide) rfl rfl (Nat.le_of_ble_eq_true rfl) (fun v15 h14 => ?_)
              refine r_goto (tgt := 90) dX7_subscription_85 (by decide) ?_
              exact r_iret dX7_subscription_90 rfl
        · refine r_bipush dX7_subscription_46 xb_m4 ?_
          exact r_iret dX7_subscription_48 rfl
      · refine r_iconst dX7_subscription_21 xc_m1 ?_
        exact r_iret dX7_subscription_22 rfl
def f_X7_kept_55  (a2 : Int32) (a3 : Int32) (h : Mem) : Option (Int32 × Mem) :=
  b2 (f_X7_pathFact a3 a2 h) fun v2 h1 =>
  some (v2, h1)
set_option maxRecDepth 20000 in
theorem t_X7_kept_55 {G : xG}  (a2 : Int32) (a3 : Int32)  (h : Mem) : Rn G 4 FX7_kept xcI 55 [(2, .int a2), (3, .int a3)] [] h (f_X7_kept_55 a2 a3 h) := by
  unfold f_X7_kept_55
  refine r_iload_n (place := 1) dX7_kept_55 rfl rfl ?_
  refine r_iload_n (place := 0) dX7_kept_56 rfl rfl ?_
  refine r_callSI (rest := []) dX7_kept_57 m_X7_pathFact lk_X7_209 (c_X7_pathFact a3 a2 h) (by decide) rfl rfl (Nat.le_of_ble_eq_true rfl) (fun v2 h1 => ?_)
  refine r_goto (tgt := 75) dX7_kept_60 (by decide) ?_
  exact r_iret dX7_kept_75 rfl
def f_X7_kept (a0 : Nat) (a1 : Int32) (a2 : Int32) (h : Mem) : Option (Int32 × Mem) :=
  if a1 < 0 then
      some ((-1 : Int32), h)
  else
      b2 (f_X7_outside a2 (0 : Int32) (7 : Int32) h) fun v2 h1 =>
      if v2 = 0 then
          if a1 < (h1 (xrf (xrf a0 2) 1) 3) then
              b2 (f_X3_cell (xrf (xrf a0 2) 1) a1 (0 : Int32) h1) fun v4 h3 =>
              if a2 = 0 then
                  f_X7_kept_55 a2 v4 h3
              else
                  if a2 ≤ (3 : Int32) then
                      b2 (f_X3_cell (xrf (xrf a0 2) 1) a1 a2 h3) fun v6 h5 =>
                      some (v6, h5)
                  else
                      f_X7_kept_55 a2 v4 h3
          else
              some ((-4 : Int32), h1)
      else
          some ((-1 : Int32), h1)
set_option maxRecDepth 20000 in
theorem c_X7_kept {G : xG} (a0 : Nat) (ta0 : xTy a0 6) (a1 : Int32) (a2 : Int32) (h : Mem) : Sm G 4 yX7_kept FX7_kept xcI [.ref (G.1 a0), .int a1, .int a2] h (f_X7_kept a0 a1 a2 h) := by
  refine Sm.of pn_X7 rfl (Nat.le_of_ble_eq_true rfl) (ls := [(0, .ref (G.1 a0)), (1, .int a1), (2, .int a2)]) rfl ?_
  unfold f_X7_kept
  refine r_iload_n (place := 1) dX7_kept_0 rfl rfl ?_
  refine r_if_lt (tgt := 14) dX7_kept_1 (by decide) ?_ ?_
  · refine r_iconst dX7_kept_14 xc_m1 ?_
    exact r_iret dX7_kept_15 rfl
  · refine r_iload_n (place := 2) dX7_kept_4 rfl rfl ?_
    refine r_iconst dX7_kept_5 xc_0 ?_
    refine r_bipush dX7_kept_6 xb_7 ?_
    refine r_callSI (rest := []) dX7_kept_8 m_X7_outside lk_X7_45 (c_X7_outside a2 (0 : Int32) (7 : Int32) h) (by decide) rfl rfl (Nat.le_of_ble_eq_true rfl) (fun v2 h1 => ?_)
    refine r_if_eq (tgt := 16) dX7_kept_11 (by decide) ?_ ?_
    · refine r_iload_n (place := 1) dX7_kept_16 rfl rfl ?_
      refine r_aload_n (place := 0) dX7_kept_17 rfl rfl ?_
      refine r_getR dX7_kept_18 fg_X7_24 ta0 ?_
      refine r_getR dX7_kept_21 fg_X7_180 (xt_6_2 ta0) ?_
      refine r_getI dX7_kept_24 fg_X7_144 (xt_5_1 (xt_6_2 ta0)) ?_
      refine r_ic_lt (tgt := 33) dX7_kept_27 (by decide) ?_ ?_
      · refine r_aload_n (place := 0) dX7_kept_33 rfl rfl ?_
        refine r_getR dX7_kept_34 fg_X7_24 ta0 ?_
        refine r_getR dX7_kept_37 fg_X7_180 (xt_6_2 ta0) ?_
        refine r_iload_n (place := 1) dX7_kept_40 rfl rfl ?_
        refine r_iconst dX7_kept_41 xc_0 ?_
        refine r_callVI (rest := []) dX7_kept_42 m_X3_cell lk_X7_159 rfl (by decide) (xt_5_1 (xt_6_2 ta0)) (c_X3_cell (xrf (xrf a0 2) 1) (xt_5_1 (xt_6_2 ta0)) a1 (0 : Int32) h1) (by decide) rfl rfl (Nat.le_of_ble_eq_true rfl) (fun v4 h3 => ?_)
        refine r_istore_n (ls' := [(3, .int v4), (0, .ref (G.1 a0)), (1, .int a1), (2, .int a2)]) dX7_kept_45 rfl (by decide) rfl ?_
        refine r_iload_n (place := 3) dX7_kept_46 rfl rfl ?_
        refine r_if_eq (tgt := 55) dX7_kept_47 (by decide) ?_ ?_
        · exact r_sub [3, 0] rfl (t_X7_kept_55 a2 v4 h3)
        · refine r_iload_n (place := 3) dX7_kept_50 rfl rfl ?_
          refine r_iconst dX7_kept_51 xc_3 ?_
          refine r_ic_le (tgt := 63) dX7_kept_52 (by decide) ?_ ?_
          · refine r_aload_n (place := 1) dX7_kept_63 rfl rfl ?_
            refine r_getR dX7_kept_64 fg_X7_24 ta0 ?_
            refine r_getR dX7_kept_67 fg_X7_180 (xt_6_2 ta0) ?_
            refine r_iload_n (place := 2) dX7_kept_70 rfl rfl ?_
            refine r_iload_n (place := 3) dX7_kept_71 rfl rfl ?_
            refine r_callVI (rest := []) dX7_kept_72 m_X3_cell lk_X7_159 rfl (by decide) (xt_5_1 (xt_6_2 ta0)) (c_X3_cell (xrf (xrf a0 2) 1) (xt_5_1 (xt_6_2 ta0)) a1 a2 h3) (by decide) rfl rfl (Nat.le_of_ble_eq_true rfl) (fun v6 h5 => ?_)
            exact r_iret dX7_kept_75 rfl
          · exact r_sub [3, 0] rfl (t_X7_kept_55 a2 v4 h3)
      · refine r_bipush dX7_kept_30 xb_m4 ?_
        exact r_iret dX7_kept_32 rfl
    · refine r_iconst dX7_kept_14 xc_m1 ?_
      exact r_iret dX7_kept_15 rfl
def f_X7_had (a0 : Nat) (a1 : Int32) (h : Mem) : Option (Int32 × Mem) :=
  b2 (f_X7_outside a1 (1 : Int32) (3 : Int32) h) fun v2 h1 =>
  if v2 = 0 then
      b2 (f_X1_shareKey a1 (h1 a0 5) h1) fun v4 h3 =>
      b2 (f_X6_latestOf (xrf a0 2) v4 h3) fun v6 h5 =>
      some (v6, h5)
  else
      some ((-1 : Int32), h1)
set_option maxRecDepth 20000 in
theorem c_X7_had {G : xG} (a0 : Nat) (ta0 : xTy a0 6) (a1 : Int32) (h : Mem) : Sm G 2 yX7_had FX7_had xcI [.ref (G.1 a0), .int a1] h (f_X7_had a0 a1 h) := by
  refine Sm.of pn_X7 rfl (Nat.le_of_ble_eq_true rfl) (ls := [(0, .ref (G.1 a0)), (1, .int a1)]) rfl ?_
  unfold f_X7_had
  refine r_iload_n (place := 1) dX7_had_0 rfl rfl ?_
  refine r_iconst dX7_had_1 xc_1 ?_
  refine r_iconst dX7_had_2 xc_3 ?_
  refine r_callSI (rest := []) dX7_had_3 m_X7_outside lk_X7_45 (c_X7_outside a1 (1 : Int32) (3 : Int32) h) (by decide) rfl rfl (Nat.le_of_ble_eq_true rfl) (fun v2 h1 => ?_)
  refine r_if_eq (tgt := 11) dX7_had_6 (by decide) ?_ ?_
  · refine r_aload_n (place := 0) dX7_had_11 rfl rfl ?_
    refine r_getR dX7_had_12 fg_X7_24 ta0 ?_
    refine r_iload_n (place := 1) dX7_had_15 rfl rfl ?_
    refine r_aload_n (place := 0) dX7_had_16 rfl rfl ?_
    refine r_getI dX7_had_17 fg_X7_38 ta0 ?_
    refine r_callSI (rest := [.ref (G.1 (xrf a0 2))]) dX7_had_20 m_X1_shareKey lk_X7_212 (c_X1_shareKey a1 (h1 a0 5) h1) (by decide) rfl rfl (Nat.le_of_ble_eq_true rfl) (fun v4 h3 => ?_)
    refine r_callVI (rest := []) dX7_had_23 m_X6_latestOf lk_X7_215 rfl (by decide) (xt_6_2 ta0) (c_X6_latestOf (xrf a0 2) (xt_6_2 ta0) v4 h3) (by decide) rfl rfl (Nat.le_of_ble_eq_true rfl) (fun v6 h5 => ?_)
    exact r_iret dX7_had_26 rfl
  · refine r_iconst dX7_had_9 xc_m1 ?_
    exact r_iret dX7_had_10 rfl
def f_X7_line (a0 : Nat) (a1 : Int32) (a2 : Int32) (a3 : Int32) (a4 : Int32) (h : Mem) : Option (Int32 × Mem) :=
  b2 (f_X7_noClient a1 h) fun v2 h1 =>
  if v2 = 0 then
      b2 (f_X7_outside a2 (0 : Int32) (1 : Int32) h1) fun v4 h3 =>
      if v4 = 0 then
          if a3 < 0 then
              some ((-1 : Int32), h3)
          else
              b2 (f_X7_outside a4 (0 : Int32) (4 : Int32) h3) fun v6 h5 =>
              if v6 = 0 then
                  aald (xrf (xrf a0 2) 0) a1 fun q7 =>
                  b2 (f_X0_packets q7 a2 h5) fun v9 h8 =>
                  tg 2 v9 <|
                  if (h8 v9 3) ≤ a3 then
                      some ((-4 : Int32), h8)
                  else
                      b2 (f_X3_cell v9 a3 a4 h8) fun v11 h10 =>
                      some (v11, h10)
              else
                  some ((-1 : Int32), h5)
      else
          some ((-1 : Int32), h3)
  else
      some ((-1 : Int32), h1)
set_option maxRecDepth 20000 in
theorem c_X7_line {G : xG} (a0 : Nat) (ta0 : xTy a0 6) (a1 : Int32) (a2 : Int32) (a3 : Int32) (a4 : Int32) (h : Mem) : Sm G 2 yX7_line FX7_line xcI [.ref (G.1 a0), .int a1, .int a2, .int a3, .int a4] h (f_X7_line a0 a1 a2 a3 a4 h) := by
  refine Sm.of pn_X7 rfl (Nat.le_of_ble_eq_true rfl) (ls := [(0, .ref (G.1 a0)), (1, .int a1), (2, .int a2), (3, .int a3), (4, .int a4)]) rfl ?_
  unfold f_X7_line
  refine r_iload_n (place := 1) dX7_line_0 rfl rfl ?_
  refine r_callSI (rest := []) dX7_line_1 m_X7_noClient lk_X7_81 (c_X7_noClient a1 h) (by decide) rfl rfl (Nat.le_of_ble_eq_true rfl) (fun v2 h1 => ?_)
  refine r_if_ne (tgt := 30) dX7_line_4 (by decide) ?_ ?_
  · refine r_iconst dX7_line_30 xc_m1 ?_
    exact r_iret dX7_line_31 rfl
  · refine r_iload_n (place := 2) dX7_line_7 rfl rfl ?_
    refine r_iconst dX7_line_8 xc_0 ?_
    refine r_iconst dX7_line_9 xc_1 ?_
    refine r_callSI (rest := []) dX7_line_10 m_X7_outside lk_X7_45 (c_X7_outside a2 (0 : Int32) (1 : Int32) h1) (by decide) rfl rfl (Nat.le_of_ble_eq_true rfl) (fun v4 h3 => ?_)
    refine r_if_ne (tgt := 30) dX7_line_13 (by decide) ?_ ?_
    · refine r_iconst dX7_line_30 xc_m1 ?_
      exact r_iret dX7_line_31 rfl
    · refine r_iload_n (place := 3) dX7_line_16 rfl rfl ?_
      refine r_if_lt (tgt := 30) dX7_line_17 (by decide) ?_ ?_
      · refine r_iconst dX7_line_30 xc_m1 ?_
        exact r_iret dX7_line_31 rfl
      · refine r_iload (place := 4) dX7_line_20 rfl ?_
        refine r_iconst dX7_line_22 xc_0 ?_
        refine r_iconst dX7_line_23 xc_4 ?_
        refine r_callSI (rest := []) dX7_line_24 m_X7_outside lk_X7_45 (c_X7_outside a4 (0 : Int32) (4 : Int32) h3) (by decide) rfl rfl (Nat.le_of_ble_eq_true rfl) (fun v6 h5 => ?_)
        refine r_if_eq (tgt := 32) dX7_line_27 (by decide) ?_ ?_
        · refine r_aload_n (place := 0) dX7_line_32 rfl rfl ?_
          refine r_getR dX7_line_33 fg_X7_24 ta0 ?_
          refine r_getR dX7_line_36 fg_X7_87 (xt_6_2 ta0) ?_
          refine r_iload_n (place := 1) dX7_line_39 rfl rfl ?_
          refine r_aald10 dX7_line_40 (xt_5_0 (xt_6_2 ta0)) (fun q7 tq7 => ?_)
          refine r_iload_n (place := 2) dX7_line_41 rfl rfl ?_
          refine r_callVR (rest := []) dX7_line_42 m_X0_packets lk_X7_155 rfl (by decide) tq7 (c_X0_packets q7 tq7 a2 h5) (by decide) rfl rfl (Nat.le_of_ble_eq_true rfl) (fun v9 h8 => ?_)
          refine r_tg (fun tv9 => ?_)
          refine r_astore (ls' := [(5, .ref (G.1 v9)), (0, .ref (G.1 a0)), (1, .int a1), (2, .int a2), (3, .int a3), (4, .int a4)]) dX7_line_45 (by decide) rfl ?_
          refine r_iload_n (place := 4) dX7_line_47 rfl rfl ?_
          refine r_aload (place := 0) dX7_line_48 rfl ?_
          refine r_getI dX7_line_50 fg_X7_144 tv9 ?_
          refine r_ic_ge (tgt := 67) dX7_line_53 (by decide) ?_ ?_
          · refine r_bipush dX7_line_67 xb_m4 ?_
            exact r_iret dX7_line_69 rfl
          · refine r_aload (place := 0) dX7_line_56 rfl ?_
            refine r_iload_n (place := 4) dX7_line_58 rfl rfl ?_
            refine r_iload (place := 5) dX7_line_59 rfl ?_
            refine r_callVI (rest := []) dX7_line_61 m_X3_cell lk_X7_159 rfl (by decide) tv9 (c_X3_cell v9 tv9 a3 a4 h8) (by decide) rfl rfl (Nat.le_of_ble_eq_true rfl) (fun v11 h10 => ?_)
            refine r_goto (tgt := 69) dX7_line_64 (by decide) ?_
            exact r_iret dX7_line_69 rfl
        · refine r_iconst dX7_line_30 xc_m1 ?_
          exact r_iret dX7_line_31 rfl
def f_X7_flight (a0 : Nat) (a1 : Int32) (a2 : Int32) (a3 : Int32) (h : Mem) : Option (Int32 × Mem) :=
  b2 (f_X7_noClient a1 h) fun v2 h1 =>
  if v2 = 0 then
      if a2 < 0 then
          some ((-1 : Int32), h1)
      else
          b2 (f_X7_outside a3 (0 : Int32) (4 : Int32) h1) fun v4 h3 =>
          if v4 = 0 then
              aald (xrf (xrf a0 2) 0) a1 fun q5 =>
              if (h3 (xrf q5 2) 3) ≤ a2 then
                  some ((-4 : Int32), h3)
              else
                  b2 (f_X3_cell (xrf q5 2) a2 a3 h3) fun v7 h6 =>
                  some (v7, h6)
          else
              some ((-1 : Int32), h3)
  else
      some ((-1 : Int32), h1)
set_option maxRecDepth 20000 in
theorem c_X7_flight {G : xG} (a0 : Nat) (ta0 : xTy a0 6) (a1 : Int32) (a2 : Int32) (a3 : Int32) (h : Mem) : Sm G 2 yX7_flight FX7_flight xcI [.ref (G.1 a0), .int a1, .int a2, .int a3] h (f_X7_flight a0 a1 a2 a3 h) := by
  refine Sm.of pn_X7 rfl (Nat.le_of_ble_eq_true rfl) (ls := [(0, .ref (G.1 a0)), (1, .int a1), (2, .int a2), (3, .int a3)]) rfl ?_
  unfold f_X7_flight
  refine r_iload_n (place := 1) dX7_flight_0 rfl rfl ?_
  refine r_callSI (rest := []) dX7_flight_1 m_X7_noClient lk_X7_81 (c_X7_noClient a1 h) (by decide) rfl rfl (Nat.le_of_ble_eq_true rfl) (fun v2 h1 => ?_)
  refine r_if_ne (tgt := 20) dX7_flight_4 (by decide) ?_ ?_
  · refine r_iconst dX7_flight_20 xc_m1 ?_
    exact r_iret dX7_flight_21 rfl
  · refine r_iload_n (place := 2) dX7_flight_7 rfl rfl ?_
    refine r_if_lt (tgt := 20) dX7_flight_8 (by decide) ?_ ?_
    · refine r_iconst dX7_flight_20 xc_m1 ?_
      exact r_iret dX7_flight_21 rfl
    · refine r_iload_n (place := 3) dX7_flight_11 rfl rfl ?_
      refine r_iconst dX7_flight_12 xc_0 ?_
      refine r_iconst dX7_flight_13 xc_4 ?_
      refine r_callSI (rest := []) dX7_flight_14 m_X7_outside lk_X7_45 (c_X7_outside a3 (0 : Int32) (4 : Int32) h1) (by decide) rfl rfl (Nat.le_of_ble_eq_true rfl) (fun v4 h3 => ?_)
      refine r_if_eq (tgt := 22) dX7_flight_17 (by decide) ?_ ?_
      · refine r_aload_n (place := 0) dX7_flight_22 rfl rfl ?_
        refine r_getR dX7_flight_23 fg_X7_24 ta0 ?_
        refine r_getR dX7_flight_26 fg_X7_87 (xt_6_2 ta0) ?_
        refine r_iload_n (place := 1) dX7_flight_29 rfl rfl ?_
        refine r_aald10 dX7_flight_30 (xt_5_0 (xt_6_2 ta0)) (fun q5 tq5 => ?_)
        refine r_getR dX7_flight_31 fg_X7_218 tq5 ?_
        refine r_astore (ls' := [(4, .ref (G.1 (xrf q5 2))), (0, .ref (G.1 a0)), (1, .int a1), (2, .int a2), (3, .int a3)]) dX7_flight_34 (by decide) rfl ?_
        refine r_iload_n (place := 3) dX7_flight_36 rfl rfl ?_
        refine r_aload (place := 0) dX7_flight_37 rfl ?_
        refine r_getI dX7_flight_39 fg_X7_144 (xt_0_2 tq5) ?_
        refine r_ic_ge (tgt := 55) dX7_flight_42 (by decide) ?_ ?_
        · refine r_bipush dX7_flight_55 xb_m4 ?_
          exact r_iret dX7_flight_57 rfl
        · refine r_aload (place := 0) dX7_flight_45 rfl ?_
          refine r_iload_n (place := 3) dX7_flight_47 rfl rfl ?_
          refine r_iload_n (place := 4) dX7_flight_48 rfl rfl ?_
          refine r_callVI (rest := []) dX7_flight_49 m_X3_cell lk_X7_159 rfl (by decide) (xt_0_2 tq5) (c_X3_cell (xrf q5 2) (xt_0_2 tq5) a2 a3 h3) (by decide) rfl rfl (Nat.le_of_ble_eq_true rfl) (fun v7 h6 => ?_)
          refine r_goto (tgt := 57) dX7_flight_52 (by decide) ?_
          exact r_iret dX7_flight_57 rfl
      · refine r_iconst dX7_flight_20 xc_m1 ?_
        exact r_iret dX7_flight_21 rfl
def f_X7_took (a0 : Nat) (a1 : Int32) (a2 : Int32) (a3 : Int32) (h : Mem) : Option (Int32 × Mem) :=
  b2 (f_X7_noClient a1 h) fun v2 h1 =>
  if v2 = 0 then
      if a2 < 0 then
          some ((-1 : Int32), h1)
      else
          b2 (f_X7_outside a3 (0 : Int32) (3 : Int32) h1) fun v4 h3 =>
          if v4 = 0 then
              aald (xrf (xrf a0 2) 0) a1 fun q5 =>
              if (h3 (xrf q5 6) 3) ≤ a2 then
                  some ((-4 : Int32), h3)
              else
                  b2 (f_X3_cell (xrf q5 6) a2 a3 h3) fun v7 h6 =>
                  some (v7, h6)
          else
              some ((-1 : Int32), h3)
  else
      some ((-1 : Int32), h1)
set_option maxRecDepth 20000 in
theorem c_X7_took {G : xG} (a0 : Nat) (ta0 : xTy a0 6) (a1 : Int32) (a2 : Int32) (a3 : Int32) (h : Mem) : Sm G 2 yX7_took FX7_took xcI [.ref (G.1 a0), .int a1, .int a2, .int a3] h (f_X7_took a0 a1 a2 a3 h) := by
  refine Sm.of pn_X7 rfl (Nat.le_of_ble_eq_true rfl) (ls := [(0, .ref (G.1 a0)), (1, .int a1), (2, .int a2), (3, .int a3)]) rfl ?_
  unfold f_X7_took
  refine r_iload_n (place := 1) dX7_took_0 rfl rfl ?_
  refine r_callSI (rest := []) dX7_took_1 m_X7_noClient lk_X7_81 (c_X7_noClient a1 h) (by decide) rfl rfl (Nat.le_of_ble_eq_true rfl) (fun v2 h1 => ?_)
  refine r_if_ne (tgt := 20) dX7_took_4 (by decide) ?_ ?_
  · refine r_iconst dX7_took_20 xc_m1 ?_
    exact r_iret dX7_took_21 rfl
  · refine r_iload_n (place := 2) dX7_took_7 rfl rfl ?_
    refine r_if_lt (tgt := 20) dX7_took_8 (by decide) ?_ ?_
    · refine r_iconst dX7_took_20 xc_m1 ?_
      exact r_iret dX7_took_21 rfl
    · refine r_iload_n (place := 3) dX7_took_11 rfl rfl ?_
      refine r_iconst dX7_took_12 xc_0 ?_
      refine r_iconst dX7_took_13 xc_3 ?_
      refine r_callSI (rest := []) dX7_took_14 m_X7_outside lk_X7_45 (c_X7_outside a3 (0 : Int32) (3 : Int32) h1) (by decide) rfl rfl (Nat.le_of_ble_eq_true rfl) (fun v4 h3 => ?_)
      refine r_if_eq (tgt := 22) dX7_took_17 (by decide) ?_ ?_
      · refine r_aload_n (place := 0) dX7_took_22 rfl rfl ?_
        refine r_getR dX7_took_23 fg_X7_24 ta0 ?_
        refine r_getR dX7_took_26 fg_X7_87 (xt_6_2 ta0) ?_
        refine r_iload_n (place := 1) dX7_took_29 rfl rfl ?_
        refine r_aald10 dX7_took_30 (xt_5_0 (xt_6_2 ta0)) (fun q5 tq5 => ?_)
        refine r_getR dX7_took_31 fg_X7_221 tq5 ?_
        refine r_astore (ls' := [(4, .ref (G.1 (xrf q5 6))), (0, .ref (G.1 a0)), (1, .int a1), (2, .int a2), (3, .int a3)]) dX7_took_34 (by decide) rfl ?_
        refine r_iload_n (place := 3) dX7_took_36 rfl rfl ?_
        refine r_aload (place := 0) dX7_took_37 rfl ?_
        refine r_getI dX7_took_39 fg_X7_144 (xt_0_6 tq5) ?_
        refine r_ic_ge (tgt := 55) dX7_took_42 (by decide) ?_ ?_
        · refine r_bipush dX7_took_55 xb_m4 ?_
          exact r_iret dX7_took_57 rfl
        · refine r_aload (place := 0) dX7_took_45 rfl ?_
          refine r_iload_n (place := 3) dX7_took_47 rfl rfl ?_
          refine r_iload_n (place := 4) dX7_took_48 rfl rfl ?_
          refine r_callVI (rest := []) dX7_took_49 m_X3_cell lk_X7_159 rfl (by decide) (xt_0_6 tq5) (c_X3_cell (xrf q5 6) (xt_0_6 tq5) a2 a3 h3) (by decide) rfl rfl (Nat.le_of_ble_eq_true rfl) (fun v7 h6 => ?_)
          refine r_goto (tgt := 57) dX7_took_52 (by decide) ?_
          exact r_iret dX7_took_57 rfl
      · refine r_iconst dX7_took_20 xc_m1 ?_
        exact r_iret dX7_took_21 rfl
def f_X7_keep (a0 : Nat) (a1 : Int32) (h : Mem) : Option (Int32 × Mem) :=
  b2 (f_X7_outside a1 (0 : Int32) (1 : Int32) h) fun v2 h1 =>
  if v2 = 0 then
      ald h1 (xrf a0 4) a1 fun v3 =>
      b2 (f_X7_flag v3 h1) fun v5 h4 =>
      aald (xrf a0 3) a1 fun q6 =>
      b2 (f_X6_copyFrom q6 (xrf a0 2) h4) fun _ h7 =>
      ast h7 (xrf a0 4) a1 (1 : Int32) fun h8 =>
      some (v5, h8)
  else
      some ((-1 : Int32), h1)
set_option maxRecDepth 20000 in
theorem c_X7_keep {G : xG} (a0 : Nat) (ta0 : xTy a0 6) (a1 : Int32) (h : Mem) : Sm G 4 yX7_keep FX7_keep xcI [.ref (G.1 a0), .int a1] h (f_X7_keep a0 a1 h) := by
  refine Sm.of pn_X7 rfl (Nat.le_of_ble_eq_true rfl) (ls := [(0, .ref (G.1 a0)), (1, .int a1)]) rfl ?_
  unfold f_X7_keep
  refine r_iload_n (place := 1) dX7_keep_0 rfl rfl ?_
  refine r_iconst dX7_keep_1 xc_0 ?_
  refine r_iconst dX7_keep_2 xc_1 ?_
  refine r_callSI (rest := []) dX7_keep_3 m_X7_outside lk_X7_45 (c_X7_outside a1 (0 : Int32) (1 : Int32) h) (by decide) rfl rfl (Nat.le_of_ble_eq_true rfl) (fun v2 h1 => ?_)
  refine r_if_eq (tgt := 11) dX7_keep_6 (by decide) ?_ ?_
  · refine r_aload_n (place := 0) dX7_keep_11 rfl rfl ?_
    refine r_getR dX7_keep_12 fg_X7_32 ta0 ?_
    refine r_iload_n (place := 1) dX7_keep_15 rfl rfl ?_
    refine r_zald dX7_keep_16 (xt_6_4 ta0) (fun v3 => ?_)
    refine r_callSI (rest := []) dX7_keep_17 m_X7_flag lk_X7_205 (c_X7_flag v3 h1) (by decide) rfl rfl (Nat.le_of_ble_eq_true rfl) (fun v5 h4 => ?_)
    refine r_istore_n (ls' := [(2, .int v5), (0, .ref (G.1 a0)), (1, .int a1)]) dX7_keep_20 rfl (by decide) rfl ?_
    refine r_aload_n (place := 1) dX7_keep_21 rfl rfl ?_
    refine r_getR dX7_keep_22 fg_X7_28 ta0 ?_
    refine r_iload_n (place := 2) dX7_keep_25 rfl rfl ?_
    refine r_aald11 dX7_keep_26 (xt_6_3 ta0) (fun q6 tq6 => ?_)
    refine r_aload_n (place := 1) dX7_keep_27 rfl rfl ?_
    refine r_getR dX7_keep_28 fg_X7_24 ta0 ?_
    refine r_callVV (rest := []) dX7_keep_31 m_X6_copyFrom lk_X7_66 rfl (by decide) tq6 (c_X6_copyFrom q6 tq6 (xrf a0 2) (xt_6_2 ta0) h4) (by decide) rfl rfl (Nat.le_of_ble_eq_true rfl) (fun h7 => ?_)
    refine r_aload_n (place := 1) dX7_keep_34 rfl rfl ?_
    refine r_getR dX7_keep_35 fg_X7_32 ta0 ?_
    refine r_iload_n (place := 2) dX7_keep_38 rfl rfl ?_
    refine r_iconst dX7_keep_39 xc_1 ?_
    refine r_zast dX7_keep_40 (xt_6_4 ta0) (by decide) (fun h8 => ?_)
    refine r_iload_n (place := 0) dX7_keep_41 rfl rfl ?_
    exact r_iret dX7_keep_42 rfl
  · refine r_iconst dX7_keep_9 xc_m1 ?_
    exact r_iret dX7_keep_10 rfl
def f_X7_back (a0 : Nat) (a1 : Int32) (h : Mem) : Option (Int32 × Mem) :=
  b2 (f_X7_outside a1 (0 : Int32) (1 : Int32) h) fun v2 h1 =>
  if v2 = 0 then
      ald h1 (xrf a0 4) a1 fun v3 =>
      if v3 = 0 then
          some ((-2 : Int32), h1)
      else
          aald (xrf a0 3) a1 fun q4 =>
          b2 (f_X6_copyFrom (xrf a0 2) q4 h1) fun _ h5 =>
          some ((h5 (xrf a0 2) 3), h5)
  else
      some ((-1 : Int32), h1)
set_option maxRecDepth 20000 in
theorem c_X7_back {G : xG} (a0 : Nat) (ta0 : xTy a0 6) (a1 : Int32) (h : Mem) : Sm G 4 yX7_back FX7_back xcI [.ref (G.1 a0), .int a1] h (f_X7_back a0 a1 h) := by
  refine Sm.of pn_X7 rfl (Nat.le_of_ble_eq_true rfl) (ls := [(0, .ref (G.1 a0)), (1, .int a1)]) rfl ?_
  unfold f_X7_back
  refine r_iload_n (place := 1) dX7_back_0 rfl rfl ?_
  refine r_iconst dX7_back_1 xc_0 ?_
  refine r_iconst dX7_back_2 xc_1 ?_
  refine r_callSI (rest := []) dX7_back_3 m_X7_outside lk_X7_45 (c_X7_outside a1 (0 : Int32) (1 : Int32) h) (by decide) rfl rfl (Nat.le_of_ble_eq_true rfl) (fun v2 h1 => ?_)
  refine r_if_eq (tgt := 11) dX7_back_6 (by decide) ?_ ?_
  · refine r_aload_n (place := 0) dX7_back_11 rfl rfl ?_
    refine r_getR dX7_back_12 fg_X7_32 ta0 ?_
    refine r_iload_n (place := 1) dX7_back_15 rfl rfl ?_
    refine r_zald dX7_back_16 (xt_6_4 ta0) (fun v3 => ?_)
    refine r_if_ne (tgt := 23) dX7_back_17 (by decide) ?_ ?_
    · refine r_aload_n (place := 0) dX7_back_23 rfl rfl ?_
      refine r_getR dX7_back_24 fg_X7_24 ta0 ?_
      refine r_aload_n (place := 0) dX7_back_27 rfl rfl ?_
      refine r_getR dX7_back_28 fg_X7_28 ta0 ?_
      refine r_iload_n (place := 1) dX7_back_31 rfl rfl ?_
      refine r_aald11 dX7_back_32 (xt_6_3 ta0) (fun q4 tq4 => ?_)
      refine r_callVV (rest := []) dX7_back_33 m_X6_copyFrom lk_X7_66 rfl (by decide) (xt_6_2 ta0) (c_X6_copyFrom (xrf a0 2) (xt_6_2 ta0) q4 tq4 h1) (by decide) rfl rfl (Nat.le_of_ble_eq_true rfl) (fun h5 => ?_)
      refine r_aload_n (place := 0) dX7_back_36 rfl rfl ?_
      refine r_getR dX7_back_37 fg_X7_24 ta0 ?_
      refine r_getI dX7_back_40 fg_X7_171 (xt_6_2 ta0) ?_
      exact r_iret dX7_back_43 rfl
    · refine r_bipush dX7_back_20 xb_m2 ?_
      exact r_iret dX7_back_22 rfl
  · refine r_iconst dX7_back_9 xc_m1 ?_
    exact r_iret dX7_back_10 rfl
def f_X8_in (a0 : Int64) (a2 : Int64) (a4 : Int64) (h : Mem) : Option (Int32 × Mem) :=
  if (lg_cmp a0 a2) < 0 then
      some ((0 : Int32), h)
  else
      if 0 < (lg_cmp a0 a4) then
          some ((0 : Int32), h)
      else
          some ((1 : Int32), h)
set_option maxRecDepth 20000 in
theorem c_X8_in {G : xG} (a0 : Int64) (a2 : Int64) (a4 : Int64) (h : Mem) : Sm G 0 yX8_in FX8_in xcI [.long a0, .long a2, .long a4] h (f_X8_in a0 a2 a4 h) := by
  refine Sm.of pn_X8 rfl (Nat.le_of_ble_eq_true rfl) (ls := [(0, .long a0), (2, .long a2), (4, .long a4)]) rfl ?_
  unfold f_X8_in
  refine r_lload_n (place := 0) dX8_in_0 rfl rfl ?_
  refine r_lload_n (place := 1) dX8_in_1 rfl rfl ?_
  refine r_lcmp dX8_in_2 ?_
  refine r_if_lt (tgt := 17) dX8_in_3 (by decide) ?_ ?_
  · refine r_iconst dX8_in_17 xc_0 ?_
    exact r_zret1 dX8_in_18 rfl (by decide)
  · refine r_lload_n (place := 0) dX8_in_6 rfl rfl ?_
    refine r_lload (place := 2) dX8_in_7 rfl ?_
    refine r_lcmp dX8_in_9 ?_
    refine r_if_gt (tgt := 17) dX8_in_10 (by decide) ?_ ?_
    · refine r_iconst dX8_in_17 xc_0 ?_
      exact r_zret1 dX8_in_18 rfl (by decide)
    · refine r_iconst dX8_in_13 xc_1 ?_
      refine r_goto (tgt := 18) dX8_in_14 (by decide) ?_
      exact r_zret1 dX8_in_18 rfl (by decide)
def f_X8_flag (a0 : Int32) (h : Mem) : Option (Int32 × Mem) :=
  if a0 = 0 then
      some ((0 : Int32), h)
  else
      some ((1 : Int32), h)
set_option maxRecDepth 20000 in
theorem c_X8_flag {G : xG} (a0 : Int32) (h : Mem) : Sm G 0 yX8_flag FX8_flag xcI [.int a0] h (f_X8_flag a0 h) := by
  refine Sm.of pn_X8 rfl (Nat.le_of_ble_eq_true rfl) (ls := [(0, .int a0)]) rfl ?_
  unfold f_X8_flag
  refine r_iload_n (place := 0) dX8_flag_0 rfl rfl ?_
  refine r_if_eq (tgt := 8) dX8_flag_1 (by decide) ?_ ?_
  · refine r_iconst dX8_flag_8 xc_0 ?_
    exact r_iret dX8_flag_9 rfl
  · refine r_iconst dX8_flag_4 xc_1 ?_
    refine r_goto (tgt := 9) dX8_flag_5 (by decide) ?_
    exact r_iret dX8_flag_9 rfl
def f_X8_empties_21  : Nat → Nat → Int32 → Mem → Option (Unit × Mem)
  | 0, _, _, _ => none
  | n + 1, a0, a1, h =>
    if (6 : Int32) ≤ a1 then
        some ((), h)
    else
        ast h a0 (((308 : Int32) + ((961 : Int32) * a1)) + (21 : Int32)) (-4 : Int32) fun h1 =>
        ast h1 a0 (((308 : Int32) + ((961 : Int32) * a1)) + (9 : Int32)) (1 : Int32) fun h2 =>
        (f_X8_empties_21 n) a0 (a1 + (1 : Int32)) h2
set_option maxRecDepth 20000 in
theorem t_X8_empties_21 {G : xG}  : ∀ (n : Nat) (a0 : Nat) (a1 : Int32) (ta0 : xTy a0 8) (h : Mem), Rn G 0 FX8_empties xcV 21 [(0, .ref (G.1 a0)), (1, .int a1)] [] h (f_X8_empties_21 n a0 a1 h) := by
  intro n
  induction n with
  | zero => intros; intro r hr; cases hr
  | succ n ih =>
    intro a0 a1 ta0 h
    unfold f_X8_empties_21
    refine r_iload_n (place := 1) dX8_empties_21 rfl rfl ?_
    refine r_bipush dX8_empties_22 xb_6 ?_
    refine r_ic_ge (tgt := 64) dX8_empties_24 (by decide) ?_ ?_
    · exact r_ret dX8_empties_64 rfl
    · refine r_aload_n (place := 0) dX8_empties_27 rfl rfl ?_
      refine r_sipush dX8_empties_28 xs_308 ?_
      refine r_sipush dX8_empties_31 xs_961 ?_
      refine r_iload_n (place := 1) dX8_empties_34 rfl rfl ?_
      refine r_imul dX8_empties_35 ?_
      refine r_iadd dX8_empties_36 ?_
      refine r_bipush dX8_empties_37 xb_21 ?_
      refine r_iadd dX8_empties_39 ?_
      refine r_bipush dX8_empties_40 xb_m4 ?_
      refine r_iast dX8_empties_42 ta0 (fun h1 => ?_)
      refine r_aload_n (place := 0) dX8_empties_43 rfl rfl ?_
      refine r_sipush dX8_empties_44 xs_308 ?_
      refine r_sipush dX8_empties_47 xs_961 ?_
      refine r_iload_n (place := 1) dX8_empties_50 rfl rfl ?_
      refine r_imul dX8_empties_51 ?_
      refine r_iadd dX8_empties_52 ?_
      refine r_bipush dX8_empties_53 xb_9 ?_
      refine r_iadd dX8_empties_55 ?_
      refine r_iconst dX8_empties_56 xc_1 ?_
      refine r_iast dX8_empties_57 ta0 (fun h2 => ?_)
      refine r_iincC (place := 1) (ls' := [(1, .int (a1 + (1 : Int32))), (0, .ref (G.1 a0))]) dX8_empties_58 rfl xc_1 (by decide) rfl ?_
      refine r_goto (tgt := 21) dX8_empties_61 (by decide) ?_
      exact r_sub [1, 0] rfl (ih a0 (a1 + (1 : Int32)) ta0 h2)
def f_X8_empties_2  : Nat → Nat → Int32 → Mem → Option (Unit × Mem)
  | 0, _, _, _ => none
  | n + 1, a0, a1, h =>
    if (6074 : Int32) ≤ a1 then
        f_X8_empties_21 xFU a0 (0 : Int32) h
    else
        ast h a0 a1 (0 : Int32) fun h1 =>
        (f_X8_empties_2 n) a0 (a1 + (1 : Int32)) h1
set_option maxRecDepth 20000 in
theorem t_X8_empties_2 {G : xG}  : ∀ (n : Nat) (a0 : Nat) (a1 : Int32) (ta0 : xTy a0 8) (h : Mem), Rn G 0 FX8_empties xcV 2 [(0, .ref (G.1 a0)), (1, .int a1)] [] h (f_X8_empties_2 n a0 a1 h) := by
  intro n
  induction n with
  | zero => intros; intro r hr; cases hr
  | succ n ih =>
    intro a0 a1 ta0 h
    unfold f_X8_empties_2
    refine r_iload_n (place := 1) dX8_empties_2 rfl rfl ?_
    refine r_sipush dX8_empties_3 xs_6074 ?_
    refine r_ic_ge (tgt := 19) dX8_empties_6 (by decide) ?_ ?_
    · refine r_iconst dX8_empties_19 xc_0 ?_
      refine r_istore_n (ls' := [(1, .int (0 : Int32)), (0, .ref (G.1 a0))]) dX8_empties_20 rfl (by decide) rfl ?_
      exact r_sub [1, 0] rfl (t_X8_empties_21 xFU a0 (0 : Int32) ta0 h)
    · refine r_aload_n (place := 0) dX8_empties_9 rfl rfl ?_
      refine r_iload_n (place := 1) dX8_empties_10 rfl rfl ?_
      refine r_iconst dX8_empties_11 xc_0 ?_
      refine r_iast dX8_empties_12 ta0 (fun h1 => ?_)
      refine r_iincC (place := 1) (ls' := [(1, .int (a1 + (1 : Int32))), (0, .ref (G.1 a0))]) dX8_empties_13 rfl xc_1 (by decide) rfl ?_
      refine r_goto (tgt := 2) dX8_empties_16 (by decide) ?_
      exact r_sub [1, 0] rfl (ih a0 (a1 + (1 : Int32)) ta0 h1)
def f_X8_empties (a0 : Nat) (h : Mem) : Option (Unit × Mem) :=
  f_X8_empties_2 xFU a0 (0 : Int32) h
set_option maxRecDepth 20000 in
theorem c_X8_empties {G : xG} (a0 : Nat) (ta0 : xTy a0 8) (h : Mem) : Sm G 0 yX8_empties FX8_empties xcV [.ref (G.1 a0)] h (f_X8_empties a0 h) := by
  refine Sm.of pn_X8 rfl (Nat.le_of_ble_eq_true rfl) (ls := [(0, .ref (G.1 a0))]) rfl ?_
  unfold f_X8_empties
  refine r_iconst dX8_empties_0 xc_0 ?_
  refine r_istore_n (ls' := [(1, .int (0 : Int32)), (0, .ref (G.1 a0))]) dX8_empties_1 rfl (by decide) rfl ?_
  exact r_sub [1, 0] rfl (t_X8_empties_2 xFU a0 (0 : Int32) ta0 h)
def f_X8_at (a0 : Int32) (a1 : Int32) (h : Mem) : Option (Int32 × Mem) :=
  some ((((308 : Int32) + ((961 : Int32) * a0)) + a1), h)
set_option maxRecDepth 20000 in
theorem c_X8_at {G : xG} (a0 : Int32) (a1 : Int32) (h : Mem) : Sm G 0 yX8_at FX8_at xcI [.int a0, .int a1] h (f_X8_at a0 a1 h) := by
  refine Sm.of pn_X8 rfl (Nat.le_of_ble_eq_true rfl) (ls := [(0, .int a0), (1, .int a1)]) rfl ?_
  unfold f_X8_at
  refine r_sipush dX8_at_0 xs_308 ?_
  refine r_sipush dX8_at_3 xs_961 ?_
  refine r_iload_n (place := 0) dX8_at_6 rfl rfl ?_
  refine r_imul dX8_at_7 ?_
  refine r_iadd dX8_at_8 ?_
  refine r_iload_n (place := 1) dX8_at_9 rfl rfl ?_
  refine r_iadd dX8_at_10 ?_
  exact r_iret dX8_at_11 rfl
def f_X8_feed (a0 : Nat) (a1 : Int32) (h : Mem) : Option (Int32 × Mem) :=
  b2 (f_X8_in a1.toInt64 (0 : Int64) (127 : Int64) h) fun v2 h1 =>
  if v2 = 0 then
      some ((-1 : Int32), h1)
  else
      if (h1 a0 7) = (200 : Int32) then
          some ((-3 : Int32), h1)
      else
          ast h1 (xrf a0 6) (h1 a0 7) a1 fun h3 =>
          mlet (mu h3 a0 7 ((h3 a0 7) + (1 : Int32))) fun h4 =>
          some ((h4 a0 7), h4)
set_option maxRecDepth 20000 in
theorem c_X8_feed {G : xG} (a0 : Nat) (ta0 : xTy a0 7) (a1 : Int32) (h : Mem) : Sm G 1 yX8_feed FX8_feed xcI [.ref (G.1 a0), .int a1] h (f_X8_feed a0 a1 h) := by
  refine Sm.of pn_X8 rfl (Nat.le_of_ble_eq_true rfl) (ls := [(0, .ref (G.1 a0)), (1, .int a1)]) rfl ?_
  unfold f_X8_feed
  refine r_iload_n (place := 1) dX8_feed_0 rfl rfl ?_
  refine r_i2l dX8_feed_1 ?_
  refine r_lconst dX8_feed_2 xl_0 ?_
  refine r_ldc2 dX8_feed_3 ll_X8_57 ?_
  refine r_callSI (rest := []) dX8_feed_6 m_X8_in lk_X8_59 (c_X8_in a1.toInt64 (0 : Int64) (127 : Int64) h) (by decide) rfl rfl (Nat.le_of_ble_eq_true rfl) (fun v2 h1 => ?_)
  refine r_if_ne (tgt := 14) dX8_feed_9 (by decide) ?_ ?_
  · refine r_aload_n (place := 0) dX8_feed_14 rfl rfl ?_
    refine r_getI dX8_feed_15 fg_X8_63 ta0 ?_
    refine r_sipush dX8_feed_18 xs_200 ?_
    refine r_ic_ne (tgt := 27) dX8_feed_21 (by decide) ?_ ?_
    · refine r_aload_n (place := 0) dX8_feed_27 rfl rfl ?_
      refine r_getR dX8_feed_28 fg_X8_26 ta0 ?_
      refine r_aload_n (place := 0) dX8_feed_31 rfl rfl ?_
      refine r_getI dX8_feed_32 fg_X8_63 ta0 ?_
      refine r_iload_n (place := 1) dX8_feed_35 rfl rfl ?_
      refine r_iast dX8_feed_36 (xt_7_6 ta0) (fun h3 => ?_)
      refine r_aload_n (place := 0) dX8_feed_37 rfl rfl ?_
      refine r_dup dX8_feed_38 rfl ?_
      refine r_getI dX8_feed_39 fg_X8_63 ta0 ?_
      refine r_iconst dX8_feed_42 xc_1 ?_
      refine r_iadd dX8_feed_43 ?_
      refine r_putI dX8_feed_44 fp_X8_63 ta0 ?_
      refine r_mem (fun h4 => ?_)
      refine r_aload_n (place := 0) dX8_feed_47 rfl rfl ?_
      refine r_getI dX8_feed_48 fg_X8_63 ta0 ?_
      exact r_iret dX8_feed_51 rfl
    · refine r_bipush dX8_feed_24 xb_m3 ?_
      exact r_iret dX8_feed_26 rfl
  · refine r_iconst dX8_feed_12 xc_m1 ?_
    exact r_iret dX8_feed_13 rfl
def f_X8_end (a0 : Nat) (a1 : Int32) (h : Mem) : Option (Int32 × Mem) :=
  b2 (f_X8_in a1.toInt64 (0 : Int64) ((h a0 7).toInt64) h) fun v2 h1 =>
  if v2 = 0 then
      some ((-1 : Int32), h1)
  else
      mlet (mu h1 a0 7 a1) fun h3 =>
      some ((h1 a0 7), h3)
set_option maxRecDepth 20000 in
theorem c_X8_end {G : xG} (a0 : Nat) (ta0 : xTy a0 7) (a1 : Int32) (h : Mem) : Sm G 1 yX8_end FX8_end xcI [.ref (G.1 a0), .int a1] h (f_X8_end a0 a1 h) := by
  refine Sm.of pn_X8 rfl (Nat.le_of_ble_eq_true rfl) (ls := [(0, .ref (G.1 a0)), (1, .int a1)]) rfl ?_
  unfold f_X8_end
  refine r_iload_n (place := 1) dX8_end_0 rfl rfl ?_
  refine r_i2l dX8_end_1 ?_
  refine r_lconst dX8_end_2 xl_0 ?_
  refine r_aload_n (place := 0) dX8_end_3 rfl rfl ?_
  refine r_getI dX8_end_4 fg_X8_63 ta0 ?_
  refine r_i2l dX8_end_7 ?_
  refine r_callSI (rest := []) dX8_end_8 m_X8_in lk_X8_59 (c_X8_in a1.toInt64 (0 : Int64) ((h a0 7).toInt64) h) (by decide) rfl rfl (Nat.le_of_ble_eq_true rfl) (fun v2 h1 => ?_)
  refine r_if_ne (tgt := 16) dX8_end_11 (by decide) ?_ ?_
  · refine r_aload_n (place := 0) dX8_end_16 rfl rfl ?_
    refine r_getI dX8_end_17 fg_X8_63 ta0 ?_
    refine r_istore_n (ls' := [(2, .int (h1 a0 7)), (0, .ref (G.1 a0)), (1, .int a1)]) dX8_end_20 rfl (by decide) rfl ?_
    refine r_aload_n (place := 1) dX8_end_21 rfl rfl ?_
    refine r_iload_n (place := 2) dX8_end_22 rfl rfl ?_
    refine r_putI dX8_end_23 fp_X8_63 ta0 ?_
    refine r_mem (fun h3 => ?_)
    refine r_iload_n (place := 0) dX8_end_26 rfl rfl ?_
    exact r_iret dX8_end_27 rfl
  · refine r_iconst dX8_end_14 xc_m1 ?_
    exact r_iret dX8_end_15 rfl
def f_X8_byteAt (a0 : Nat) (a1 : Int32) (h : Mem) : Option (Int32 × Mem) :=
  if (h a0 7) ≤ a1 then
      some ((-4 : Int32), h)
  else
      ald h (xrf a0 6) a1 fun v1 =>
      some (v1, h)
set_option maxRecDepth 20000 in
theorem c_X8_byteAt {G : xG} (a0 : Nat) (ta0 : xTy a0 7) (a1 : Int32) (h : Mem) : Sm G 0 yX8_byteAt FX8_byteAt xcI [.ref (G.1 a0), .int a1] h (f_X8_byteAt a0 a1 h) := by
  refine Sm.of pn_X8 rfl (Nat.le_of_ble_eq_true rfl) (ls := [(0, .ref (G.1 a0)), (1, .int a1)]) rfl ?_
  unfold f_X8_byteAt
  refine r_iload_n (place := 1) dX8_byteAt_0 rfl rfl ?_
  refine r_aload_n (place := 0) dX8_byteAt_1 rfl rfl ?_
  refine r_getI dX8_byteAt_2 fg_X8_63 ta0 ?_
  refine r_ic_ge (tgt := 17) dX8_byteAt_5 (by decide) ?_ ?_
  · refine r_bipush dX8_byteAt_17 xb_m4 ?_
    exact r_iret dX8_byteAt_19 rfl
  · refine r_aload_n (place := 0) dX8_byteAt_8 rfl rfl ?_
    refine r_getR dX8_byteAt_9 fg_X8_26 ta0 ?_
    refine r_iload_n (place := 1) dX8_byteAt_12 rfl rfl ?_
    refine r_iald dX8_byteAt_13 (xt_7_6 ta0) (fun v1 => ?_)
    refine r_goto (tgt := 19) dX8_byteAt_14 (by decide) ?_
    exact r_iret dX8_byteAt_19 rfl
def f_X8_must (a0 : Nat) (a1 : Int32) (a2 : Int32) (h : Mem) : Option (Unit × Mem) :=
  if a1 = 0 then
      if (h a0 8) = 0 then
          mlet (mu h a0 8 a2) fun h1 =>
          mlet (mu h1 a0 9 (h1 a0 11)) fun h2 =>
          some ((), h2)
      else
          some ((), h)
  else
      some ((), h)
set_option maxRecDepth 20000 in
theorem c_X8_must {G : xG} (a0 : Nat) (ta0 : xTy a0 7) (a1 : Int32) (a2 : Int32) (h : Mem) : Sm G 0 yX8_must FX8_must xcV [.ref (G.1 a0), .int a1, .int a2] h (f_X8_must a0 a1 a2 h) := by
  refine Sm.of pn_X8 rfl (Nat.le_of_ble_eq_true rfl) (ls := [(0, .ref (G.1 a0)), (1, .int a1), (2, .int a2)]) rfl ?_
  unfold f_X8_must
  refine r_iload_n (place := 1) dX8_must_0 rfl rfl ?_
  refine r_if_ne (tgt := 24) dX8_must_1 (by decide) ?_ ?_
  · exact r_ret dX8_must_24 rfl
  · refine r_aload_n (place := 0) dX8_must_4 rfl rfl ?_
    refine r_getI dX8_must_5 fg_X8_67 ta0 ?_
    refine r_if_ne (tgt := 24) dX8_must_8 (by decide) ?_ ?_
    · exact r_ret dX8_must_24 rfl
    · refine r_aload_n (place := 0) dX8_must_11 rfl rfl ?_
      refine r_iload_n (place := 2) dX8_must_12 rfl rfl ?_
      refine r_putI dX8_must_13 fp_X8_67 ta0 ?_
      refine r_mem (fun h1 => ?_)
      refine r_aload_n (place := 0) dX8_must_16 rfl rfl ?_
      refine r_aload_n (place := 0) dX8_must_17 rfl rfl ?_
      refine r_getI dX8_must_18 fg_X8_70 ta0 ?_
      refine r_putI dX8_must_21 fp_X8_73 ta0 ?_
      refine r_mem (fun h2 => ?_)
      exact r_ret dX8_must_24 rfl
def f_X8_reads_89  : Nat → Nat → Mem → Option (Unit × Mem)
  | 0, _, _ => none
  | n + 1, a0, h =>
    b2 (f_X8_byteAt a0 (h a0 10) h) fun v2 h1 =>
    b2 (f_X8_in v2.toInt64 (97 : Int64) (122 : Int64) h1) fun v4 h3 =>
    if v4 = 0 then
        some ((), h3)
    else
        mlet (mu h3 a0 10 ((h3 a0 10) + (1 : Int32))) fun h5 =>
        (f_X8_reads_89 n) a0 h5
set_option maxRecDepth 20000 in
theorem t_X8_reads_89 {G : xG}  : ∀ (n : Nat) (a0 : Nat) (ta0 : xTy a0 7) (h : Mem), Rn G 1 FX8_reads xcV 89 [(0, .ref (G.1 a0))] [] h (f_X8_reads_89 n a0 h) := by
  intro n
  induction n with
  | zero => intros; intro r hr; cases hr
  | succ n ih =>
    intro a0 ta0 h
    unfold f_X8_reads_89
    refine r_aload_n (place := 0) dX8_reads_89 rfl rfl ?_
    refine r_aload_n (place := 0) dX8_reads_90 rfl rfl ?_
    refine r_getI dX8_reads_91 fg_X8_76 ta0 ?_
    refine r_callVI (rest := []) dX8_reads_94 m_X8_byteAt lk_X8_79 rfl (by decide) ta0 (c_X8_byteAt a0 ta0 (h a0 10) h) (by decide) rfl rfl (Nat.le_of_ble_eq_true rfl) (fun v2 h1 => ?_)
    refine r_i2l dX8_reads_97 ?_
    refine r_ldc2 dX8_reads_98 ll_X8_89 ?_
    refine r_ldc2 dX8_reads_101 ll_X8_91 ?_
    refine r_callSI (rest := []) dX8_reads_104 m_X8_in lk_X8_59 (c_X8_in v2.toInt64 (97 : Int64) (122 : Int64) h1) (by decide) rfl rfl (Nat.le_of_ble_eq_true rfl) (fun v4 h3 => ?_)
    refine r_if_eq (tgt := 299) dX8_reads_107 (by decide) ?_ ?_
    · exact r_ret dX8_reads_299 rfl
    · refine r_aload_n (place := 0) dX8_reads_110 rfl rfl ?_
      refine r_dup dX8_reads_111 rfl ?_
      refine r_getI dX8_reads_112 fg_X8_76 ta0 ?_
      refine r_iconst dX8_reads_115 xc_1 ?_
      refine r_iadd dX8_reads_116 ?_
      refine r_putI dX8_reads_117 fp_X8_76 ta0 ?_
      refine r_mem (fun h5 => ?_)
      refine r_goto (tgt := 89) dX8_reads_120 (by decide) ?_
      exact r_sub [0] rfl (ih a0 ta0 h5)
def f_X8_reads_208 (kk147 : Nat → Mem → Option (Unit × Mem)) (a0 : Nat) (s0 : Nat) (s1 : Int32) (h : Mem) : Option (Unit × Mem) :=
  mlet (mu h s0 13 s1) fun h1 =>
  mlet (mu h1 a0 10 ((h1 a0 10) + (1 : Int32))) fun h2 =>
  kk147 a0 h2
set_option maxRecDepth 20000 in
theorem t_X8_reads_208 {G : xG} (kk147 : Nat → Mem → Option (Unit × Mem)) (hk147 : ∀ (a0 : Nat) (ta0 : xTy a0 7) (h : Mem), Rn G 1 FX8_reads xcV 147 [(0, .ref (G.1 a0))] [] h (kk147 a0 h)) (a0 : Nat) (s0 : Nat) (s1 : Int32) (ta0 : xTy a0 7) (ts0 : xTy s0 7) (h : Mem) : Rn G 1 FX8_reads xcV 208 [(0, .ref (G.1 a0))] [.int s1, .ref (G.1 s0)] h (f_X8_reads_208 kk147 a0 s0 s1 h) := by
  unfold f_X8_reads_208
  refine r_putI dX8_reads_208 fp_X8_83 ts0 ?_
  refine r_mem (fun h1 => ?_)
  refine r_aload_n (place := 0) dX8_reads_211 rfl rfl ?_
  refine r_dup dX8_reads_212 rfl ?_
  refine r_getI dX8_reads_213 fg_X8_76 ta0 ?_
  refine r_iconst dX8_reads_216 xc_1 ?_
  refine r_iadd dX8_reads_217 ?_
  refine r_putI dX8_reads_218 fp_X8_76 ta0 ?_
  refine r_mem (fun h2 => ?_)
  refine r_goto (tgt := 147) dX8_reads_221 (by decide) ?_
  exact r_sub [0] rfl (hk147 a0 ta0 h2)
def f_X8_reads_243  (s0 : Nat) (s1 : Int32) (h : Mem) : Option (Unit × Mem) :=
  b2 (f_X8_must s0 s1 (1 : Int32) h) fun _ h1 =>
  some ((), h1)
set_option maxRecDepth 20000 in
theorem t_X8_reads_243 {G : xG}  (s0 : Nat) (s1 : Int32) (ts0 : xTy s0 7) (h : Mem) : Rn G 1 FX8_reads xcV 243 [] [.int s1, .ref (G.1 s0)] h (f_X8_reads_243 s0 s1 h) := by
  unfold f_X8_reads_243
  refine r_iconst dX8_reads_243 xc_1 ?_
  refine r_callVV (rest := []) dX8_reads_244 m_X8_must lk_X8_97 rfl (by decide) ts0 (c_X8_must s0 ts0 s1 (1 : Int32) h) (by decide) rfl rfl (Nat.le_of_ble_eq_true rfl) (fun h1 => ?_)
  refine r_goto (tgt := 299) dX8_reads_247 (by decide) ?_
  exact r_ret dX8_reads_299 rfl
def f_X8_reads_147  : Nat → Nat → Mem → Option (Unit × Mem)
  | 0, _, _ => none
  | n + 1, a0, h =>
    b2 (f_X8_byteAt a0 (h a0 10) h) fun v2 h1 =>
    b2 (f_X8_in v2.toInt64 (48 : Int64) (57 : Int64) h1) fun v4 h3 =>
    if v4 = 0 then
        if (2 : Int32) < ((h3 a0 10) - (h3 a0 11)) then
            f_X8_reads_243 a0 (0 : Int32) h3
        else
            f_X8_reads_243 a0 (1 : Int32) h3
    else
        if (2 : Int32) ≤ ((h3 a0 10) - (h3 a0 11)) then
            f_X8_reads_208 (f_X8_reads_147 n) a0 a0 (h3 a0 13) h3
        else
            b2 (f_X8_byteAt a0 (h3 a0 10) h3) fun v6 h5 =>
            f_X8_reads_208 (f_X8_reads_147 n) a0 a0 ((((10 : Int32) * (h3 a0 13)) + v6) - (48 : Int32)) h5
set_option maxRecDepth 20000 in
theorem t_X8_reads_147 {G : xG}  : ∀ (n : Nat) (a0 : Nat) (ta0 : xTy a0 7) (h : Mem), Rn G 1 FX8_reads xcV 147 [(0, .ref (G.1 a0))] [] h (f_X8_reads_147 n a0 h) := by
  intro n
  induction n with
  | zero => intros; intro r hr; cases hr
  | succ n ih =>
    intro a0 ta0 h
    unfold f_X8_reads_147
    refine r_aload_n (place := 0) dX8_reads_147 rfl rfl ?_
    refine r_aload_n (place := 0) dX8_reads_148 rfl rfl ?_
    refine r_getI dX8_reads_149 fg_X8_76 ta0 ?_
    refine r_callVI (rest := []) dX8_reads_152 m_X8_byteAt lk_X8_79 rfl (by decide) ta0 (c_X8_byteAt a0 ta0 (h a0 10) h) (by decide) rfl rfl (Nat.le_of_ble_eq_true rfl) (fun v2 h1 => ?_)
    refine r_i2l dX8_reads_155 ?_
    refine r_ldc2 dX8_reads_156 ll_X8_93 ?_
    refine r_ldc2 dX8_reads_159 ll_X8_95 ?_
    refine r_callSI (rest := []) dX8_reads_162 m_X8_in lk_X8_59 (c_X8_in v2.toInt64 (48 : Int64) (57 : Int64) h1) (by decide) rfl rfl (Nat.le_of_ble_eq_true rfl) (fun v4 h3 => ?_)
    refine r_if_eq (tgt := 224) dX8_reads_165 (by decide) ?_ ?_
    · refine r_aload_n (place := 0) dX8_reads_224 rfl rfl ?_
      refine r_aload_n (place := 0) dX8_reads_225 rfl rfl ?_
      refine r_getI dX8_reads_226 fg_X8_76 ta0 ?_
      refine r_aload_n (place := 0) dX8_reads_229 rfl rfl ?_
      refine r_getI dX8_reads_230 fg_X8_70 ta0 ?_
      refine r_isub dX8_reads_233 ?_
      refine r_iconst dX8_reads_234 xc_2 ?_
      refine r_ic_gt (tgt := 242) dX8_reads_235 (by decide) ?_ ?_
      · refine r_iconst dX8_reads_242 xc_0 ?_
        exact r_sub [] rfl (t_X8_reads_243 a0 (0 : Int32) ta0 h3)
      · refine r_iconst dX8_reads_238 xc_1 ?_
        refine r_goto (tgt := 243) dX8_reads_239 (by decide) ?_
        exact r_sub [] rfl (t_X8_reads_243 a0 (1 : Int32) ta0 h3)
    · refine r_aload_n (place := 0) dX8_reads_168 rfl rfl ?_
      refine r_aload_n (place := 0) dX8_reads_169 rfl rfl ?_
      refine r_getI dX8_reads_170 fg_X8_76 ta0 ?_
      refine r_aload_n (place := 0) dX8_reads_173 rfl rfl ?_
      refine r_getI dX8_reads_174 fg_X8_70 ta0 ?_
      refine r_isub dX8_reads_177 ?_
      refine r_iconst dX8_reads_178 xc_2 ?_
      refine r_ic_ge (tgt := 204) dX8_reads_179 (by decide) ?_ ?_
      · refine r_aload_n (place := 0) dX8_reads_204 rfl rfl ?_
        refine r_getI dX8_reads_205 fg_X8_83 ta0 ?_
        exact r_sub [0] rfl (t_X8_reads_208 (f_X8_reads_147 n) ih a0 a0 (h3 a0 13) ta0 ta0 h3)
      · refine r_bipush dX8_reads_182 xb_10 ?_
        refine r_aload_n (place := 0) dX8_reads_184 rfl rfl ?_
        refine r_getI dX8_reads_185 fg_X8_83 ta0 ?_
        refine r_imul dX8_reads_188 ?_
        refine r_aload_n (place := 0) dX8_reads_189 rfl rfl ?_
        refine r_aload_n (place := 0) dX8_reads_190 rfl rfl ?_
        refine r_getI dX8_reads_191 fg_X8_76 ta0 ?_
        refine r_callVI (rest := [.int ((10 : Int32) * (h3 a0 13)), .ref (G.1 a0)]) dX8_reads_194 m_X8_byteAt lk_X8_79 rfl (by decide) ta0 (c_X8_byteAt a0 ta0 (h3 a0 10) h3) (by decide) rfl rfl (Nat.le_of_ble_eq_true rfl) (fun v6 h5 => ?_)
        refine r_iadd dX8_reads_197 ?_
        refine r_bipush dX8_reads_198 xb_48 ?_
        refine r_isub dX8_reads_200 ?_
        refine r_goto (tgt := 208) dX8_reads_201 (by decide) ?_
        exact r_sub [0] rfl (t_X8_reads_208 (f_X8_reads_147 n) ih a0 a0 ((((10 : Int32) * (h3 a0 13)) + v6) - (48 : Int32)) ta0 ta0 h5)
def f_X8_reads_285  (a0 : Nat) (s0 : Nat) (s1 : Int32) (h : Mem) : Option (Unit × Mem) :=
  b2 (f_X8_must s0 s1 (1 : Int32) h) fun _ h1 =>
  mlet (mu h1 a0 10 ((h1 a0 10) + (1 : Int32))) fun h2 =>
  some ((), h2)
set_option maxRecDepth 20000 in
theorem t_X8_reads_285 {G : xG}  (a0 : Nat) (s0 : Nat) (s1 : Int32) (ta0 : xTy a0 7) (ts0 : xTy s0 7) (h : Mem) : Rn G 1 FX8_reads xcV 285 [(0, .ref (G.1 a0))] [.int s1, .ref (G.1 s0)] h (f_X8_reads_285 a0 s0 s1 h) := by
  unfold f_X8_reads_285
  refine r_iconst dX8_reads_285 xc_1 ?_
  refine r_callVV (rest := []) dX8_reads_286 m_X8_must lk_X8_97 rfl (by decide) ts0 (c_X8_must s0 ts0 s1 (1 : Int32) h) (by decide) rfl rfl (Nat.le_of_ble_eq_true rfl) (fun h1 => ?_)
  refine r_aload_n (place := 0) dX8_reads_289 rfl rfl ?_
  refine r_dup dX8_reads_290 rfl ?_
  refine r_getI dX8_reads_291 fg_X8_76 ta0 ?_
  refine r_iconst dX8_reads_294 xc_1 ?_
  refine r_iadd dX8_reads_295 ?_
  refine r_putI dX8_reads_296 fp_X8_76 ta0 ?_
  refine r_mem (fun h2 => ?_)
  exact r_ret dX8_reads_299 rfl
def f_X8_reads_280  (a0 : Nat) (s0 : Nat) (h : Mem) : Option (Unit × Mem) :=
  f_X8_reads_285 a0 s0 (1 : Int32) h
set_option maxRecDepth 20000 in
theorem t_X8_reads_280 {G : xG}  (a0 : Nat) (s0 : Nat) (ta0 : xTy a0 7) (ts0 : xTy s0 7) (h : Mem) : Rn G 1 FX8_reads xcV 280 [(0, .ref (G.1 a0))] [.ref (G.1 s0)] h (f_X8_reads_280 a0 s0 h) := by
  unfold f_X8_reads_280
  refine r_iconst dX8_reads_280 xc_1 ?_
  refine r_goto (tgt := 285) dX8_reads_281 (by decide) ?_
  exact r_sub [0] rfl (t_X8_reads_285 a0 s0 (1 : Int32) ta0 ts0 h)
def f_X8_reads_8  : Nat → Nat → Mem → Option (Unit × Mem)
  | 0, _, _ => none
  | n + 1, a0, h =>
    b2 (f_X8_byteAt a0 (h a0 10) h) fun v2 h1 =>
    if v2 = (32 : Int32) then
        mlet (mu h1 a0 10 ((h1 a0 10) + (1 : Int32))) fun h16 =>
        (f_X8_reads_8 n) a0 h16
    else
        mlet (mu h1 a0 11 (h1 a0 10)) fun h3 =>
        b2 (f_X8_byteAt a0 (h3 a0 10) h3) fun v5 h4 =>
        mlet (mu h4 a0 13 v5) fun h6 =>
        if v5 = (-4 : Int32) then
            mlet (mu h6 a0 12 (0 : Int32)) fun h15 =>
            some ((), h15)
        else
            b2 (f_X8_in v5.toInt64 (97 : Int64) (122 : Int64) h6) fun v8 h7 =>
            if v8 = 0 then
                b2 (f_X8_in v5.toInt64 (48 : Int64) (57 : Int64) h7) fun v10 h9 =>
                if v10 = 0 then
                    mlet (mu h9 a0 12 (3 : Int32)) fun h11 =>
                    if v5 = (47 : Int32) then
                        f_X8_reads_280 a0 a0 h11
                    else
                        if v5 = (43 : Int32) then
                            f_X8_reads_280 a0 a0 h11
                        else
                            if v5 = (35 : Int32) then
                                f_X8_reads_280 a0 a0 h11
                            else
                                if v5 = (59 : Int32) then
                                    f_X8_reads_280 a0 a0 h11
                                else
                                    f_X8_reads_285 a0 a0 (0 : Int32) h11
                else
                    mlet (mu h9 a0 12 (2 : Int32)) fun h12 =>
                    mlet (mu h12 a0 13 (0 : Int32)) fun h13 =>
                    f_X8_reads_147 xFU a0 h13
            else
                mlet (mu h7 a0 12 (1 : Int32)) fun h14 =>
                f_X8_reads_89 xFU a0 h14
set_option maxRecDepth 20000 in
theorem t_X8_reads_8 {G : xG}  : ∀ (n : Nat) (a0 : Nat) (ta0 : xTy a0 7) (h : Mem), Rn G 1 FX8_reads xcV 8 [(0, .ref (G.1 a0))] [] h (f_X8_reads_8 n a0 h) := by
  intro n
  induction n with
  | zero => intros; intro r hr; cases hr
  | succ n ih =>
    intro a0 ta0 h
    unfold f_X8_reads_8
    refine r_aload_n (place := 0) dX8_reads_8 rfl rfl ?_
    refine r_aload_n (place := 0) dX8_reads_9 rfl rfl ?_
    refine r_getI dX8_reads_10 fg_X8_76 ta0 ?_
    refine r_callVI (rest := []) dX8_reads_13 m_X8_byteAt lk_X8_79 rfl (by decide) ta0 (c_X8_byteAt a0 ta0 (h a0 10) h) (by decide) rfl rfl (Nat.le_of_ble_eq_true rfl) (fun v2 h1 => ?_)
    refine r_bipush dX8_reads_16 xb_32 ?_
    refine r_ic_ne (tgt := 34) dX8_reads_18 (by decide) ?_ ?_
    · refine r_aload_n (place := 0) dX8_reads_34 rfl rfl ?_
      refine r_aload_n (place := 0) dX8_reads_35 rfl rfl ?_
      refine r_getI dX8_reads_36 fg_X8_76 ta0 ?_
      refine r_putI dX8_reads_39 fp_X8_70 ta0 ?_
      refine r_mem (fun h3 => ?_)
      refine r_aload_n (place := 0) dX8_reads_42 rfl rfl ?_
      refine r_aload_n (place := 0) dX8_reads_43 rfl rfl ?_
      refine r_getI dX8_reads_44 fg_X8_76 ta0 ?_
      refine r_callVI (rest := []) dX8_reads_47 m_X8_byteAt lk_X8_79 rfl (by decide) ta0 (c_X8_byteAt a0 ta0 (h3 a0 10) h3) (by decide) rfl rfl (Nat.le_of_ble_eq_true rfl) (fun v5 h4 => ?_)
      refine r_istore_n (ls' := [(1, .int v5), (0, .ref (G.1 a0))]) dX8_reads_50 rfl (by decide) rfl ?_
      refine r_aload_n (place := 1) dX8_reads_51 rfl rfl ?_
      refine r_iload_n (place := 0) dX8_reads_52 rfl rfl ?_
      refine r_putI dX8_reads_53 fp_X8_83 ta0 ?_
      refine r_mem (fun h6 => ?_)
      refine r_iload_n (place := 0) dX8_reads_56 rfl rfl ?_
      refine r_bipush dX8_reads_57 xb_m4 ?_
      refine r_ic_ne (tgt := 70) dX8_reads_59 (by decide) ?_ ?_
      · refine r_iload_n (place := 0) dX8_reads_70 rfl rfl ?_
        refine r_i2l dX8_reads_71 ?_
        refine r_ldc2 dX8_reads_72 ll_X8_89 ?_
        refine r_ldc2 dX8_reads_75 ll_X8_91 ?_
        refine r_callSI (rest := []) dX8_reads_78 m_X8_in lk_X8_59 (c_X8_in v5.toInt64 (97 : Int64) (122 : Int64) h6) (by decide) rfl rfl (Nat.le_of_ble_eq_true rfl) (fun v8 h7 => ?_)
        refine r_if_eq (tgt := 123) dX8_reads_81 (by decide) ?_ ?_
        · refine r_iload_n (place := 0) dX8_reads_123 rfl rfl ?_
          refine r_i2l dX8_reads_124 ?_
          refine r_ldc2 dX8_reads_125 ll_X8_93 ?_
          refine r_ldc2 dX8_reads_128 ll_X8_95 ?_
          refine r_callSI (rest := []) dX8_reads_131 m_X8_in lk_X8_59 (c_X8_in v5.toInt64 (48 : Int64) (57 : Int64) h7) (by decide) rfl rfl (Nat.le_of_ble_eq_true rfl) (fun v10 h9 => ?_)
          refine r_if_eq (tgt := 250) dX8_reads_134 (by decide) ?_ ?_
          · refine r_aload_n (place := 1) dX8_reads_250 rfl rfl ?_
            refine r_iconst dX8_reads_251 xc_3 ?_
            refine r_putI dX8_reads_252 fp_X8_86 ta0 ?_
            refine r_mem (fun h11 => ?_)
            refine r_aload_n (place := 1) dX8_reads_255 rfl rfl ?_
            refine r_iload_n (place := 0) dX8_reads_256 rfl rfl ?_
            refine r_bipush dX8_reads_257 xb_47 ?_
            refine r_ic_eq (tgt := 280) dX8_reads_259 (by decide) ?_ ?_
            · exact r_sub [1] rfl (t_X8_reads_280 a0 a0 ta0 ta0 h11)
            · refine r_iload_n (place := 0) dX8_reads_262 rfl rfl ?_
              refine r_bipush dX8_reads_263 xb_43 ?_
              refine r_ic_eq (tgt := 280) dX8_reads_265 (by decide) ?_ ?_
              · exact r_sub [1] rfl (t_X8_reads_280 a0 a0 ta0 ta0 h11)
              · refine r_iload_n (place := 0) dX8_reads_268 rfl rfl ?_
                refine r_bipush dX8_reads_269 xb_35 ?_
                refine r_ic_eq (tgt := 280) dX8_reads_271 (by decide) ?_ ?_
                · exact r_sub [1] rfl (t_X8_reads_280 a0 a0 ta0 ta0 h11)
                · refine r_iload_n (place := 0) dX8_reads_274 rfl rfl ?_
                  refine r_bipush dX8_reads_275 xb_59 ?_
                  refine r_ic_ne (tgt := 284) dX8_reads_277 (by decide) ?_ ?_
                  · refine r_iconst dX8_reads_284 xc_0 ?_
                    exact r_sub [1] rfl (t_X8_reads_285 a0 a0 (0 : Int32) ta0 ta0 h11)
                  · exact r_sub [1] rfl (t_X8_reads_280 a0 a0 ta0 ta0 h11)
          · refine r_aload_n (place := 1) dX8_reads_137 rfl rfl ?_
            refine r_iconst dX8_reads_138 xc_2 ?_
            refine r_putI dX8_reads_139 fp_X8_86 ta0 ?_
            refine r_mem (fun h12 => ?_)
            refine r_aload_n (place := 1) dX8_reads_142 rfl rfl ?_
            refine r_iconst dX8_reads_143 xc_0 ?_
            refine r_putI dX8_reads_144 fp_X8_83 ta0 ?_
            refine r_mem (fun h13 => ?_)
            exact r_sub [1] rfl (t_X8_reads_147 xFU a0 ta0 h13)
        · refine r_aload_n (place := 1) dX8_reads_84 rfl rfl ?_
          refine r_iconst dX8_reads_85 xc_1 ?_
          refine r_putI dX8_reads_86 fp_X8_86 ta0 ?_
          refine r_mem (fun h14 => ?_)
          exact r_sub [1] rfl (t_X8_reads_89 xFU a0 ta0 h14)
      · refine r_aload_n (place := 1) dX8_reads_62 rfl rfl ?_
        refine r_iconst dX8_reads_63 xc_0 ?_
        refine r_putI dX8_reads_64 fp_X8_86 ta0 ?_
        refine r_mem (fun h15 => ?_)
        refine r_goto (tgt := 299) dX8_reads_67 (by decide) ?_
        exact r_ret dX8_reads_299 rfl
    · refine r_aload_n (place := 0) dX8_reads_21 rfl rfl ?_
      refine r_dup dX8_reads_22 rfl ?_
      refine r_getI dX8_reads_23 fg_X8_76 ta0 ?_
      refine r_iconst dX8_reads_26 xc_1 ?_
      refine r_iadd dX8_reads_27 ?_
      refine r_putI dX8_reads_28 fp_X8_76 ta0 ?_
      refine r_mem (fun h16 => ?_)
      refine r_goto (tgt := 8) dX8_reads_31 (by decide) ?_
      exact r_sub [0] rfl (ih a0 ta0 h16)
def f_X8_reads (a0 : Nat) (h : Mem) : Option (Unit × Mem) :=
  if (h a0 8) ≤ 0 then
      f_X8_reads_8 xFU a0 h
  else
      some ((), h)
set_option maxRecDepth 20000 in
theorem c_X8_reads {G : xG} (a0 : Nat) (ta0 : xTy a0 7) (h : Mem) : Sm G 1 yX8_reads FX8_reads xcV [.ref (G.1 a0)] h (f_X8_reads a0 h) := by
  refine Sm.of pn_X8 rfl (Nat.le_of_ble_eq_true rfl) (ls := [(0, .ref (G.1 a0))]) rfl ?_
  unfold f_X8_reads
  refine r_aload_n (place := 0) dX8_reads_0 rfl rfl ?_
  refine r_getI dX8_reads_1 fg_X8_67 ta0 ?_
  refine r_if_le (tgt := 8) dX8_reads_4 (by decide) ?_ ?_
  · exact r_sub [0] rfl (t_X8_reads_8 xFU a0 ta0 h)
  · exact r_ret dX8_reads_7 rfl
def f_X8_isSign (a0 : Nat) (a1 : Int32) (h : Mem) : Option (Int32 × Mem) :=
  if (h a0 12) = (3 : Int32) then
      if (h a0 13) = a1 then
          some ((1 : Int32), h)
      else
          some ((0 : Int32), h)
  else
      some ((0 : Int32), h)
set_option maxRecDepth 20000 in
theorem c_X8_isSign {G : xG} (a0 : Nat) (ta0 : xTy a0 7) (a1 : Int32) (h : Mem) : Sm G 0 yX8_isSign FX8_isSign xcI [.ref (G.1 a0), .int a1] h (f_X8_isSign a0 a1 h) := by
  refine Sm.of pn_X8 rfl (Nat.le_of_ble_eq_true rfl) (ls := [(0, .ref (G.1 a0)), (1, .int a1)]) rfl ?_
  unfold f_X8_isSign
  refine r_aload_n (place := 0) dX8_isSign_0 rfl rfl ?_
  refine r_getI dX8_isSign_1 fg_X8_86 ta0 ?_
  refine r_iconst dX8_isSign_4 xc_3 ?_
  refine r_ic_ne (tgt := 20) dX8_isSign_5 (by decide) ?_ ?_
  · refine r_iconst dX8_isSign_20 xc_0 ?_
    exact r_zret1 dX8_isSign_21 rfl (by decide)
  · refine r_aload_n (place := 0) dX8_isSign_8 rfl rfl ?_
    refine r_getI dX8_isSign_9 fg_X8_83 ta0 ?_
    refine r_iload_n (place := 1) dX8_isSign_12 rfl rfl ?_
    refine r_ic_ne (tgt := 20) dX8_isSign_13 (by decide) ?_ ?_
    · refine r_iconst dX8_isSign_20 xc_0 ?_
      exact r_zret1 dX8_isSign_21 rfl (by decide)
    · refine r_iconst dX8_isSign_16 xc_1 ?_
      refine r_goto (tgt := 21) dX8_isSign_17 (by decide) ?_
      exact r_zret1 dX8_isSign_21 rfl (by decide)
def f_X8_isSub (a0 : Nat) (h : Mem) : Option (Int32 × Mem) :=
  if (h a0 12) = (1 : Int32) then
      if ((h a0 10) - (h a0 11)) = (3 : Int32) then
          b2 (f_X8_byteAt a0 (h a0 11) h) fun v2 h1 =>
          if v2 = (115 : Int32) then
              b2 (f_X8_byteAt a0 ((h1 a0 11) + (1 : Int32)) h1) fun v4 h3 =>
              if v4 = (117 : Int32) then
                  b2 (f_X8_byteAt a0 ((h3 a0 11) + (2 : Int32)) h3) fun v6 h5 =>
                  if v6 = (98 : Int32) then
                      some ((1 : Int32), h5)
                  else
                      some ((0 : Int32), h5)
              else
                  some ((0 : Int32), h3)
          else
              some ((0 : Int32), h1)
      else
          some ((0 : Int32), h)
  else
      some ((0 : Int32), h)
set_option maxRecDepth 20000 in
theorem c_X8_isSub {G : xG} (a0 : Nat) (ta0 : xTy a0 7) (h : Mem) : Sm G 1 yX8_isSub FX8_isSub xcI [.ref (G.1 a0)] h (f_X8_isSub a0 h) := by
  refine Sm.of pn_X8 rfl (Nat.le_of_ble_eq_true rfl) (ls := [(0, .ref (G.1 a0))]) rfl ?_
  unfold f_X8_isSub
  refine r_aload_n (place := 0) dX8_isSub_0 rfl rfl ?_
  refine r_getI dX8_isSub_1 fg_X8_86 ta0 ?_
  refine r_iconst dX8_isSub_4 xc_1 ?_
  refine r_ic_ne (tgt := 68) dX8_isSub_5 (by decide) ?_ ?_
  · refine r_iconst dX8_isSub_68 xc_0 ?_
    exact r_zret1 dX8_isSub_69 rfl (by decide)
  · refine r_aload_n (place := 0) dX8_isSub_8 rfl rfl ?_
    refine r_getI dX8_isSub_9 fg_X8_76 ta0 ?_
    refine r_aload_n (place := 0) dX8_isSub_12 rfl rfl ?_
    refine r_getI dX8_isSub_13 fg_X8_70 ta0 ?_
    refine r_isub dX8_isSub_16 ?_
    refine r_iconst dX8_isSub_17 xc_3 ?_
    refine r_ic_ne (tgt := 68) dX8_isSub_18 (by decide) ?_ ?_
    · refine r_iconst dX8_isSub_68 xc_0 ?_
      exact r_zret1 dX8_isSub_69 rfl (by decide)
    · refine r_aload_n (place := 0) dX8_isSub_21 rfl rfl ?_
      refine r_aload_n (place := 0) dX8_isSub_22 rfl rfl ?_
      refine r_getI dX8_isSub_23 fg_X8_70 ta0 ?_
      refine r_callVI (rest := []) dX8_isSub_26 m_X8_byteAt lk_X8_79 rfl (by decide) ta0 (c_X8_byteAt a0 ta0 (h a0 11) h) (by decide) rfl rfl (Nat.le_of_ble_eq_true rfl) (fun v2 h1 => ?_)
      refine r_bipush dX8_isSub_29 xb_115 ?_
      refine r_ic_ne (tgt := 68) dX8_isSub_31 (by decide) ?_ ?_
      · refine r_iconst dX8_isSub_68 xc_0 ?_
        exact r_zret1 dX8_isSub_69 rfl (by decide)
      · refine r_aload_n (place := 0) dX8_isSub_34 rfl rfl ?_
        refine r_aload_n (place := 0) dX8_isSub_35 rfl rfl ?_
        refine r_getI dX8_isSub_36 fg_X8_70 ta0 ?_
        refine r_iconst dX8_isSub_39 xc_1 ?_
        refine r_iadd dX8_isSub_40 ?_
        refine r_callVI (rest := []) dX8_isSub_41 m_X8_byteAt lk_X8_79 rfl (by decide) ta0 (c_X8_byteAt a0 ta0 ((h1 a0 11) + (1 : Int32)) h1) (by decide) rfl rfl (Nat.le_of_ble_eq_true rfl) (fun v4 h3 => ?_)
        refine r_bipush dX8_isSub_44 xb_117 ?_
        refine r_ic_ne (tgt := 68) dX8_isSub_46 (by decide) ?_ ?_
        · refine r_iconst dX8_isSub_68 xc_0 ?_
          exact r_zret1 dX8_isSub_69 rfl (by decide)
        · refine r_aload_n (place := 0) dX8_isSub_49 rfl rfl ?_
          refine r_aload_n (place := 0) dX8_isSub_50 rfl rfl ?_
          refine r_getI dX8_isSub_51 fg_X8_70 ta0 ?_
          refine r_iconst dX8_isSub_54 xc_2 ?_
          refine r_iadd dX8_isSub_55 ?_
          refine r_callVI (rest := []) dX8_isSub_56 m_X8_byteAt lk_X8_79 rfl (by decide) ta0 (c_X8_byteAt a0 ta0 ((h3 a0 11) + (2 : Int32)) h3) (by decide) rfl rfl (Nat.le_of_ble_eq_true rfl) (fun v6 h5 => ?_)
          refine r_bipush dX8_isSub_59 xb_98 ?_
          refine r_ic_ne (tgt := 68) dX8_isSub_61 (by decide) ?_ ?_
          · refine r_iconst dX8_isSub_68 xc_0 ?_
            exact r_zret1 dX8_isSub_69 rfl (by decide)
          · refine r_iconst dX8_isSub_64 xc_1 ?_
            refine r_goto (tgt := 69) dX8_isSub_65 (by decide) ?_
            exact r_zret1 dX8_isSub_69 rfl (by decide)
def f_X8_isKeptNow (a0 : Nat) (h : Mem) : Option (Int32 × Mem) :=
  if (h a0 12) = (1 : Int32) then
      if ((h a0 10) - (h a0 11)) = (4 : Int32) then
          b2 (f_X8_byteAt a0 (h a0 11) h) fun v2 h1 =>
          if v2 = (107 : Int32) then
              b2 (f_X8_byteAt a0 ((h1 a0 11) + (1 : Int32)) h1) fun v4 h3 =>
              if v4 = (101 : Int32) then
                  b2 (f_X8_byteAt a0 ((h3 a0 11) + (2 : Int32)) h3) fun v6 h5 =>
                  if v6 = (112 : Int32) then
                      b2 (f_X8_byteAt a0 ((h5 a0 11) + (3 : Int32)) h5) fun v8 h7 =>
                      if v8 = (116 : Int32) then
                          some ((1 : Int32), h7)
                      else
                          some ((0 : Int32), h7)
                  else
                      some ((0 : Int32), h5)
              else
                  some ((0 : Int32), h3)
          else
              some ((0 : Int32), h1)
      else
          some ((0 : Int32), h)
  else
      some ((0 : Int32), h)
set_option maxRecDepth 20000 in
theorem c_X8_isKeptNow {G : xG} (a0 : Nat) (ta0 : xTy a0 7) (h : Mem) : Sm G 1 yX8_isKeptNow FX8_isKeptNow xcI [.ref (G.1 a0)] h (f_X8_isKeptNow a0 h) := by
  refine Sm.of pn_X8 rfl (Nat.le_of_ble_eq_true rfl) (ls := [(0, .ref (G.1 a0))]) rfl ?_
  unfold f_X8_isKeptNow
  refine r_aload_n (place := 0) dX8_isKeptNow_0 rfl rfl ?_
  refine r_getI dX8_isKeptNow_1 fg_X8_86 ta0 ?_
  refine r_iconst dX8_isKeptNow_4 xc_1 ?_
  refine r_ic_ne (tgt := 83) dX8_isKeptNow_5 (by decide) ?_ ?_
  · refine r_iconst dX8_isKeptNow_83 xc_0 ?_
    exact r_zret1 dX8_isKeptNow_84 rfl (by decide)
  · refine r_aload_n (place := 0) dX8_isKeptNow_8 rfl rfl ?_
    refine r_getI dX8_isKeptNow_9 fg_X8_76 ta0 ?_
    refine r_aload_n (place := 0) dX8_isKeptNow_12 rfl rfl ?_
    refine r_getI dX8_isKeptNow_13 fg_X8_70 ta0 ?_
    refine r_isub dX8_isKeptNow_16 ?_
    refine r_iconst dX8_isKeptNow_17 xc_4 ?_
    refine r_ic_ne (tgt := 83) dX8_isKeptNow_18 (by decide) ?_ ?_
    · refine r_iconst dX8_isKeptNow_83 xc_0 ?_
      exact r_zret1 dX8_isKeptNow_84 rfl (by decide)
    · refine r_aload_n (place := 0) dX8_isKeptNow_21 rfl rfl ?_
      refine r_aload_n (place := 0) dX8_isKeptNow_22 rfl rfl ?_
      refine r_getI dX8_isKeptNow_23 fg_X8_70 ta0 ?_
      refine r_callVI (rest := []) dX8_isKeptNow_26 m_X8_byteAt lk_X8_79 rfl (by decide) ta0 (c_X8_byteAt a0 ta0 (h a0 11) h) (by decide) rfl rfl (Nat.le_of_ble_eq_true rfl) (fun v2 h1 => ?_)
      refine r_bipush dX8_isKeptNow_29 xb_107 ?_
      refine r_ic_ne (tgt := 83) dX8_isKeptNow_31 (by decide) ?_ ?_
      · refine r_iconst dX8_isKeptNow_83 xc_0 ?_
        exact r_zret1 dX8_isKeptNow_84 rfl (by decide)
      · refine r_aload_n (place := 0) dX8_isKeptNow_34 rfl rfl ?_
        refine r_aload_n (place := 0) dX8_isKeptNow_35 rfl rfl ?_
        refine r_getI dX8_isKeptNow_36 fg_X8_70 ta0 ?_
        refine r_iconst dX8_isKeptNow_39 xc_1 ?_
        refine r_iadd dX8_isKeptNow_40 ?_
        refine r_callVI (rest := []) dX8_isKeptNow_41 m_X8_byteAt lk_X8_79 rfl (by decide) ta0 (c_X8_byteAt a0 ta0 ((h1 a0 11) + (1 : Int32)) h1) (by decide) rfl rfl (Nat.le_of_ble_eq_true rfl) (fun v4 h3 => ?_)
        refine r_bipush dX8_isKeptNow_44 xb_101 ?_
        refine r_ic_ne (tgt := 83) dX8_isKeptNow_46 (by decide) ?_ ?_
        · refine r_iconst dX8_isKeptNow_83 xc_0 ?_
          exact r_zret1 dX8_isKeptNow_84 rfl (by decide)
        · refine r_aload_n (place := 0) dX8_isKeptNow_49 rfl rfl ?_
          refine r_aload_n (place := 0) dX8_isKeptNow_50 rfl rfl ?_
          refine r_getI dX8_isKeptNow_51 fg_X8_70 ta0 ?_
          refine r_iconst dX8_isKeptNow_54 xc_2 ?_
          refine r_iadd dX8_isKeptNow_55 ?_
          refine r_callVI (rest := []) dX8_isKeptNow_56 m_X8_byteAt lk_X8_79 rfl (by decide) ta0 (c_X8_byteAt a0 ta0 ((h3 a0 11) + (2 : Int32)) h3) (by decide) rfl rfl (Nat.le_of_ble_eq_true rfl) (fun v6 h5 => ?_)
          refine r_bipush dX8_isKeptNow_59 xb_112 ?_
          refine r_ic_ne (tgt := 83) dX8_isKeptNow_61 (by decide) ?_ ?_
          · refine r_iconst dX8_isKeptNow_83 xc_0 ?_
            exact r_zret1 dX8_isKeptNow_84 rfl (by decide)
          · refine r_aload_n (place := 0) dX8_isKeptNow_64 rfl rfl ?_
            refine r_aload_n (place := 0) dX8_isKeptNow_65 rfl rfl ?_
            refine r_getI dX8_isKeptNow_66 fg_X8_70 ta0 ?_
            refine r_iconst dX8_isKeptNow_69 xc_3 ?_
            refine r_iadd dX8_isKeptNow_70 ?_
            refine r_callVI (rest := []) dX8_isKeptNow_71 m_X8_byteAt lk_X8_79 rfl (by decide) ta0 (c_X8_byteAt a0 ta0 ((h5 a0 11) + (3 : Int32)) h5) (by decide) rfl rfl (Nat.le_of_ble_eq_true rfl) (fun v8 h7 => ?_)
            refine r_bipush dX8_isKeptNow_74 xb_116 ?_
            refine r_ic_ne (tgt := 83) dX8_isKeptNow_76 (by decide) ?_ ?_
            · refine r_iconst dX8_isKeptNow_83 xc_0 ?_
              exact r_zret1 dX8_isKeptNow_84 rfl (by decide)
            · refine r_iconst dX8_isKeptNow_79 xc_1 ?_
              refine r_goto (tgt := 84) dX8_isKeptNow_80 (by decide) ?_
              exact r_zret1 dX8_isKeptNow_84 rfl (by decide)
def f_X8_number_65  (a0 : Nat) (s0 : Int32) (h : Mem) : Option (Int32 × Mem) :=
  b2 (f_X8_reads a0 h) fun _ h1 =>
  some (s0, h1)
set_option maxRecDepth 20000 in
theorem t_X8_number_65 {G : xG}  (a0 : Nat) (s0 : Int32) (ta0 : xTy a0 7) (h : Mem) : Rn G 2 FX8_number xcI 65 [(0, .ref (G.1 a0))] [.int s0] h (f_X8_number_65 a0 s0 h) := by
  unfold f_X8_number_65
  refine r_istore_n (ls' := [(3, .int s0), (0, .ref (G.1 a0))]) dX8_number_65 rfl (by decide) rfl ?_
  refine r_aload_n (place := 1) dX8_number_66 rfl rfl ?_
  refine r_callVV (rest := []) dX8_number_67 m_X8_reads lk_X8_101 rfl (by decide) ta0 (c_X8_reads a0 ta0 h) (by decide) rfl rfl (Nat.le_of_ble_eq_true rfl) (fun h1 => ?_)
  refine r_iload_n (place := 0) dX8_number_70 rfl rfl ?_
  exact r_iret dX8_number_71 rfl
def f_X8_number_46  (a0 : Nat) (s0 : Nat) (s1 : Int32) (h : Mem) : Option (Int32 × Mem) :=
  b2 (f_X8_must s0 s1 (3 : Int32) h) fun _ h1 =>
  if (h1 a0 8) ≤ 0 then
      f_X8_number_65 a0 (h1 a0 13) h1
  else
      f_X8_number_65 a0 (0 : Int32) h1
set_option maxRecDepth 20000 in
theorem t_X8_number_46 {G : xG}  (a0 : Nat) (s0 : Nat) (s1 : Int32) (ta0 : xTy a0 7) (ts0 : xTy s0 7) (h : Mem) : Rn G 2 FX8_number xcI 46 [(0, .ref (G.1 a0))] [.int s1, .ref (G.1 s0)] h (f_X8_number_46 a0 s0 s1 h) := by
  unfold f_X8_number_46
  refine r_iconst dX8_number_46 xc_3 ?_
  refine r_callVV (rest := []) dX8_number_47 m_X8_must lk_X8_97 rfl (by decide) ts0 (c_X8_must s0 ts0 s1 (3 : Int32) h) (by decide) rfl rfl (Nat.le_of_ble_eq_true rfl) (fun h1 => ?_)
  refine r_aload_n (place := 0) dX8_number_50 rfl rfl ?_
  refine r_getI dX8_number_51 fg_X8_67 ta0 ?_
  refine r_if_le (tgt := 61) dX8_number_54 (by decide) ?_ ?_
  · refine r_aload_n (place := 0) dX8_number_61 rfl rfl ?_
    refine r_getI dX8_number_62 fg_X8_83 ta0 ?_
    exact r_sub [0] rfl (t_X8_number_65 a0 (h1 a0 13) ta0 h1)
  · refine r_iconst dX8_number_57 xc_0 ?_
    refine r_goto (tgt := 65) dX8_number_58 (by decide) ?_
    exact r_sub [0] rfl (t_X8_number_65 a0 (0 : Int32) ta0 h1)
def f_X8_number_41  (a0 : Nat) (s0 : Nat) (h : Mem) : Option (Int32 × Mem) :=
  f_X8_number_46 a0 s0 (1 : Int32) h
set_option maxRecDepth 20000 in
theorem t_X8_number_41 {G : xG}  (a0 : Nat) (s0 : Nat) (ta0 : xTy a0 7) (ts0 : xTy s0 7) (h : Mem) : Rn G 2 FX8_number xcI 41 [(0, .ref (G.1 a0))] [.ref (G.1 s0)] h (f_X8_number_41 a0 s0 h) := by
  unfold f_X8_number_41
  refine r_iconst dX8_number_41 xc_1 ?_
  refine r_goto (tgt := 46) dX8_number_42 (by decide) ?_
  exact r_sub [0] rfl (t_X8_number_46 a0 s0 (1 : Int32) ta0 ts0 h)
def f_X8_number_14  (a0 : Nat) (a1 : Int32) (a2 : Int32) (s0 : Nat) (s1 : Int32) (h : Mem) : Option (Int32 × Mem) :=
  b2 (f_X8_must s0 s1 (2 : Int32) h) fun _ h1 =>
  if 0 < (h1 a0 8) then
      f_X8_number_41 a0 a0 h1
  else
      b2 (f_X8_in ((h1 a0 13).toInt64) a1.toInt64 a2.toInt64 h1) fun v3 h2 =>
      if v3 = 0 then
          f_X8_number_46 a0 a0 (0 : Int32) h2
      else
          f_X8_number_41 a0 a0 h2
set_option maxRecDepth 20000 in
theorem t_X8_number_14 {G : xG}  (a0 : Nat) (a1 : Int32) (a2 : Int32) (s0 : Nat) (s1 : Int32) (ta0 : xTy a0 7) (ts0 : xTy s0 7) (h : Mem) : Rn G 2 FX8_number xcI 14 [(0, .ref (G.1 a0)), (1, .int a1), (2, .int a2)] [.int s1, .ref (G.1 s0)] h (f_X8_number_14 a0 a1 a2 s0 s1 h) := by
  unfold f_X8_number_14
  refine r_iconst dX8_number_14 xc_2 ?_
  refine r_callVV (rest := []) dX8_number_15 m_X8_must lk_X8_97 rfl (by decide) ts0 (c_X8_must s0 ts0 s1 (2 : Int32) h) (by decide) rfl rfl (Nat.le_of_ble_eq_true rfl) (fun h1 => ?_)
  refine r_aload_n (place := 0) dX8_number_18 rfl rfl ?_
  refine r_aload_n (place := 0) dX8_number_19 rfl rfl ?_
  refine r_getI dX8_number_20 fg_X8_67 ta0 ?_
  refine r_if_gt (tgt := 41) dX8_number_23 (by decide) ?_ ?_
  · exact r_sub [0] rfl (t_X8_number_41 a0 a0 ta0 ta0 h1)
  · refine r_aload_n (place := 0) dX8_number_26 rfl rfl ?_
    refine r_getI dX8_number_27 fg_X8_83 ta0 ?_
    refine r_i2l dX8_number_30 ?_
    refine r_iload_n (place := 1) dX8_number_31 rfl rfl ?_
    refine r_i2l dX8_number_32 ?_
    refine r_iload_n (place := 2) dX8_number_33 rfl rfl ?_
    refine r_i2l dX8_number_34 ?_
    refine r_callSI (rest := [.ref (G.1 a0)]) dX8_number_35 m_X8_in lk_X8_59 (c_X8_in ((h1 a0 13).toInt64) a1.toInt64 a2.toInt64 h1) (by decide) rfl rfl (Nat.le_of_ble_eq_true rfl) (fun v3 h2 => ?_)
    refine r_if_eq (tgt := 45) dX8_number_38 (by decide) ?_ ?_
    · refine r_iconst dX8_number_45 xc_0 ?_
      exact r_sub [0] rfl (t_X8_number_46 a0 a0 (0 : Int32) ta0 ta0 h2)
    · exact r_sub [0] rfl (t_X8_number_41 a0 a0 ta0 ta0 h2)
def f_X8_number (a0 : Nat) (a1 : Int32) (a2 : Int32) (h : Mem) : Option (Int32 × Mem) :=
  if (h a0 12) = (2 : Int32) then
      f_X8_number_14 a0 a1 a2 a0 (1 : Int32) h
  else
      f_X8_number_14 a0 a1 a2 a0 (0 : Int32) h
set_option maxRecDepth 20000 in
theorem c_X8_number {G : xG} (a0 : Nat) (ta0 : xTy a0 7) (a1 : Int32) (a2 : Int32) (h : Mem) : Sm G 2 yX8_number FX8_number xcI [.ref (G.1 a0), .int a1, .int a2] h (f_X8_number a0 a1 a2 h) := by
  refine Sm.of pn_X8 rfl (Nat.le_of_ble_eq_true rfl) (ls := [(0, .ref (G.1 a0)), (1, .int a1), (2, .int a2)]) rfl ?_
  unfold f_X8_number
  refine r_aload_n (place := 0) dX8_number_0 rfl rfl ?_
  refine r_aload_n (place := 0) dX8_number_1 rfl rfl ?_
  refine r_getI dX8_number_2 fg_X8_86 ta0 ?_
  refine r_iconst dX8_number_5 xc_2 ?_
  refine r_ic_ne (tgt := 13) dX8_number_6 (by decide) ?_ ?_
  · refine r_iconst dX8_number_13 xc_0 ?_
    exact r_sub [0, 1, 2] rfl (t_X8_number_14 a0 a1 a2 a0 (0 : Int32) ta0 ta0 h)
  · refine r_iconst dX8_number_9 xc_1 ?_
    refine r_goto (tgt := 14) dX8_number_10 (by decide) ?_
    exact r_sub [0, 1, 2] rfl (t_X8_number_14 a0 a1 a2 a0 (1 : Int32) ta0 ta0 h)
def f_X8_readsLevel_121  (a0 : Nat) (h : Mem) : Option (Unit × Mem) :=
  b2 (f_X8_reads a0 h) fun _ h1 =>
  some ((), h1)
set_option maxRecDepth 20000 in
theorem t_X8_readsLevel_121 {G : xG}  (a0 : Nat) (ta0 : xTy a0 7) (h : Mem) : Rn G 2 FX8_readsLevel xcV 121 [(0, .ref (G.1 a0))] [] h (f_X8_readsLevel_121 a0 h) := by
  unfold f_X8_readsLevel_121
  refine r_aload_n (place := 0) dX8_readsLevel_121 rfl rfl ?_
  refine r_callVV (rest := []) dX8_readsLevel_122 m_X8_reads lk_X8_101 rfl (by decide) ta0 (c_X8_reads a0 ta0 h) (by decide) rfl rfl (Nat.le_of_ble_eq_true rfl) (fun h1 => ?_)
  exact r_ret dX8_readsLevel_125 rfl
def f_X8_readsLevel_110  (a0 : Nat) (s0 : Nat) (s1 : Int32) (s2 : Int32) (h : Mem) : Option (Unit × Mem) :=
  ast h s0 s1 s2 fun h1 =>
  mlet (mu h1 a0 15 ((h1 a0 15) + (1 : Int32))) fun h2 =>
  f_X8_readsLevel_121 a0 h2
set_option maxRecDepth 20000 in
theorem t_X8_readsLevel_110 {G : xG}  (a0 : Nat) (s0 : Nat) (s1 : Int32) (s2 : Int32) (ta0 : xTy a0 7) (ts0 : xTy s0 8) (h : Mem) : Rn G 2 FX8_readsLevel xcV 110 [(0, .ref (G.1 a0))] [.int s2, .int s1, .ref (G.1 s0)] h (f_X8_readsLevel_110 a0 s0 s1 s2 h) := by
  unfold f_X8_readsLevel_110
  refine r_iast dX8_readsLevel_110 ts0 (fun h1 => ?_)
  refine r_aload_n (place := 0) dX8_readsLevel_111 rfl rfl ?_
  refine r_dup dX8_readsLevel_112 rfl ?_
  refine r_getI dX8_readsLevel_113 fg_X8_108 ta0 ?_
  refine r_iconst dX8_readsLevel_116 xc_1 ?_
  refine r_iadd dX8_readsLevel_117 ?_
  refine r_putI dX8_readsLevel_118 fp_X8_108 ta0 ?_
  refine r_mem (fun h2 => ?_)
  exact r_sub [0] rfl (t_X8_readsLevel_121 a0 ta0 h2)
def f_X8_readsLevel_59  (a0 : Nat) (a2 : Int32) (s0 : Nat) (s1 : Int32) (h : Mem) : Option (Unit × Mem) :=
  b2 (f_X8_must s0 s1 (2 : Int32) h) fun _ h1 =>
  if (h1 a0 8) = 0 then
      if a2 = 0 then
          if (h1 a0 13) = (43 : Int32) then
              f_X8_readsLevel_110 a0 (xrf a0 14) (h1 a0 15) (27 : Int32) h1
          else
              f_X8_readsLevel_110 a0 (xrf a0 14) (h1 a0 15) (28 : Int32) h1
      else
          f_X8_readsLevel_110 a0 (xrf a0 14) (h1 a0 15) (((h1 a0 13) - (97 : Int32)) + (1 : Int32)) h1
  else
      f_X8_readsLevel_121 a0 h1
set_option maxRecDepth 20000 in
theorem t_X8_readsLevel_59 {G : xG}  (a0 : Nat) (a2 : Int32) (s0 : Nat) (s1 : Int32) (ta0 : xTy a0 7) (ts0 : xTy s0 7) (h : Mem) : Rn G 2 FX8_readsLevel xcV 59 [(0, .ref (G.1 a0)), (2, .int a2)] [.int s1, .ref (G.1 s0)] h (f_X8_readsLevel_59 a0 a2 s0 s1 h) := by
  unfold f_X8_readsLevel_59
  refine r_iconst dX8_readsLevel_59 xc_2 ?_
  refine r_callVV (rest := []) dX8_readsLevel_60 m_X8_must lk_X8_97 rfl (by decide) ts0 (c_X8_must s0 ts0 s1 (2 : Int32) h) (by decide) rfl rfl (Nat.le_of_ble_eq_true rfl) (fun h1 => ?_)
  refine r_aload_n (place := 0) dX8_readsLevel_63 rfl rfl ?_
  refine r_getI dX8_readsLevel_64 fg_X8_67 ta0 ?_
  refine r_if_ne (tgt := 121) dX8_readsLevel_67 (by decide) ?_ ?_
  · exact r_sub [0] rfl (t_X8_readsLevel_121 a0 ta0 h1)
  · refine r_aload_n (place := 0) dX8_readsLevel_70 rfl rfl ?_
    refine r_getR dX8_readsLevel_71 fg_X8_29 ta0 ?_
    refine r_aload_n (place := 0) dX8_readsLevel_74 rfl rfl ?_
    refine r_getI dX8_readsLevel_75 fg_X8_108 ta0 ?_
    refine r_iload_n (place := 1) dX8_readsLevel_78 rfl rfl ?_
    refine r_if_eq (tgt := 94) dX8_readsLevel_79 (by decide) ?_ ?_
    · refine r_aload_n (place := 0) dX8_readsLevel_94 rfl rfl ?_
      refine r_getI dX8_readsLevel_95 fg_X8_83 ta0 ?_
      refine r_bipush dX8_readsLevel_98 xb_43 ?_
      refine r_ic_ne (tgt := 108) dX8_readsLevel_100 (by decide) ?_ ?_
      · refine r_bipush dX8_readsLevel_108 xb_28 ?_
        exact r_sub [0] rfl (t_X8_readsLevel_110 a0 (xrf a0 14) (h1 a0 15) (28 : Int32) ta0 (xt_7_14 ta0) h1)
      · refine r_bipush dX8_readsLevel_103 xb_27 ?_
        refine r_goto (tgt := 110) dX8_readsLevel_105 (by decide) ?_
        exact r_sub [0] rfl (t_X8_readsLevel_110 a0 (xrf a0 14) (h1 a0 15) (27 : Int32) ta0 (xt_7_14 ta0) h1)
    · refine r_aload_n (place := 0) dX8_readsLevel_82 rfl rfl ?_
      refine r_getI dX8_readsLevel_83 fg_X8_83 ta0 ?_
      refine r_bipush dX8_readsLevel_86 xb_97 ?_
      refine r_isub dX8_readsLevel_88 ?_
      refine r_iconst dX8_readsLevel_89 xc_1 ?_
      refine r_iadd dX8_readsLevel_90 ?_
      refine r_goto (tgt := 110) dX8_readsLevel_91 (by decide) ?_
      exact r_sub [0] rfl (t_X8_readsLevel_110 a0 (xrf a0 14) (h1 a0 15) (((h1 a0 13) - (97 : Int32)) + (1 : Int32)) ta0 (xt_7_14 ta0) h1)
def f_X8_readsLevel_54  (a0 : Nat) (a2 : Int32) (s0 : Nat) (h : Mem) : Option (Unit × Mem) :=
  f_X8_readsLevel_59 a0 a2 s0 (1 : Int32) h
set_option maxRecDepth 20000 in
theorem t_X8_readsLevel_54 {G : xG}  (a0 : Nat) (a2 : Int32) (s0 : Nat) (ta0 : xTy a0 7) (ts0 : xTy s0 7) (h : Mem) : Rn G 2 FX8_readsLevel xcV 54 [(0, .ref (G.1 a0)), (2, .int a2)] [.ref (G.1 s0)] h (f_X8_readsLevel_54 a0 a2 s0 h) := by
  unfold f_X8_readsLevel_54
  refine r_iconst dX8_readsLevel_54 xc_1 ?_
  refine r_goto (tgt := 59) dX8_readsLevel_55 (by decide) ?_
  exact r_sub [0, 1] rfl (t_X8_readsLevel_59 a0 a2 s0 (1 : Int32) ta0 ts0 h)
def f_X8_readsLevel_58  (a0 : Nat) (a2 : Int32) (s0 : Nat) (h : Mem) : Option (Unit × Mem) :=
  f_X8_readsLevel_59 a0 a2 s0 (0 : Int32) h
set_option maxRecDepth 20000 in
theorem t_X8_readsLevel_58 {G : xG}  (a0 : Nat) (a2 : Int32) (s0 : Nat) (ta0 : xTy a0 7) (ts0 : xTy s0 7) (h : Mem) : Rn G 2 FX8_readsLevel xcV 58 [(0, .ref (G.1 a0)), (2, .int a2)] [.ref (G.1 s0)] h (f_X8_readsLevel_58 a0 a2 s0 h) := by
  unfold f_X8_readsLevel_58
  refine r_iconst dX8_readsLevel_58 xc_0 ?_
  exact r_sub [0, 1] rfl (t_X8_readsLevel_59 a0 a2 s0 (0 : Int32) ta0 ts0 h)
def f_X8_readsLevel_26  (a0 : Nat) (a1 : Int32) (s0 : Int32) (h : Mem) : Option (Unit × Mem) :=
  if s0 = 0 then
      if a1 = 0 then
          b2 (f_X8_isSign a0 (43 : Int32) h) fun v2 h1 =>
          if v2 = 0 then
              b2 (f_X8_isSign a0 (35 : Int32) h1) fun v4 h3 =>
              if v4 = 0 then
                  f_X8_readsLevel_58 a0 s0 a0 h3
              else
                  f_X8_readsLevel_54 a0 s0 a0 h3
          else
              f_X8_readsLevel_54 a0 s0 a0 h1
      else
          f_X8_readsLevel_58 a0 s0 a0 h
  else
      f_X8_readsLevel_54 a0 s0 a0 h
set_option maxRecDepth 20000 in
theorem t_X8_readsLevel_26 {G : xG}  (a0 : Nat) (a1 : Int32) (s0 : Int32) (ta0 : xTy a0 7) (h : Mem) : Rn G 2 FX8_readsLevel xcV 26 [(0, .ref (G.1 a0)), (1, .int a1)] [.int s0] h (f_X8_readsLevel_26 a0 a1 s0 h) := by
  unfold f_X8_readsLevel_26
  refine r_istore_n (ls' := [(2, .int s0), (0, .ref (G.1 a0)), (1, .int a1)]) dX8_readsLevel_26 rfl (by decide) rfl ?_
  refine r_aload_n (place := 1) dX8_readsLevel_27 rfl rfl ?_
  refine r_iload_n (place := 0) dX8_readsLevel_28 rfl rfl ?_
  refine r_if_ne (tgt := 54) dX8_readsLevel_29 (by decide) ?_ ?_
  · exact r_sub [1, 0] rfl (t_X8_readsLevel_54 a0 s0 a0 ta0 ta0 h)
  · refine r_iload_n (place := 2) dX8_readsLevel_32 rfl rfl ?_
    refine r_if_ne (tgt := 58) dX8_readsLevel_33 (by decide) ?_ ?_
    · exact r_sub [1, 0] rfl (t_X8_readsLevel_58 a0 s0 a0 ta0 ta0 h)
    · refine r_aload_n (place := 1) dX8_readsLevel_36 rfl rfl ?_
      refine r_bipush dX8_readsLevel_37 xb_43 ?_
      refine r_callVI (rest := [.ref (G.1 a0)]) dX8_readsLevel_39 m_X8_isSign lk_X8_104 rfl (by decide) ta0 (c_X8_isSign a0 ta0 (43 : Int32) h) (by decide) rfl rfl (Nat.le_of_ble_eq_true rfl) (fun v2 h1 => ?_)
      refine r_if_ne (tgt := 54) dX8_readsLevel_42 (by decide) ?_ ?_
      · exact r_sub [1, 0] rfl (t_X8_readsLevel_54 a0 s0 a0 ta0 ta0 h1)
      · refine r_aload_n (place := 1) dX8_readsLevel_45 rfl rfl ?_
        refine r_bipush dX8_readsLevel_46 xb_35 ?_
        refine r_callVI (rest := [.ref (G.1 a0)]) dX8_readsLevel_48 m_X8_isSign lk_X8_104 rfl (by decide) ta0 (c_X8_isSign a0 ta0 (35 : Int32) h1) (by decide) rfl rfl (Nat.le_of_ble_eq_true rfl) (fun v4 h3 => ?_)
        refine r_if_eq (tgt := 58) dX8_readsLevel_51 (by decide) ?_ ?_
        · exact r_sub [1, 0] rfl (t_X8_readsLevel_58 a0 s0 a0 ta0 ta0 h3)
        · exact r_sub [1, 0] rfl (t_X8_readsLevel_54 a0 s0 a0 ta0 ta0 h3)
def f_X8_readsLevel_25  (a0 : Nat) (a1 : Int32) (h : Mem) : Option (Unit × Mem) :=
  f_X8_readsLevel_26 a0 a1 (0 : Int32) h
set_option maxRecDepth 20000 in
theorem t_X8_readsLevel_25 {G : xG}  (a0 : Nat) (a1 : Int32) (ta0 : xTy a0 7) (h : Mem) : Rn G 2 FX8_readsLevel xcV 25 [(0, .ref (G.1 a0)), (1, .int a1)] [] h (f_X8_readsLevel_25 a0 a1 h) := by
  unfold f_X8_readsLevel_25
  refine r_iconst dX8_readsLevel_25 xc_0 ?_
  exact r_sub [0, 1] rfl (t_X8_readsLevel_26 a0 a1 (0 : Int32) ta0 h)
def f_X8_readsLevel (a0 : Nat) (a1 : Int32) (h : Mem) : Option (Unit × Mem) :=
  if (h a0 12) = (1 : Int32) then
      if ((h a0 10) - (h a0 11)) = (1 : Int32) then
          f_X8_readsLevel_26 a0 a1 (1 : Int32) h
      else
          f_X8_readsLevel_25 a0 a1 h
  else
      f_X8_readsLevel_25 a0 a1 h
set_option maxRecDepth 20000 in
theorem c_X8_readsLevel {G : xG} (a0 : Nat) (ta0 : xTy a0 7) (a1 : Int32) (h : Mem) : Sm G 2 yX8_readsLevel FX8_readsLevel xcV [.ref (G.1 a0), .int a1] h (f_X8_readsLevel a0 a1 h) := by
  refine Sm.of pn_X8 rfl (Nat.le_of_ble_eq_true rfl) (ls := [(0, .ref (G.1 a0)), (1, .int a1)]) rfl ?_
  unfold f_X8_readsLevel
  refine r_aload_n (place := 0) dX8_readsLevel_0 rfl rfl ?_
  refine r_getI dX8_readsLevel_1 fg_X8_86 ta0 ?_
  refine r_iconst dX8_readsLevel_4 xc_1 ?_
  refine r_ic_ne (tgt := 25) dX8_readsLevel_5 (by decide) ?_ ?_
  · exact r_sub [0, 1] rfl (t_X8_readsLevel_25 a0 a1 ta0 h)
  · refine r_aload_n (place := 0) dX8_readsLevel_8 rfl rfl ?_
    refine r_getI dX8_readsLevel_9 fg_X8_76 ta0 ?_
    refine r_aload_n (place := 0) dX8_readsLevel_12 rfl rfl ?_
    refine r_getI dX8_readsLevel_13 fg_X8_70 ta0 ?_
    refine r_isub dX8_readsLevel_16 ?_
    refine r_iconst dX8_readsLevel_17 xc_1 ?_
    refine r_ic_ne (tgt := 25) dX8_readsLevel_18 (by decide) ?_ ?_
    · exact r_sub [0, 1] rfl (t_X8_readsLevel_25 a0 a1 ta0 h)
    · refine r_iconst dX8_readsLevel_21 xc_1 ?_
      refine r_goto (tgt := 26) dX8_readsLevel_22 (by decide) ?_
      exact r_sub [0, 1] rfl (t_X8_readsLevel_26 a0 a1 (1 : Int32) ta0 h)
def f_X8_readsFilter_76 (kk30 : Nat → Int32 → Mem → Option (Unit × Mem)) (a0 : Nat) (a1 : Int32) (s0 : Nat) (s1 : Int32) (h : Mem) : Option (Unit × Mem) :=
  b2 (f_X8_must s0 s1 (2 : Int32) h) fun _ h1 =>
  b2 (f_X8_reads a0 h1) fun _ h2 =>
  if (h2 a0 8) = 0 then
      b2 (f_X8_readsLevel a0 a1 h2) fun _ h3 =>
      kk30 a0 a1 h3
  else
      kk30 a0 a1 h2
set_option maxRecDepth 20000 in
theorem t_X8_readsFilter_76 {G : xG} (kk30 : Nat → Int32 → Mem → Option (Unit × Mem)) (hk30 : ∀ (a0 : Nat) (a1 : Int32) (ta0 : xTy a0 7) (h : Mem), Rn G 3 FX8_readsFilter xcV 30 [(0, .ref (G.1 a0)), (1, .int a1)] [] h (kk30 a0 a1 h)) (a0 : Nat) (a1 : Int32) (s0 : Nat) (s1 : Int32) (ta0 : xTy a0 7) (ts0 : xTy s0 7) (h : Mem) : Rn G 3 FX8_readsFilter xcV 76 [(0, .ref (G.1 a0)), (1, .int a1)] [.int s1, .ref (G.1 s0)] h (f_X8_readsFilter_76 kk30 a0 a1 s0 s1 h) := by
  unfold f_X8_readsFilter_76
  refine r_iconst dX8_readsFilter_76 xc_2 ?_
  refine r_callVV (rest := []) dX8_readsFilter_77 m_X8_must lk_X8_97 rfl (by decide) ts0 (c_X8_must s0 ts0 s1 (2 : Int32) h) (by decide) rfl rfl (Nat.le_of_ble_eq_true rfl) (fun h1 => ?_)
  refine r_aload_n (place := 0) dX8_readsFilter_80 rfl rfl ?_
  refine r_callVV (rest := []) dX8_readsFilter_81 m_X8_reads lk_X8_101 rfl (by decide) ta0 (c_X8_reads a0 ta0 h1) (by decide) rfl rfl (Nat.le_of_ble_eq_true rfl) (fun h2 => ?_)
  refine r_aload_n (place := 0) dX8_readsFilter_84 rfl rfl ?_
  refine r_getI dX8_readsFilter_85 fg_X8_67 ta0 ?_
  refine r_if_ne (tgt := 30) dX8_readsFilter_88 (by decide) ?_ ?_
  · exact r_sub [0, 1] rfl (hk30 a0 a1 ta0 h2)
  · refine r_aload_n (place := 0) dX8_readsFilter_91 rfl rfl ?_
    refine r_iload_n (place := 1) dX8_readsFilter_92 rfl rfl ?_
    refine r_callVV (rest := []) dX8_readsFilter_93 m_X8_readsLevel lk_X8_111 rfl (by decide) ta0 (c_X8_readsLevel a0 ta0 a1 h2) (by decide) rfl rfl (Nat.le_of_ble_eq_true rfl) (fun h3 => ?_)
    refine r_goto (tgt := 30) dX8_readsFilter_96 (by decide) ?_
    exact r_sub [0, 1] rfl (hk30 a0 a1 ta0 h3)
def f_X8_readsFilter_75 (kk30 : Nat → Int32 → Mem → Option (Unit × Mem)) (a0 : Nat) (a1 : Int32) (s0 : Nat) (h : Mem) : Option (Unit × Mem) :=
  f_X8_readsFilter_76 kk30 a0 a1 s0 (0 : Int32) h
set_option maxRecDepth 20000 in
theorem t_X8_readsFilter_75 {G : xG} (kk30 : Nat → Int32 → Mem → Option (Unit × Mem)) (hk30 : ∀ (a0 : Nat) (a1 : Int32) (ta0 : xTy a0 7) (h : Mem), Rn G 3 FX8_readsFilter xcV 30 [(0, .ref (G.1 a0)), (1, .int a1)] [] h (kk30 a0 a1 h)) (a0 : Nat) (a1 : Int32) (s0 : Nat) (ta0 : xTy a0 7) (ts0 : xTy s0 7) (h : Mem) : Rn G 3 FX8_readsFilter xcV 75 [(0, .ref (G.1 a0)), (1, .int a1)] [.ref (G.1 s0)] h (f_X8_readsFilter_75 kk30 a0 a1 s0 h) := by
  unfold f_X8_readsFilter_75
  refine r_iconst dX8_readsFilter_75 xc_0 ?_
  exact r_sub [0, 1] rfl (t_X8_readsFilter_76 kk30 hk30 a0 a1 s0 (0 : Int32) ta0 ts0 h)
def f_X8_readsFilter_30  : Nat → Nat → Int32 → Mem → Option (Unit × Mem)
  | 0, _, _, _ => none
  | n + 1, a0, a1, h =>
    if (h a0 8) = 0 then
        b2 (f_X8_isSign a0 (47 : Int32) h) fun v2 h1 =>
        if v2 = 0 then
            some ((), h1)
        else
            if (4 : Int32) ≤ (h1 a0 15) then
                f_X8_readsFilter_75 (f_X8_readsFilter_30 n) a0 a1 a0 h1
            else
                ald h1 (xrf a0 14) ((h1 a0 15) - (1 : Int32)) fun v3 =>
                if v3 = (28 : Int32) then
                    f_X8_readsFilter_75 (f_X8_readsFilter_30 n) a0 a1 a0 h1
                else
                    f_X8_readsFilter_76 (f_X8_readsFilter_30 n) a0 a1 a0 (1 : Int32) h1
    else
        some ((), h)
set_option maxRecDepth 20000 in
theorem t_X8_readsFilter_30 {G : xG}  : ∀ (n : Nat) (a0 : Nat) (a1 : Int32) (ta0 : xTy a0 7) (h : Mem), Rn G 3 FX8_readsFilter xcV 30 [(0, .ref (G.1 a0)), (1, .int a1)] [] h (f_X8_readsFilter_30 n a0 a1 h) := by
  intro n
  induction n with
  | zero => intros; intro r hr; cases hr
  | succ n ih =>
    intro a0 a1 ta0 h
    unfold f_X8_readsFilter_30
    refine r_aload_n (place := 0) dX8_readsFilter_30 rfl rfl ?_
    refine r_getI dX8_readsFilter_31 fg_X8_67 ta0 ?_
    refine r_if_ne (tgt := 99) dX8_readsFilter_34 (by decide) ?_ ?_
    · exact r_ret dX8_readsFilter_99 rfl
    · refine r_aload_n (place := 0) dX8_readsFilter_37 rfl rfl ?_
      refine r_bipush dX8_readsFilter_38 xb_47 ?_
      refine r_callVI (rest := []) dX8_readsFilter_40 m_X8_isSign lk_X8_104 rfl (by decide) ta0 (c_X8_isSign a0 ta0 (47 : Int32) h) (by decide) rfl rfl (Nat.le_of_ble_eq_true rfl) (fun v2 h1 => ?_)
      refine r_if_eq (tgt := 99) dX8_readsFilter_43 (by decide) ?_ ?_
      · exact r_ret dX8_readsFilter_99 rfl
      · refine r_aload_n (place := 0) dX8_readsFilter_46 rfl rfl ?_
        refine r_aload_n (place := 0) dX8_readsFilter_47 rfl rfl ?_
        refine r_getI dX8_readsFilter_48 fg_X8_108 ta0 ?_
        refine r_iconst dX8_readsFilter_51 xc_4 ?_
        refine r_ic_ge (tgt := 75) dX8_readsFilter_52 (by decide) ?_ ?_
        · exact r_sub [0, 1] rfl (t_X8_readsFilter_75 (f_X8_readsFilter_30 n) ih a0 a1 a0 ta0 ta0 h1)
        · refine r_aload_n (place := 0) dX8_readsFilter_55 rfl rfl ?_
          refine r_getR dX8_readsFilter_56 fg_X8_29 ta0 ?_
          refine r_aload_n (place := 0) dX8_readsFilter_59 rfl rfl ?_
          refine r_getI dX8_readsFilter_60 fg_X8_108 ta0 ?_
          refine r_iconst dX8_readsFilter_63 xc_1 ?_
          refine r_isub dX8_readsFilter_64 ?_
          refine r_iald dX8_readsFilter_65 (xt_7_14 ta0) (fun v3 => ?_)
          refine r_bipush dX8_readsFilter_66 xb_28 ?_
          refine r_ic_eq (tgt := 75) dX8_readsFilter_68 (by decide) ?_ ?_
          · exact r_sub [0, 1] rfl (t_X8_readsFilter_75 (f_X8_readsFilter_30 n) ih a0 a1 a0 ta0 ta0 h1)
          · refine r_iconst dX8_readsFilter_71 xc_1 ?_
            refine r_goto (tgt := 76) dX8_readsFilter_72 (by decide) ?_
            exact r_sub [0, 1] rfl (t_X8_readsFilter_76 (f_X8_readsFilter_30 n) ih a0 a1 a0 (1 : Int32) ta0 ta0 h1)
def f_X8_readsFilter_7  : Nat → Nat → Int32 → Int32 → Mem → Option (Unit × Mem)
  | 0, _, _, _, _ => none
  | n + 1, a0, a1, a2, h =>
    if (4 : Int32) ≤ a2 then
        b2 (f_X8_readsLevel a0 a1 h) fun _ h1 =>
        f_X8_readsFilter_30 xFU a0 a1 h1
    else
        ast h (xrf a0 14) a2 (0 : Int32) fun h2 =>
        (f_X8_readsFilter_7 n) a0 a1 (a2 + (1 : Int32)) h2
set_option maxRecDepth 20000 in
theorem t_X8_readsFilter_7 {G : xG}  : ∀ (n : Nat) (a0 : Nat) (a1 : Int32) (a2 : Int32) (ta0 : xTy a0 7) (h : Mem), Rn G 3 FX8_readsFilter xcV 7 [(0, .ref (G.1 a0)), (1, .int a1), (2, .int a2)] [] h (f_X8_readsFilter_7 n a0 a1 a2 h) := by
  intro n
  induction n with
  | zero => intros; intro r hr; cases hr
  | succ n ih =>
    intro a0 a1 a2 ta0 h
    unfold f_X8_readsFilter_7
    refine r_iload_n (place := 2) dX8_readsFilter_7 rfl rfl ?_
    refine r_iconst dX8_readsFilter_8 xc_4 ?_
    refine r_ic_ge (tgt := 25) dX8_readsFilter_9 (by decide) ?_ ?_
    · refine r_aload_n (place := 0) dX8_readsFilter_25 rfl rfl ?_
      refine r_iload_n (place := 1) dX8_readsFilter_26 rfl rfl ?_
      refine r_callVV (rest := []) dX8_readsFilter_27 m_X8_readsLevel lk_X8_111 rfl (by decide) ta0 (c_X8_readsLevel a0 ta0 a1 h) (by decide) rfl rfl (Nat.le_of_ble_eq_true rfl) (fun h1 => ?_)
      exact r_sub [0, 1] rfl (t_X8_readsFilter_30 xFU a0 a1 ta0 h1)
    · refine r_aload_n (place := 0) dX8_readsFilter_12 rfl rfl ?_
      refine r_getR dX8_readsFilter_13 fg_X8_29 ta0 ?_
      refine r_iload_n (place := 2) dX8_readsFilter_16 rfl rfl ?_
      refine r_iconst dX8_readsFilter_17 xc_0 ?_
      refine r_iast dX8_readsFilter_18 (xt_7_14 ta0) (fun h2 => ?_)
      refine r_iincC (place := 2) (ls' := [(2, .int (a2 + (1 : Int32))), (0, .ref (G.1 a0)), (1, .int a1)]) dX8_readsFilter_19 rfl xc_1 (by decide) rfl ?_
      refine r_goto (tgt := 7) dX8_readsFilter_22 (by decide) ?_
      exact r_sub [1, 2, 0] rfl (ih a0 a1 (a2 + (1 : Int32)) ta0 h2)
def f_X8_readsFilter (a0 : Nat) (a1 : Int32) (h : Mem) : Option (Unit × Mem) :=
  mlet (mu h a0 15 (0 : Int32)) fun h1 =>
  f_X8_readsFilter_7 xFU a0 a1 (0 : Int32) h1
set_option maxRecDepth 20000 in
theorem c_X8_readsFilter {G : xG} (a0 : Nat) (ta0 : xTy a0 7) (a1 : Int32) (h : Mem) : Sm G 3 yX8_readsFilter FX8_readsFilter xcV [.ref (G.1 a0), .int a1] h (f_X8_readsFilter a0 a1 h) := by
  refine Sm.of pn_X8 rfl (Nat.le_of_ble_eq_true rfl) (ls := [(0, .ref (G.1 a0)), (1, .int a1)]) rfl ?_
  unfold f_X8_readsFilter
  refine r_aload_n (place := 0) dX8_readsFilter_0 rfl rfl ?_
  refine r_iconst dX8_readsFilter_1 xc_0 ?_
  refine r_putI dX8_readsFilter_2 fp_X8_108 ta0 ?_
  refine r_mem (fun h1 => ?_)
  refine r_iconst dX8_readsFilter_5 xc_0 ?_
  refine r_istore_n (ls' := [(2, .int (0 : Int32)), (0, .ref (G.1 a0)), (1, .int a1)]) dX8_readsFilter_6 rfl (by decide) rfl ?_
  exact r_sub [1, 2, 0] rfl (t_X8_readsFilter_7 xFU a0 a1 (0 : Int32) ta0 h1)
def f_X8_isSame_33 (kk5 : Nat → Int32 → Nat → Int32 → Int32 → Mem → Option (Int32 × Mem)) (a0 : Nat) (a1 : Int32) (a2 : Nat) (a4 : Int32) (s0 : Int32) (h : Mem) : Option (Int32 × Mem) :=
  kk5 a0 a1 a2 s0 (a4 + (1 : Int32)) h
set_option maxRecDepth 20000 in
theorem t_X8_isSame_33 {G : xG} (kk5 : Nat → Int32 → Nat → Int32 → Int32 → Mem → Option (Int32 × Mem)) (hk5 : ∀ (a0 : Nat) (a1 : Int32) (a2 : Nat) (a3 : Int32) (a4 : Int32) (ta0 : xTy a0 8) (ta2 : xTy a2 8) (h : Mem), Rn G 0 FX8_isSame xcI 5 [(0, .ref (G.1 a0)), (1, .int a1), (2, .ref (G.1 a2)), (3, .int a3), (4, .int a4)] [] h (kk5 a0 a1 a2 a3 a4 h)) (a0 : Nat) (a1 : Int32) (a2 : Nat) (a4 : Int32) (s0 : Int32) (ta0 : xTy a0 8) (ta2 : xTy a2 8) (h : Mem) : Rn G 0 FX8_isSame xcI 33 [(0, .ref (G.1 a0)), (1, .int a1), (2, .ref (G.1 a2)), (4, .int a4)] [.int s0] h (f_X8_isSame_33 kk5 a0 a1 a2 a4 s0 h) := by
  unfold f_X8_isSame_33
  refine r_istore_n (ls' := [(3, .int s0), (0, .ref (G.1 a0)), (1, .int a1), (2, .ref (G.1 a2)), (4, .int a4)]) dX8_isSame_33 rfl (by decide) rfl ?_
  refine r_iincC (place := 4) (ls' := [(4, .int (a4 + (1 : Int32))), (3, .int s0), (0, .ref (G.1 a0)), (1, .int a1), (2, .ref (G.1 a2))]) dX8_isSame_34 rfl xc_1 (by decide) rfl ?_
  refine r_goto (tgt := 5) dX8_isSame_37 (by decide) ?_
  exact r_sub [2, 3, 4, 1, 0] rfl (hk5 a0 a1 a2 s0 (a4 + (1 : Int32)) ta0 ta2 h)
def f_X8_isSame_32 (kk5 : Nat → Int32 → Nat → Int32 → Int32 → Mem → Option (Int32 × Mem)) (a0 : Nat) (a1 : Int32) (a2 : Nat) (a4 : Int32) (h : Mem) : Option (Int32 × Mem) :=
  f_X8_isSame_33 kk5 a0 a1 a2 a4 (0 : Int32) h
set_option maxRecDepth 20000 in
theorem t_X8_isSame_32 {G : xG} (kk5 : Nat → Int32 → Nat → Int32 → Int32 → Mem → Option (Int32 × Mem)) (hk5 : ∀ (a0 : Nat) (a1 : Int32) (a2 : Nat) (a3 : Int32) (a4 : Int32) (ta0 : xTy a0 8) (ta2 : xTy a2 8) (h : Mem), Rn G 0 FX8_isSame xcI 5 [(0, .ref (G.1 a0)), (1, .int a1), (2, .ref (G.1 a2)), (3, .int a3), (4, .int a4)] [] h (kk5 a0 a1 a2 a3 a4 h)) (a0 : Nat) (a1 : Int32) (a2 : Nat) (a4 : Int32) (ta0 : xTy a0 8) (ta2 : xTy a2 8) (h : Mem) : Rn G 0 FX8_isSame xcI 32 [(0, .ref (G.1 a0)), (1, .int a1), (2, .ref (G.1 a2)), (4, .int a4)] [] h (f_X8_isSame_32 kk5 a0 a1 a2 a4 h) := by
  unfold f_X8_isSame_32
  refine r_iconst dX8_isSame_32 xc_0 ?_
  exact r_sub [0, 1, 2, 3] rfl (t_X8_isSame_33 kk5 hk5 a0 a1 a2 a4 (0 : Int32) ta0 ta2 h)
def f_X8_isSame_5  : Nat → Nat → Int32 → Nat → Int32 → Int32 → Mem → Option (Int32 × Mem)
  | 0, _, _, _, _, _, _ => none
  | n + 1, a0, a1, a2, a3, a4, h =>
    if (4 : Int32) ≤ a4 then
        zg a3 (some (a3, h))
    else
        if a3 = 0 then
            f_X8_isSame_32 (f_X8_isSame_5 n) a0 a1 a2 a4 h
        else
            ald h a0 (a1 + a4) fun v1 =>
            ald h a2 a4 fun v2 =>
            if v1 = v2 then
                f_X8_isSame_33 (f_X8_isSame_5 n) a0 a1 a2 a4 (1 : Int32) h
            else
                f_X8_isSame_32 (f_X8_isSame_5 n) a0 a1 a2 a4 h
set_option maxRecDepth 20000 in
theorem t_X8_isSame_5 {G : xG}  : ∀ (n : Nat) (a0 : Nat) (a1 : Int32) (a2 : Nat) (a3 : Int32) (a4 : Int32) (ta0 : xTy a0 8) (ta2 : xTy a2 8) (h : Mem), Rn G 0 FX8_isSame xcI 5 [(0, .ref (G.1 a0)), (1, .int a1), (2, .ref (G.1 a2)), (3, .int a3), (4, .int a4)] [] h (f_X8_isSame_5 n a0 a1 a2 a3 a4 h) := by
  intro n
  induction n with
  | zero => intros; intro r hr; cases hr
  | succ n ih =>
    intro a0 a1 a2 a3 a4 ta0 ta2 h
    unfold f_X8_isSame_5
    refine r_iload (place := 4) dX8_isSame_5 rfl ?_
    refine r_iconst dX8_isSame_7 xc_4 ?_
    refine r_ic_ge (tgt := 40) dX8_isSame_8 (by decide) ?_ ?_
    · refine r_iload_n (place := 3) dX8_isSame_40 rfl rfl ?_
      exact r_zret dX8_isSame_41 rfl
    · refine r_iload_n (place := 3) dX8_isSame_11 rfl rfl ?_
      refine r_if_eq (tgt := 32) dX8_isSame_12 (by decide) ?_ ?_
      · exact r_sub [0, 1, 2, 4] rfl (t_X8_isSame_32 (f_X8_isSame_5 n) ih a0 a1 a2 a4 ta0 ta2 h)
      · refine r_aload_n (place := 0) dX8_isSame_15 rfl rfl ?_
        refine r_iload_n (place := 1) dX8_isSame_16 rfl rfl ?_
        refine r_iload (place := 4) dX8_isSame_17 rfl ?_
        refine r_iadd dX8_isSame_19 ?_
        refine r_iald dX8_isSame_20 ta0 (fun v1 => ?_)
        refine r_aload_n (place := 2) dX8_isSame_21 rfl rfl ?_
        refine r_iload (place := 4) dX8_isSame_22 rfl ?_
        refine r_iald dX8_isSame_24 ta2 (fun v2 => ?_)
        refine r_ic_ne (tgt := 32) dX8_isSame_25 (by decide) ?_ ?_
        · exact r_sub [0, 1, 2, 4] rfl (t_X8_isSame_32 (f_X8_isSame_5 n) ih a0 a1 a2 a4 ta0 ta2 h)
        · refine r_iconst dX8_isSame_28 xc_1 ?_
          refine r_goto (tgt := 33) dX8_isSame_29 (by decide) ?_
          exact r_sub [0, 1, 2, 4] rfl (t_X8_isSame_33 (f_X8_isSame_5 n) ih a0 a1 a2 a4 (1 : Int32) ta0 ta2 h)
def f_X8_isSame (a0 : Nat) (a1 : Int32) (a2 : Nat) (h : Mem) : Option (Int32 × Mem) :=
  f_X8_isSame_5 xFU a0 a1 a2 (1 : Int32) (0 : Int32) h
set_option maxRecDepth 20000 in
theorem c_X8_isSame {G : xG} (a0 : Nat) (ta0 : xTy a0 8) (a1 : Int32) (a2 : Nat) (ta2 : xTy a2 8) (h : Mem) : Sm G 0 yX8_isSame FX8_isSame xcI [.ref (G.1 a0), .int a1, .ref (G.1 a2)] h (f_X8_isSame a0 a1 a2 h) := by
  refine Sm.of pn_X8 rfl (Nat.le_of_ble_eq_true rfl) (ls := [(0, .ref (G.1 a0)), (1, .int a1), (2, .ref (G.1 a2))]) rfl ?_
  unfold f_X8_isSame
  refine r_iconst dX8_isSame_0 xc_1 ?_
  refine r_istore_n (ls' := [(3, .int (1 : Int32)), (0, .ref (G.1 a0)), (1, .int a1), (2, .ref (G.1 a2))]) dX8_isSame_1 rfl (by decide) rfl ?_
  refine r_iconst dX8_isSame_2 xc_0 ?_
  refine r_istore (ls' := [(4, .int (0 : Int32)), (3, .int (1 : Int32)), (0, .ref (G.1 a0)), (1, .int a1), (2, .ref (G.1 a2))]) dX8_isSame_3 (by decide) rfl ?_
  exact r_sub [2, 3, 4, 1, 0] rfl (t_X8_isSame_5 xFU a0 a1 a2 (1 : Int32) (0 : Int32) ta0 ta2 h)
def f_X8_subOf_58 (kk3 : Nat → Int32 → Nat → Int32 → Int32 → Mem → Option (Int32 × Mem)) (a0 : Nat) (a1 : Int32) (a2 : Nat) (a3 : Int32) (a4 : Int32) (h : Mem) : Option (Int32 × Mem) :=
  kk3 a0 a1 a2 a3 (a4 + (1 : Int32)) h
set_option maxRecDepth 20000 in
theorem t_X8_subOf_58 {G : xG} (kk3 : Nat → Int32 → Nat → Int32 → Int32 → Mem → Option (Int32 × Mem)) (hk3 : ∀ (a0 : Nat) (a1 : Int32) (a2 : Nat) (a3 : Int32) (a4 : Int32) (ta0 : xTy a0 8) (ta2 : xTy a2 8) (h : Mem), Rn G 1 FX8_subOf xcI 3 [(0, .ref (G.1 a0)), (1, .int a1), (2, .ref (G.1 a2)), (3, .int a3), (4, .int a4)] [] h (kk3 a0 a1 a2 a3 a4 h)) (a0 : Nat) (a1 : Int32) (a2 : Nat) (a3 : Int32) (a4 : Int32) (ta0 : xTy a0 8) (ta2 : xTy a2 8) (h : Mem) : Rn G 1 FX8_subOf xcI 58 [(0, .ref (G.1 a0)), (1, .int a1), (2, .ref (G.1 a2)), (3, .int a3), (4, .int a4)] [] h (f_X8_subOf_58 kk3 a0 a1 a2 a3 a4 h) := by
  unfold f_X8_subOf_58
  refine r_iincC (place := 4) (ls' := [(4, .int (a4 + (1 : Int32))), (0, .ref (G.1 a0)), (1, .int a1), (2, .ref (G.1 a2)), (3, .int a3)]) dX8_subOf_58 rfl xc_1 (by decide) rfl ?_
  refine r_goto (tgt := 3) dX8_subOf_61 (by decide) ?_
  exact r_sub [1, 2, 3, 4, 0] rfl (hk3 a0 a1 a2 a3 (a4 + (1 : Int32)) ta0 ta2 h)
def f_X8_subOf_3  : Nat → Nat → Int32 → Nat → Int32 → Int32 → Mem → Option (Int32 × Mem)
  | 0, _, _, _, _, _, _ => none
  | n + 1, a0, a1, a2, a3, a4, h =>
    b2 (f_X8_at a1 (3 : Int32) h) fun v2 h1 =>
    ald h1 a0 v2 fun v3 =>
    if v3 ≤ a4 then
        some ((-4 : Int32), h1)
    else
        b2 (f_X8_at a1 ((45 : Int32) + ((6 : Int32) * a4)) h1) fun v5 h4 =>
        b2 (f_X8_isSame a0 v5 a2 h4) fun v7 h6 =>
        if v7 = 0 then
            f_X8_subOf_58 (f_X8_subOf_3 n) a0 a1 a2 a3 a4 h6
        else
            b2 (f_X8_at a1 (((45 : Int32) + ((6 : Int32) * a4)) + (5 : Int32)) h6) fun v9 h8 =>
            ald h8 a0 v9 fun v10 =>
            if v10 = a3 then
                some (a4, h8)
            else
                f_X8_subOf_58 (f_X8_subOf_3 n) a0 a1 a2 a3 a4 h8
set_option maxRecDepth 20000 in
theorem t_X8_subOf_3 {G : xG}  : ∀ (n : Nat) (a0 : Nat) (a1 : Int32) (a2 : Nat) (a3 : Int32) (a4 : Int32) (ta0 : xTy a0 8) (ta2 : xTy a2 8) (h : Mem), Rn G 1 FX8_subOf xcI 3 [(0, .ref (G.1 a0)), (1, .int a1), (2, .ref (G.1 a2)), (3, .int a3), (4, .int a4)] [] h (f_X8_subOf_3 n a0 a1 a2 a3 a4 h) := by
  intro n
  induction n with
  | zero => intros; intro r hr; cases hr
  | succ n ih =>
    intro a0 a1 a2 a3 a4 ta0 ta2 h
    unfold f_X8_subOf_3
    refine r_iload (place := 4) dX8_subOf_3 rfl ?_
    refine r_aload_n (place := 0) dX8_subOf_5 rfl rfl ?_
    refine r_iload_n (place := 1) dX8_subOf_6 rfl rfl ?_
    refine r_iconst dX8_subOf_7 xc_3 ?_
    refine r_callSI (rest := [.ref (G.1 a0), .int a4]) dX8_subOf_8 m_X8_at lk_X8_115 (c_X8_at a1 (3 : Int32) h) (by decide) rfl rfl (Nat.le_of_ble_eq_true rfl) (fun v2 h1 => ?_)
    refine r_iald dX8_subOf_11 ta0 (fun v3 => ?_)
    refine r_ic_ge (tgt := 64) dX8_subOf_12 (by decide) ?_ ?_
    · refine r_bipush dX8_subOf_64 xb_m4 ?_
      exact r_iret dX8_subOf_66 rfl
    · refine r_aload_n (place := 0) dX8_subOf_15 rfl rfl ?_
      refine r_iload_n (place := 1) dX8_subOf_16 rfl rfl ?_
      refine r_bipush dX8_subOf_17 xb_45 ?_
      refine r_bipush dX8_subOf_19 xb_6 ?_
      refine r_iload (place := 4) dX8_subOf_21 rfl ?_
      refine r_imul dX8_subOf_23 ?_
      refine r_iadd dX8_subOf_24 ?_
      refine r_callSI (rest := [.ref (G.1 a0)]) dX8_subOf_25 m_X8_at lk_X8_115 (c_X8_at a1 ((45 : Int32) + ((6 : Int32) * a4)) h1) (by decide) rfl rfl (Nat.le_of_ble_eq_true rfl) (fun v5 h4 => ?_)
      refine r_aload_n (place := 2) dX8_subOf_28 rfl rfl ?_
      refine r_callSI (rest := []) dX8_subOf_29 m_X8_isSame lk_X8_119 (c_X8_isSame a0 ta0 v5 a2 ta2 h4) (by decide) rfl rfl (Nat.le_of_ble_eq_true rfl) (fun v7 h6 => ?_)
      refine r_if_eq (tgt := 58) dX8_subOf_32 (by decide) ?_ ?_
      · exact r_sub [0, 1, 2, 3, 4] rfl (t_X8_subOf_58 (f_X8_subOf_3 n) ih a0 a1 a2 a3 a4 ta0 ta2 h6)
      · refine r_aload_n (place := 0) dX8_subOf_35 rfl rfl ?_
        refine r_iload_n (place := 1) dX8_subOf_36 rfl rfl ?_
        refine r_bipush dX8_subOf_37 xb_45 ?_
        refine r_bipush dX8_subOf_39 xb_6 ?_
        refine r_iload (place := 4) dX8_subOf_41 rfl ?_
        refine r_imul dX8_subOf_43 ?_
        refine r_iadd dX8_subOf_44 ?_
        refine r_iconst dX8_subOf_45 xc_5 ?_
        refine r_iadd dX8_subOf_46 ?_
        refine r_callSI (rest := [.ref (G.1 a0)]) dX8_subOf_47 m_X8_at lk_X8_115 (c_X8_at a1 (((45 : Int32) + ((6 : Int32) * a4)) + (5 : Int32)) h6) (by decide) rfl rfl (Nat.le_of_ble_eq_true rfl) (fun v9 h8 => ?_)
        refine r_iald dX8_subOf_50 ta0 (fun v10 => ?_)
        refine r_iload_n (place := 3) dX8_subOf_51 rfl rfl ?_
        refine r_ic_ne (tgt := 58) dX8_subOf_52 (by decide) ?_ ?_
        · exact r_sub [0, 1, 2, 3, 4] rfl (t_X8_subOf_58 (f_X8_subOf_3 n) ih a0 a1 a2 a3 a4 ta0 ta2 h8)
        · refine r_iload (place := 4) dX8_subOf_55 rfl ?_
          exact r_iret dX8_subOf_57 rfl
def f_X8_subOf (a0 : Nat) (a1 : Int32) (a2 : Nat) (a3 : Int32) (h : Mem) : Option (Int32 × Mem) :=
  f_X8_subOf_3 xFU a0 a1 a2 a3 (0 : Int32) h
set_option maxRecDepth 20000 in
theorem c_X8_subOf {G : xG} (a0 : Nat) (ta0 : xTy a0 8) (a1 : Int32) (a2 : Nat) (ta2 : xTy a2 8) (a3 : Int32) (h : Mem) : Sm G 1 yX8_subOf FX8_subOf xcI [.ref (G.1 a0), .int a1, .ref (G.1 a2), .int a3] h (f_X8_subOf a0 a1 a2 a3 h) := by
  refine Sm.of pn_X8 rfl (Nat.le_of_ble_eq_true rfl) (ls := [(0, .ref (G.1 a0)), (1, .int a1), (2, .ref (G.1 a2)), (3, .int a3)]) rfl ?_
  unfold f_X8_subOf
  refine r_iconst dX8_subOf_0 xc_0 ?_
  refine r_istore (ls' := [(4, .int (0 : Int32)), (0, .ref (G.1 a0)), (1, .int a1), (2, .ref (G.1 a2)), (3, .int a3)]) dX8_subOf_1 (by decide) rfl ?_
  exact r_sub [1, 2, 3, 4, 0] rfl (t_X8_subOf_3 xFU a0 a1 a2 a3 (0 : Int32) ta0 ta2 h)
def f_X8_keptOf_2  : Nat → Nat → Nat → Int32 → Mem → Option (Int32 × Mem)
  | 0, _, _, _, _ => none
  | n + 1, a0, a1, a2, h =>
    ald h a0 (6 : Int32) fun v1 =>
    if v1 ≤ a2 then
        some ((-4 : Int32), h)
    else
        b2 (f_X8_isSame a0 ((8 : Int32) + ((7 : Int32) * a2)) a1 h) fun v3 h2 =>
        if v3 = 0 then
            (f_X8_keptOf_2 n) a0 a1 (a2 + (1 : Int32)) h2
        else
            some (a2, h2)
set_option maxRecDepth 20000 in
theorem t_X8_keptOf_2 {G : xG}  : ∀ (n : Nat) (a0 : Nat) (a1 : Nat) (a2 : Int32) (ta0 : xTy a0 8) (ta1 : xTy a1 8) (h : Mem), Rn G 1 FX8_keptOf xcI 2 [(0, .ref (G.1 a0)), (1, .ref (G.1 a1)), (2, .int a2)] [] h (f_X8_keptOf_2 n a0 a1 a2 h) := by
  intro n
  induction n with
  | zero => intros; intro r hr; cases hr
  | succ n ih =>
    intro a0 a1 a2 ta0 ta1 h
    unfold f_X8_keptOf_2
    refine r_iload_n (place := 2) dX8_keptOf_2 rfl rfl ?_
    refine r_aload_n (place := 0) dX8_keptOf_3 rfl rfl ?_
    refine r_bipush dX8_keptOf_4 xb_6 ?_
    refine r_iald dX8_keptOf_6 ta0 (fun v1 => ?_)
    refine r_ic_ge (tgt := 33) dX8_keptOf_7 (by decide) ?_ ?_
    · refine r_bipush dX8_keptOf_33 xb_m4 ?_
      exact r_iret dX8_keptOf_35 rfl
    · refine r_aload_n (place := 0) dX8_keptOf_10 rfl rfl ?_
      refine r_bipush dX8_keptOf_11 xb_8 ?_
      refine r_bipush dX8_keptOf_13 xb_7 ?_
      refine r_iload_n (place := 2) dX8_keptOf_15 rfl rfl ?_
      refine r_imul dX8_keptOf_16 ?_
      refine r_iadd dX8_keptOf_17 ?_
      refine r_aload_n (place := 1) dX8_keptOf_18 rfl rfl ?_
      refine r_callSI (rest := []) dX8_keptOf_19 m_X8_isSame lk_X8_119 (c_X8_isSame a0 ta0 ((8 : Int32) + ((7 : Int32) * a2)) a1 ta1 h) (by decide) rfl rfl (Nat.le_of_ble_eq_true rfl) (fun v3 h2 => ?_)
      refine r_if_eq (tgt := 27) dX8_keptOf_22 (by decide) ?_ ?_
      · refine r_iincC (place := 2) (ls' := [(2, .int (a2 + (1 : Int32))), (0, .ref (G.1 a0)), (1, .ref (G.1 a1))]) dX8_keptOf_27 rfl xc_1 (by decide) rfl ?_
        refine r_goto (tgt := 2) dX8_keptOf_30 (by decide) ?_
        exact r_sub [1, 2, 0] rfl (ih a0 a1 (a2 + (1 : Int32)) ta0 ta1 h2)
      · refine r_iload_n (place := 2) dX8_keptOf_25 rfl rfl ?_
        exact r_iret dX8_keptOf_26 rfl
def f_X8_keptOf (a0 : Nat) (a1 : Nat) (h : Mem) : Option (Int32 × Mem) :=
  f_X8_keptOf_2 xFU a0 a1 (0 : Int32) h
set_option maxRecDepth 20000 in
theorem c_X8_keptOf {G : xG} (a0 : Nat) (ta0 : xTy a0 8) (a1 : Nat) (ta1 : xTy a1 8) (h : Mem) : Sm G 1 yX8_keptOf FX8_keptOf xcI [.ref (G.1 a0), .ref (G.1 a1)] h (f_X8_keptOf a0 a1 h) := by
  refine Sm.of pn_X8 rfl (Nat.le_of_ble_eq_true rfl) (ls := [(0, .ref (G.1 a0)), (1, .ref (G.1 a1))]) rfl ?_
  unfold f_X8_keptOf
  refine r_iconst dX8_keptOf_0 xc_0 ?_
  refine r_istore_n (ls' := [(2, .int (0 : Int32)), (0, .ref (G.1 a0)), (1, .ref (G.1 a1))]) dX8_keptOf_1 rfl (by decide) rfl ?_
  exact r_sub [1, 2, 0] rfl (t_X8_keptOf_2 xFU a0 a1 (0 : Int32) ta0 ta1 h)
def f_X8_subComes_12  : Nat → Nat → Int32 → Nat → Int32 → Int32 → Int32 → Int32 → Mem → Option (Unit × Mem)
  | 0, _, _, _, _, _, _, _, _ => none
  | n + 1, a0, a1, a2, a3, a4, a5, a6, h =>
    if (4 : Int32) ≤ a6 then
        b2 (f_X8_at a1 (((45 : Int32) + ((6 : Int32) * a5)) + (4 : Int32)) h) fun v2 h1 =>
        ast h1 a0 v2 a3 fun h3 =>
        b2 (f_X8_at a1 (((45 : Int32) + ((6 : Int32) * a5)) + (5 : Int32)) h3) fun v5 h4 =>
        ast h4 a0 v5 a4 fun h6 =>
        b2 (f_X8_at a1 (3 : Int32) h6) fun v8 h7 =>
        ald h7 a0 v8 fun v9 =>
        ast h7 a0 v8 (v9 + (1 : Int32)) fun h10 =>
        some ((), h10)
    else
        b2 (f_X8_at a1 (((45 : Int32) + ((6 : Int32) * a5)) + a6) h) fun v12 h11 =>
        ald h11 a2 a6 fun v13 =>
        ast h11 a0 v12 v13 fun h14 =>
        (f_X8_subComes_12 n) a0 a1 a2 a3 a4 a5 (a6 + (1 : Int32)) h14
set_option maxRecDepth 20000 in
theorem t_X8_subComes_12 {G : xG}  : ∀ (n : Nat) (a0 : Nat) (a1 : Int32) (a2 : Nat) (a3 : Int32) (a4 : Int32) (a5 : Int32) (a6 : Int32) (ta0 : xTy a0 8) (ta2 : xTy a2 8) (h : Mem), Rn G 1 FX8_subComes xcV 12 [(0, .ref (G.1 a0)), (1, .int a1), (2, .ref (G.1 a2)), (3, .int a3), (4, .int a4), (5, .int a5), (6, .int a6)] [] h (f_X8_subComes_12 n a0 a1 a2 a3 a4 a5 a6 h) := by
  intro n
  induction n with
  | zero => intros; intro r hr; cases hr
  | succ n ih =>
    intro a0 a1 a2 a3 a4 a5 a6 ta0 ta2 h
    unfold f_X8_subComes_12
    refine r_iload (place := 6) dX8_subComes_12 rfl ?_
    refine r_iconst dX8_subComes_14 xc_4 ?_
    refine r_ic_ge (tgt := 45) dX8_subComes_15 (by decide) ?_ ?_
    · refine r_aload_n (place := 0) dX8_subComes_45 rfl rfl ?_
      refine r_iload_n (place := 1) dX8_subComes_46 rfl rfl ?_
      refine r_bipush dX8_subComes_47 xb_45 ?_
      refine r_bipush dX8_subComes_49 xb_6 ?_
      refine r_iload (place := 5) dX8_subComes_51 rfl ?_
      refine r_imul dX8_subComes_53 ?_
      refine r_iadd dX8_subComes_54 ?_
      refine r_iconst dX8_subComes_55 xc_4 ?_
      refine r_iadd dX8_subComes_56 ?_
      refine r_callSI (rest := [.ref (G.1 a0)]) dX8_subComes_57 m_X8_at lk_X8_115 (c_X8_at a1 (((45 : Int32) + ((6 : Int32) * a5)) + (4 : Int32)) h) (by decide) rfl rfl (Nat.le_of_ble_eq_true rfl) (fun v2 h1 => ?_)
      refine r_iload_n (place := 3) dX8_subComes_60 rfl rfl ?_
      refine r_iast dX8_subComes_61 ta0 (fun h3 => ?_)
      refine r_aload_n (place := 0) dX8_subComes_62 rfl rfl ?_
      refine r_iload_n (place := 1) dX8_subComes_63 rfl rfl ?_
      refine r_bipush dX8_subComes_64 xb_45 ?_
      refine r_bipush dX8_subComes_66 xb_6 ?_
      refine r_iload (place := 5) dX8_subComes_68 rfl ?_
      refine r_imul dX8_subComes_70 ?_
      refine r_iadd dX8_subComes_71 ?_
      refine r_iconst dX8_subComes_72 xc_5 ?_
      refine r_iadd dX8_subComes_73 ?_
      refine r_callSI (rest := [.ref (G.1 a0)]) dX8_subComes_74 m_X8_at lk_X8_115 (c_X8_at a1 (((45 : Int32) + ((6 : Int32) * a5)) + (5 : Int32)) h3) (by decide) rfl rfl (Nat.le_of_ble_eq_true rfl) (fun v5 h4 => ?_)
      refine r_iload (place := 4) dX8_subComes_77 rfl ?_
      refine r_iast dX8_subComes_79 ta0 (fun h6 => ?_)
      refine r_aload_n (place := 0) dX8_subComes_80 rfl rfl ?_
      refine r_iload_n (place := 1) dX8_subComes_81 rfl rfl ?_
      refine r_iconst dX8_subComes_82 xc_3 ?_
      refine r_callSI (rest := [.ref (G.1 a0)]) dX8_subComes_83 m_X8_at lk_X8_115 (c_X8_at a1 (3 : Int32) h6) (by decide) rfl rfl (Nat.le_of_ble_eq_true rfl) (fun v8 h7 => ?_)
      refine r_dup2 dX8_subComes_86 rfl rfl ?_
      refine r_iald dX8_subComes_87 ta0 (fun v9 => ?_)
      refine r_iconst dX8_subComes_88 xc_1 ?_
      refine r_iadd dX8_subComes_89 ?_
      refine r_iast dX8_subComes_90 ta0 (fun h10 => ?_)
      exact r_ret dX8_subComes_91 rfl
    · refine r_aload_n (place := 0) dX8_subComes_18 rfl rfl ?_
      refine r_iload_n (place := 1) dX8_subComes_19 rfl rfl ?_
      refine r_bipush dX8_subComes_20 xb_45 ?_
      refine r_bipush dX8_subComes_22 xb_6 ?_
      refine r_iload (place := 5) dX8_subComes_24 rfl ?_
      refine r_imul dX8_subComes_26 ?_
      refine r_iadd dX8_subComes_27 ?_
      refine r_iload (place := 6) dX8_subComes_28 rfl ?_
      refine r_iadd dX8_subComes_30 ?_
      refine r_callSI (rest := [.ref (G.1 a0)]) dX8_subComes_31 m_X8_at lk_X8_115 (c_X8_at a1 (((45 : Int32) + ((6 : Int32) * a5)) + a6) h) (by decide) rfl rfl (Nat.le_of_ble_eq_true rfl) (fun v12 h11 => ?_)
      refine r_aload_n (place := 2) dX8_subComes_34 rfl rfl ?_
      refine r_iload (place := 6) dX8_subComes_35 rfl ?_
      refine r_iald dX8_subComes_37 ta2 (fun v13 => ?_)
      refine r_iast dX8_subComes_38 ta0 (fun h14 => ?_)
      refine r_iincC (place := 6) (ls' := [(6, .int (a6 + (1 : Int32))), (0, .ref (G.1 a0)), (1, .int a1), (2, .ref (G.1 a2)), (3, .int a3), (4, .int a4), (5, .int a5)]) dX8_subComes_39 rfl xc_1 (by decide) rfl ?_
      refine r_goto (tgt := 12) dX8_subComes_42 (by decide) ?_
      exact r_sub [1, 2, 3, 4, 5, 6, 0] rfl (ih a0 a1 a2 a3 a4 a5 (a6 + (1 : Int32)) ta0 ta2 h14)
def f_X8_subComes (a0 : Nat) (a1 : Int32) (a2 : Nat) (a3 : Int32) (a4 : Int32) (h : Mem) : Option (Unit × Mem) :=
  b2 (f_X8_at a1 (3 : Int32) h) fun v2 h1 =>
  ald h1 a0 v2 fun v3 =>
  f_X8_subComes_12 xFU a0 a1 a2 a3 a4 v3 (0 : Int32) h1
set_option maxRecDepth 20000 in
theorem c_X8_subComes {G : xG} (a0 : Nat) (ta0 : xTy a0 8) (a1 : Int32) (a2 : Nat) (ta2 : xTy a2 8) (a3 : Int32) (a4 : Int32) (h : Mem) : Sm G 1 yX8_subComes FX8_subComes xcV [.ref (G.1 a0), .int a1, .ref (G.1 a2), .int a3, .int a4] h (f_X8_subComes a0 a1 a2 a3 a4 h) := by
  refine Sm.of pn_X8 rfl (Nat.le_of_ble_eq_true rfl) (ls := [(0, .ref (G.1 a0)), (1, .int a1), (2, .ref (G.1 a2)), (3, .int a3), (4, .int a4)]) rfl ?_
  unfold f_X8_subComes
  refine r_aload_n (place := 0) dX8_subComes_0 rfl rfl ?_
  refine r_iload_n (place := 1) dX8_subComes_1 rfl rfl ?_
  refine r_iconst dX8_subComes_2 xc_3 ?_
  refine r_callSI (rest := [.ref (G.1 a0)]) dX8_subComes_3 m_X8_at lk_X8_115 (c_X8_at a1 (3 : Int32) h) (by decide) rfl rfl (Nat.le_of_ble_eq_true rfl) (fun v2 h1 => ?_)
  refine r_iald dX8_subComes_6 ta0 (fun v3 => ?_)
  refine r_istore (ls' := [(5, .int v3), (0, .ref (G.1 a0)), (1, .int a1), (2, .ref (G.1 a2)), (3, .int a3), (4, .int a4)]) dX8_subComes_7 (by decide) rfl ?_
  refine r_iconst dX8_subComes_9 xc_0 ?_
  refine r_istore (ls' := [(6, .int (0 : Int32)), (5, .int v3), (0, .ref (G.1 a0)), (1, .int a1), (2, .ref (G.1 a2)), (3, .int a3), (4, .int a4)]) dX8_subComes_10 (by decide) rfl ?_
  exact r_sub [2, 3, 4, 5, 6, 1, 0] rfl (t_X8_subComes_12 xFU a0 a1 a2 a3 a4 v3 (0 : Int32) ta0 ta2 h1)
def f_X8_keptComes_15  : Nat → Nat → Nat → Int32 → Int32 → Int32 → Int32 → Int32 → Mem → Option (Unit × Mem)
  | 0, _, _, _, _, _, _, _, _ => none
  | n + 1, a0, a1, a2, a3, a4, a5, a6, h =>
    if (4 : Int32) ≤ a6 then
        ast h a0 (a5 + (4 : Int32)) a2 fun h1 =>
        ast h1 a0 (a5 + (5 : Int32)) a3 fun h2 =>
        ast h2 a0 (a5 + (6 : Int32)) a4 fun h3 =>
        ald h3 a0 (6 : Int32) fun v4 =>
        ast h3 a0 (6 : Int32) (v4 + (1 : Int32)) fun h5 =>
        some ((), h5)
    else
        ald h a1 a6 fun v6 =>
        ast h a0 (a5 + a6) v6 fun h7 =>
        (f_X8_keptComes_15 n) a0 a1 a2 a3 a4 a5 (a6 + (1 : Int32)) h7
set_option maxRecDepth 20000 in
theorem t_X8_keptComes_15 {G : xG}  : ∀ (n : Nat) (a0 : Nat) (a1 : Nat) (a2 : Int32) (a3 : Int32) (a4 : Int32) (a5 : Int32) (a6 : Int32) (ta0 : xTy a0 8) (ta1 : xTy a1 8) (h : Mem), Rn G 0 FX8_keptComes xcV 15 [(0, .ref (G.1 a0)), (1, .ref (G.1 a1)), (2, .int a2), (3, .int a3), (4, .int a4), (5, .int a5), (6, .int a6)] [] h (f_X8_keptComes_15 n a0 a1 a2 a3 a4 a5 a6 h) := by
  intro n
  induction n with
  | zero => intros; intro r hr; cases hr
  | succ n ih =>
    intro a0 a1 a2 a3 a4 a5 a6 ta0 ta1 h
    unfold f_X8_keptComes_15
    refine r_iload (place := 6) dX8_keptComes_15 rfl ?_
    refine r_iconst dX8_keptComes_17 xc_4 ?_
    refine r_ic_ge (tgt := 38) dX8_keptComes_18 (by decide) ?_ ?_
    · refine r_aload_n (place := 0) dX8_keptComes_38 rfl rfl ?_
      refine r_iload (place := 5) dX8_keptComes_39 rfl ?_
      refine r_iconst dX8_keptComes_41 xc_4 ?_
      refine r_iadd dX8_keptComes_42 ?_
      refine r_iload_n (place := 2) dX8_keptComes_43 rfl rfl ?_
      refine r_iast dX8_keptComes_44 ta0 (fun h1 => ?_)
      refine r_aload_n (place := 0) dX8_keptComes_45 rfl rfl ?_
      refine r_iload (place := 5) dX8_keptComes_46 rfl ?_
      refine r_iconst dX8_keptComes_48 xc_5 ?_
      refine r_iadd dX8_keptComes_49 ?_
      refine r_iload_n (place := 3) dX8_keptComes_50 rfl rfl ?_
      refine r_iast dX8_keptComes_51 ta0 (fun h2 => ?_)
      refine r_aload_n (place := 0) dX8_keptComes_52 rfl rfl ?_
      refine r_iload (place := 5) dX8_keptComes_53 rfl ?_
      refine r_bipush dX8_keptComes_55 xb_6 ?_
      refine r_iadd dX8_keptComes_57 ?_
      refine r_iload (place := 4) dX8_keptComes_58 rfl ?_
      refine r_iast dX8_keptComes_60 ta0 (fun h3 => ?_)
      refine r_aload_n (place := 0) dX8_keptComes_61 rfl rfl ?_
      refine r_bipush dX8_keptComes_62 xb_6 ?_
      refine r_dup2 dX8_keptComes_64 rfl rfl ?_
      refine r_iald dX8_keptComes_65 ta0 (fun v4 => ?_)
      refine r_iconst dX8_keptComes_66 xc_1 ?_
      refine r_iadd dX8_keptComes_67 ?_
      refine r_iast dX8_keptComes_68 ta0 (fun h5 => ?_)
      exact r_ret dX8_keptComes_69 rfl
    · refine r_aload_n (place := 0) dX8_keptComes_21 rfl rfl ?_
      refine r_iload (place := 5) dX8_keptComes_22 rfl ?_
      refine r_iload (place := 6) dX8_keptComes_24 rfl ?_
      refine r_iadd dX8_keptComes_26 ?_
      refine r_aload_n (place := 1) dX8_keptComes_27 rfl rfl ?_
      refine r_iload (place := 6) dX8_keptComes_28 rfl ?_
      refine r_iald dX8_keptComes_30 ta1 (fun v6 => ?_)
      refine r_iast dX8_keptComes_31 ta0 (fun h7 => ?_)
      refine r_iincC (place := 6) (ls' := [(6, .int (a6 + (1 : Int32))), (0, .ref (G.1 a0)), (1, .ref (G.1 a1)), (2, .int a2), (3, .int a3), (4, .int a4), (5, .int a5)]) dX8_keptComes_32 rfl xc_1 (by decide) rfl ?_
      refine r_goto (tgt := 15) dX8_keptComes_35 (by decide) ?_
      exact r_sub [1, 2, 3, 4, 5, 6, 0] rfl (ih a0 a1 a2 a3 a4 a5 (a6 + (1 : Int32)) ta0 ta1 h7)
def f_X8_keptComes (a0 : Nat) (a1 : Nat) (a2 : Int32) (a3 : Int32) (a4 : Int32) (h : Mem) : Option (Unit × Mem) :=
  ald h a0 (6 : Int32) fun v1 =>
  f_X8_keptComes_15 xFU a0 a1 a2 a3 a4 ((8 : Int32) + ((7 : Int32) * v1)) (0 : Int32) h
set_option maxRecDepth 20000 in
theorem c_X8_keptComes {G : xG} (a0 : Nat) (ta0 : xTy a0 8) (a1 : Nat) (ta1 : xTy a1 8) (a2 : Int32) (a3 : Int32) (a4 : Int32) (h : Mem) : Sm G 0 yX8_keptComes FX8_keptComes xcV [.ref (G.1 a0), .ref (G.1 a1), .int a2, .int a3, .int a4] h (f_X8_keptComes a0 a1 a2 a3 a4 h) := by
  refine Sm.of pn_X8 rfl (Nat.le_of_ble_eq_true rfl) (ls := [(0, .ref (G.1 a0)), (1, .ref (G.1 a1)), (2, .int a2), (3, .int a3), (4, .int a4)]) rfl ?_
  unfold f_X8_keptComes
  refine r_bipush dX8_keptComes_0 xb_8 ?_
  refine r_bipush dX8_keptComes_2 xb_7 ?_
  refine r_aload_n (place := 0) dX8_keptComes_4 rfl rfl ?_
  refine r_bipush dX8_keptComes_5 xb_6 ?_
  refine r_iald dX8_keptComes_7 ta0 (fun v1 => ?_)
  refine r_imul dX8_keptComes_8 ?_
  refine r_iadd dX8_keptComes_9 ?_
  refine r_istore (ls' := [(5, .int ((8 : Int32) + ((7 : Int32) * v1))), (0, .ref (G.1 a0)), (1, .ref (G.1 a1)), (2, .int a2), (3, .int a3), (4, .int a4)]) dX8_keptComes_10 (by decide) rfl ?_
  refine r_iconst dX8_keptComes_12 xc_0 ?_
  refine r_istore (ls' := [(6, .int (0 : Int32)), (5, .int ((8 : Int32) + ((7 : Int32) * v1))), (0, .ref (G.1 a0)), (1, .ref (G.1 a1)), (2, .int a2), (3, .int a3), (4, .int a4)]) dX8_keptComes_13 (by decide) rfl ?_
  exact r_sub [2, 3, 4, 5, 6, 1, 0] rfl (t_X8_keptComes_15 xFU a0 a1 a2 a3 a4 ((8 : Int32) + ((7 : Int32) * v1)) (0 : Int32) ta0 ta1 h)
def f_X8_readsSub_115  (a0 : Nat) (a1 : Int32) (a2 : Int32) (a3 : Int32) (s0 : Nat) (s1 : Int32) (h : Mem) : Option (Unit × Mem) :=
  b2 (f_X8_must s0 s1 (5 : Int32) h) fun _ h1 =>
  if (h1 a0 8) = 0 then
      b2 (f_X8_subComes (xrf a0 1) a1 (xrf a0 14) a2 a3 h1) fun _ h2 =>
      b2 (f_X8_at a1 (0 : Int32) h2) fun v4 h3 =>
      ast h3 (xrf a0 1) v4 (2 : Int32) fun h5 =>
      b2 (f_X8_at a1 (1 : Int32) h5) fun v7 h6 =>
      ast h6 (xrf a0 1) v7 (99 : Int32) fun h8 =>
      b2 (f_X8_at a1 (2 : Int32) h8) fun v10 h9 =>
      ast h9 (xrf a0 1) v10 (99 : Int32) fun h11 =>
      some ((), h11)
  else
      some ((), h1)
set_option maxRecDepth 20000 in
theorem t_X8_readsSub_115 {G : xG}  (a0 : Nat) (a1 : Int32) (a2 : Int32) (a3 : Int32) (s0 : Nat) (s1 : Int32) (ta0 : xTy a0 7) (ts0 : xTy s0 7) (h : Mem) : Rn G 4 FX8_readsSub xcV 115 [(0, .ref (G.1 a0)), (1, .int a1), (2, .int a2), (3, .int a3)] [.int s1, .ref (G.1 s0)] h (f_X8_readsSub_115 a0 a1 a2 a3 s0 s1 h) := by
  unfold f_X8_readsSub_115
  refine r_iconst dX8_readsSub_115 xc_5 ?_
  refine r_callVV (rest := []) dX8_readsSub_116 m_X8_must lk_X8_97 rfl (by decide) ts0 (c_X8_must s0 ts0 s1 (5 : Int32) h) (by decide) rfl rfl (Nat.le_of_ble_eq_true rfl) (fun h1 => ?_)
  refine r_aload_n (place := 0) dX8_readsSub_119 rfl rfl ?_
  refine r_getI dX8_readsSub_120 fg_X8_67 ta0 ?_
  refine r_if_ne (tgt := 175) dX8_readsSub_123 (by decide) ?_ ?_
  · exact r_ret dX8_readsSub_175 rfl
  · refine r_aload_n (place := 0) dX8_readsSub_126 rfl rfl ?_
    refine r_getR dX8_readsSub_127 fg_X8_13 ta0 ?_
    refine r_iload_n (place := 1) dX8_readsSub_130 rfl rfl ?_
    refine r_aload_n (place := 0) dX8_readsSub_131 rfl rfl ?_
    refine r_getR dX8_readsSub_132 fg_X8_29 ta0 ?_
    refine r_iload_n (place := 2) dX8_readsSub_135 rfl rfl ?_
    refine r_iload_n (place := 3) dX8_readsSub_136 rfl rfl ?_
    refine r_callSV (rest := []) dX8_readsSub_137 m_X8_subComes lk_X8_133 (c_X8_subComes (xrf a0 1) (xt_7_1 ta0) a1 (xrf a0 14) (xt_7_14 ta0) a2 a3 h1) (by decide) rfl rfl (Nat.le_of_ble_eq_true rfl) (fun h2 => ?_)
    refine r_aload_n (place := 0) dX8_readsSub_140 rfl rfl ?_
    refine r_getR dX8_readsSub_141 fg_X8_13 ta0 ?_
    refine r_iload_n (place := 1) dX8_readsSub_144 rfl rfl ?_
    refine r_iconst dX8_readsSub_145 xc_0 ?_
    refine r_callSI (rest := [.ref (G.1 (xrf a0 1))]) dX8_readsSub_146 m_X8_at lk_X8_115 (c_X8_at a1 (0 : Int32) h2) (by decide) rfl rfl (Nat.le_of_ble_eq_true rfl) (fun v4 h3 => ?_)
    refine r_iconst dX8_readsSub_149 xc_2 ?_
    refine r_iast dX8_readsSub_150 (xt_7_1 ta0) (fun h5 => ?_)
    refine r_aload_n (place := 0) dX8_readsSub_151 rfl rfl ?_
    refine r_getR dX8_readsSub_152 fg_X8_13 ta0 ?_
    refine r_iload_n (place := 1) dX8_readsSub_155 rfl rfl ?_
    refine r_iconst dX8_readsSub_156 xc_1 ?_
    refine r_callSI (rest := [.ref (G.1 (xrf a0 1))]) dX8_readsSub_157 m_X8_at lk_X8_115 (c_X8_at a1 (1 : Int32) h5) (by decide) rfl rfl (Nat.le_of_ble_eq_true rfl) (fun v7 h6 => ?_)
    refine r_bipush dX8_readsSub_160 xb_99 ?_
    refine r_iast dX8_readsSub_162 (xt_7_1 ta0) (fun h8 => ?_)
    refine r_aload_n (place := 0) dX8_readsSub_163 rfl rfl ?_
    refine r_getR dX8_readsSub_164 fg_X8_13 ta0 ?_
    refine r_iload_n (place := 1) dX8_readsSub_167 rfl rfl ?_
    refine r_iconst dX8_readsSub_168 xc_2 ?_
    refine r_callSI (rest := [.ref (G.1 (xrf a0 1))]) dX8_readsSub_169 m_X8_at lk_X8_115 (c_X8_at a1 (2 : Int32) h8) (by decide) rfl rfl (Nat.le_of_ble_eq_true rfl) (fun v10 h9 => ?_)
    refine r_bipush dX8_readsSub_172 xb_99 ?_
    refine r_iast dX8_readsSub_174 (xt_7_1 ta0) (fun h11 => ?_)
    exact r_ret dX8_readsSub_175 rfl
def f_X8_readsSub_110  (a0 : Nat) (a1 : Int32) (a2 : Int32) (a3 : Int32) (s0 : Nat) (h : Mem) : Option (Unit × Mem) :=
  f_X8_readsSub_115 a0 a1 a2 a3 s0 (1 : Int32) h
set_option maxRecDepth 20000 in
theorem t_X8_readsSub_110 {G : xG}  (a0 : Nat) (a1 : Int32) (a2 : Int32) (a3 : Int32) (s0 : Nat) (ta0 : xTy a0 7) (ts0 : xTy s0 7) (h : Mem) : Rn G 4 FX8_readsSub xcV 110 [(0, .ref (G.1 a0)), (1, .int a1), (2, .int a2), (3, .int a3)] [.ref (G.1 s0)] h (f_X8_readsSub_110 a0 a1 a2 a3 s0 h) := by
  unfold f_X8_readsSub_110
  refine r_iconst dX8_readsSub_110 xc_1 ?_
  refine r_goto (tgt := 115) dX8_readsSub_111 (by decide) ?_
  exact r_sub [0, 1, 2, 3] rfl (t_X8_readsSub_115 a0 a1 a2 a3 s0 (1 : Int32) ta0 ts0 h)
def f_X8_readsSub_83  (a0 : Nat) (a1 : Int32) (a2 : Int32) (a3 : Int32) (s0 : Nat) (s1 : Int32) (h : Mem) : Option (Unit × Mem) :=
  b2 (f_X8_must s0 s1 (4 : Int32) h) fun _ h1 =>
  if 0 < (h1 a0 8) then
      f_X8_readsSub_110 a0 a1 a2 a3 a0 h1
  else
      b2 (f_X8_at a1 (3 : Int32) h1) fun v3 h2 =>
      ald h2 (xrf a0 1) v3 fun v4 =>
      if (6 : Int32) ≤ v4 then
          f_X8_readsSub_115 a0 a1 a2 a3 a0 (0 : Int32) h2
      else
          f_X8_readsSub_110 a0 a1 a2 a3 a0 h2
set_option maxRecDepth 20000 in
theorem t_X8_readsSub_83 {G : xG}  (a0 : Nat) (a1 : Int32) (a2 : Int32) (a3 : Int32) (s0 : Nat) (s1 : Int32) (ta0 : xTy a0 7) (ts0 : xTy s0 7) (h : Mem) : Rn G 4 FX8_readsSub xcV 83 [(0, .ref (G.1 a0)), (1, .int a1), (2, .int a2), (3, .int a3)] [.int s1, .ref (G.1 s0)] h (f_X8_readsSub_83 a0 a1 a2 a3 s0 s1 h) := by
  unfold f_X8_readsSub_83
  refine r_iconst dX8_readsSub_83 xc_4 ?_
  refine r_callVV (rest := []) dX8_readsSub_84 m_X8_must lk_X8_97 rfl (by decide) ts0 (c_X8_must s0 ts0 s1 (4 : Int32) h) (by decide) rfl rfl (Nat.le_of_ble_eq_true rfl) (fun h1 => ?_)
  refine r_aload_n (place := 0) dX8_readsSub_87 rfl rfl ?_
  refine r_aload_n (place := 0) dX8_readsSub_88 rfl rfl ?_
  refine r_getI dX8_readsSub_89 fg_X8_67 ta0 ?_
  refine r_if_gt (tgt := 110) dX8_readsSub_92 (by decide) ?_ ?_
  · exact r_sub [0, 1, 2, 3] rfl (t_X8_readsSub_110 a0 a1 a2 a3 a0 ta0 ta0 h1)
  · refine r_aload_n (place := 0) dX8_readsSub_95 rfl rfl ?_
    refine r_getR dX8_readsSub_96 fg_X8_13 ta0 ?_
    refine r_iload_n (place := 1) dX8_readsSub_99 rfl rfl ?_
    refine r_iconst dX8_readsSub_100 xc_3 ?_
    refine r_callSI (rest := [.ref (G.1 (xrf a0 1)), .ref (G.1 a0)]) dX8_readsSub_101 m_X8_at lk_X8_115 (c_X8_at a1 (3 : Int32) h1) (by decide) rfl rfl (Nat.le_of_ble_eq_true rfl) (fun v3 h2 => ?_)
    refine r_iald dX8_readsSub_104 (xt_7_1 ta0) (fun v4 => ?_)
    refine r_bipush dX8_readsSub_105 xb_6 ?_
    refine r_ic_ge (tgt := 114) dX8_readsSub_107 (by decide) ?_ ?_
    · refine r_iconst dX8_readsSub_114 xc_0 ?_
      exact r_sub [0, 1, 2, 3] rfl (t_X8_readsSub_115 a0 a1 a2 a3 a0 (0 : Int32) ta0 ta0 h2)
    · exact r_sub [0, 1, 2, 3] rfl (t_X8_readsSub_110 a0 a1 a2 a3 a0 ta0 ta0 h2)
def f_X8_readsSub_78  (a0 : Nat) (a1 : Int32) (a2 : Int32) (a3 : Int32) (s0 : Nat) (h : Mem) : Option (Unit × Mem) :=
  f_X8_readsSub_83 a0 a1 a2 a3 s0 (1 : Int32) h
set_option maxRecDepth 20000 in
theorem t_X8_readsSub_78 {G : xG}  (a0 : Nat) (a1 : Int32) (a2 : Int32) (a3 : Int32) (s0 : Nat) (ta0 : xTy a0 7) (ts0 : xTy s0 7) (h : Mem) : Rn G 4 FX8_readsSub xcV 78 [(0, .ref (G.1 a0)), (1, .int a1), (2, .int a2), (3, .int a3)] [.ref (G.1 s0)] h (f_X8_readsSub_78 a0 a1 a2 a3 s0 h) := by
  unfold f_X8_readsSub_78
  refine r_iconst dX8_readsSub_78 xc_1 ?_
  refine r_goto (tgt := 83) dX8_readsSub_79 (by decide) ?_
  exact r_sub [0, 1, 2, 3] rfl (t_X8_readsSub_83 a0 a1 a2 a3 s0 (1 : Int32) ta0 ts0 h)
def f_X8_readsSub_48  (a0 : Nat) (a1 : Int32) (a2 : Int32) (a3 : Int32) (s0 : Nat) (s1 : Int32) (h : Mem) : Option (Unit × Mem) :=
  b2 (f_X8_must s0 s1 (2 : Int32) h) fun _ h1 =>
  if 0 < (h1 a0 8) then
      f_X8_readsSub_78 a0 a1 a2 a3 a0 h1
  else
      b2 (f_X8_subOf (xrf a0 1) a1 (xrf a0 14) a3 h1) fun v3 h2 =>
      if v3 = (-4 : Int32) then
          f_X8_readsSub_78 a0 a1 a2 a3 a0 h2
      else
          f_X8_readsSub_83 a0 a1 a2 a3 a0 (0 : Int32) h2
set_option maxRecDepth 20000 in
theorem t_X8_readsSub_48 {G : xG}  (a0 : Nat) (a1 : Int32) (a2 : Int32) (a3 : Int32) (s0 : Nat) (s1 : Int32) (ta0 : xTy a0 7) (ts0 : xTy s0 7) (h : Mem) : Rn G 4 FX8_readsSub xcV 48 [(0, .ref (G.1 a0)), (1, .int a1), (2, .int a2), (3, .int a3)] [.int s1, .ref (G.1 s0)] h (f_X8_readsSub_48 a0 a1 a2 a3 s0 s1 h) := by
  unfold f_X8_readsSub_48
  refine r_iconst dX8_readsSub_48 xc_2 ?_
  refine r_callVV (rest := []) dX8_readsSub_49 m_X8_must lk_X8_97 rfl (by decide) ts0 (c_X8_must s0 ts0 s1 (2 : Int32) h) (by decide) rfl rfl (Nat.le_of_ble_eq_true rfl) (fun h1 => ?_)
  refine r_aload_n (place := 0) dX8_readsSub_52 rfl rfl ?_
  refine r_aload_n (place := 0) dX8_readsSub_53 rfl rfl ?_
  refine r_getI dX8_readsSub_54 fg_X8_67 ta0 ?_
  refine r_if_gt (tgt := 78) dX8_readsSub_57 (by decide) ?_ ?_
  · exact r_sub [0, 1, 2, 3] rfl (t_X8_readsSub_78 a0 a1 a2 a3 a0 ta0 ta0 h1)
  · refine r_aload_n (place := 0) dX8_readsSub_60 rfl rfl ?_
    refine r_getR dX8_readsSub_61 fg_X8_13 ta0 ?_
    refine r_iload_n (place := 1) dX8_readsSub_64 rfl rfl ?_
    refine r_aload_n (place := 0) dX8_readsSub_65 rfl rfl ?_
    refine r_getR dX8_readsSub_66 fg_X8_29 ta0 ?_
    refine r_iload_n (place := 3) dX8_readsSub_69 rfl rfl ?_
    refine r_callSI (rest := [.ref (G.1 a0)]) dX8_readsSub_70 m_X8_subOf lk_X8_129 (c_X8_subOf (xrf a0 1) (xt_7_1 ta0) a1 (xrf a0 14) (xt_7_14 ta0) a3 h1) (by decide) rfl rfl (Nat.le_of_ble_eq_true rfl) (fun v3 h2 => ?_)
    refine r_bipush dX8_readsSub_73 xb_m4 ?_
    refine r_ic_ne (tgt := 82) dX8_readsSub_75 (by decide) ?_ ?_
    · refine r_iconst dX8_readsSub_82 xc_0 ?_
      exact r_sub [0, 1, 2, 3] rfl (t_X8_readsSub_83 a0 a1 a2 a3 a0 (0 : Int32) ta0 ta0 h2)
    · exact r_sub [0, 1, 2, 3] rfl (t_X8_readsSub_78 a0 a1 a2 a3 a0 ta0 ta0 h2)
def f_X8_readsSub_43  (a0 : Nat) (a1 : Int32) (a2 : Int32) (a3 : Int32) (s0 : Nat) (h : Mem) : Option (Unit × Mem) :=
  f_X8_readsSub_48 a0 a1 a2 a3 s0 (1 : Int32) h
set_option maxRecDepth 20000 in
theorem t_X8_readsSub_43 {G : xG}  (a0 : Nat) (a1 : Int32) (a2 : Int32) (a3 : Int32) (s0 : Nat) (ta0 : xTy a0 7) (ts0 : xTy s0 7) (h : Mem) : Rn G 4 FX8_readsSub xcV 43 [(0, .ref (G.1 a0)), (1, .int a1), (2, .int a2), (3, .int a3)] [.ref (G.1 s0)] h (f_X8_readsSub_43 a0 a1 a2 a3 s0 h) := by
  unfold f_X8_readsSub_43
  refine r_iconst dX8_readsSub_43 xc_1 ?_
  refine r_goto (tgt := 48) dX8_readsSub_44 (by decide) ?_
  exact r_sub [0, 1, 2, 3] rfl (t_X8_readsSub_48 a0 a1 a2 a3 s0 (1 : Int32) ta0 ts0 h)
def f_X8_readsSub (a0 : Nat) (h : Mem) : Option (Unit × Mem) :=
  b2 (f_X8_number a0 (0 : Int32) (5 : Int32) h) fun v2 h1 =>
  b2 (f_X8_readsFilter a0 (0 : Int32) h1) fun _ h3 =>
  b2 (f_X8_number a0 (0 : Int32) (2 : Int32) h3) fun v5 h4 =>
  b2 (f_X8_number a0 (0 : Int32) (3 : Int32) h4) fun v7 h6 =>
  if 0 < (h6 a0 8) then
      f_X8_readsSub_43 a0 v2 v5 v7 a0 h6
  else
      b2 (f_X8_isSign a0 (59 : Int32) h6) fun v9 h8 =>
      if v9 = 0 then
          f_X8_readsSub_48 a0 v2 v5 v7 a0 (0 : Int32) h8
      else
          f_X8_readsSub_43 a0 v2 v5 v7 a0 h8
set_option maxRecDepth 20000 in
theorem c_X8_readsSub {G : xG} (a0 : Nat) (ta0 : xTy a0 7) (h : Mem) : Sm G 4 yX8_readsSub FX8_readsSub xcV [.ref (G.1 a0)] h (f_X8_readsSub a0 h) := by
  refine Sm.of pn_X8 rfl (Nat.le_of_ble_eq_true rfl) (ls := [(0, .ref (G.1 a0))]) rfl ?_
  unfold f_X8_readsSub
  refine r_aload_n (place := 0) dX8_readsSub_0 rfl rfl ?_
  refine r_iconst dX8_readsSub_1 xc_0 ?_
  refine r_iconst dX8_readsSub_2 xc_5 ?_
  refine r_callVI (rest := []) dX8_readsSub_3 m_X8_number lk_X8_123 rfl (by decide) ta0 (c_X8_number a0 ta0 (0 : Int32) (5 : Int32) h) (by decide) rfl rfl (Nat.le_of_ble_eq_true rfl) (fun v2 h1 => ?_)
  refine r_istore_n (ls' := [(1, .int v2), (0, .ref (G.1 a0))]) dX8_readsSub_6 rfl (by decide) rfl ?_
  refine r_aload_n (place := 1) dX8_readsSub_7 rfl rfl ?_
  refine r_iconst dX8_readsSub_8 xc_0 ?_
  refine r_callVV (rest := []) dX8_readsSub_9 m_X8_readsFilter lk_X8_126 rfl (by decide) ta0 (c_X8_readsFilter a0 ta0 (0 : Int32) h1) (by decide) rfl rfl (Nat.le_of_ble_eq_true rfl) (fun h3 => ?_)
  refine r_aload_n (place := 1) dX8_readsSub_12 rfl rfl ?_
  refine r_iconst dX8_readsSub_13 xc_0 ?_
  refine r_iconst dX8_readsSub_14 xc_2 ?_
  refine r_callVI (rest := []) dX8_readsSub_15 m_X8_number lk_X8_123 rfl (by decide) ta0 (c_X8_number a0 ta0 (0 : Int32) (2 : Int32) h3) (by decide) rfl rfl (Nat.le_of_ble_eq_true rfl) (fun v5 h4 => ?_)
  refine r_istore_n (ls' := [(2, .int v5), (1, .int v2), (0, .ref (G.1 a0))]) dX8_readsSub_18 rfl (by decide) rfl ?_
  refine r_aload_n (place := 2) dX8_readsSub_19 rfl rfl ?_
  refine r_iconst dX8_readsSub_20 xc_0 ?_
  refine r_iconst dX8_readsSub_21 xc_3 ?_
  refine r_callVI (rest := []) dX8_readsSub_22 m_X8_number lk_X8_123 rfl (by decide) ta0 (c_X8_number a0 ta0 (0 : Int32) (3 : Int32) h4) (by decide) rfl rfl (Nat.le_of_ble_eq_true rfl) (fun v7 h6 => ?_)
  refine r_istore_n (ls' := [(3, .int v7), (2, .int v5), (1, .int v2), (0, .ref (G.1 a0))]) dX8_readsSub_25 rfl (by decide) rfl ?_
  refine r_aload_n (place := 3) dX8_readsSub_26 rfl rfl ?_
  refine r_aload_n (place := 3) dX8_readsSub_27 rfl rfl ?_
  refine r_getI dX8_readsSub_28 fg_X8_67 ta0 ?_
  refine r_if_gt (tgt := 43) dX8_readsSub_31 (by decide) ?_ ?_
  · exact r_sub [3, 2, 1, 0] rfl (t_X8_readsSub_43 a0 v2 v5 v7 a0 ta0 ta0 h6)
  · refine r_aload_n (place := 3) dX8_readsSub_34 rfl rfl ?_
    refine r_bipush dX8_readsSub_35 xb_59 ?_
    refine r_callVI (rest := [.ref (G.1 a0)]) dX8_readsSub_37 m_X8_isSign lk_X8_104 rfl (by decide) ta0 (c_X8_isSign a0 ta0 (59 : Int32) h6) (by decide) rfl rfl (Nat.le_of_ble_eq_true rfl) (fun v9 h8 => ?_)
    refine r_if_eq (tgt := 47) dX8_readsSub_40 (by decide) ?_ ?_
    · refine r_iconst dX8_readsSub_47 xc_0 ?_
      exact r_sub [3, 2, 1, 0] rfl (t_X8_readsSub_48 a0 v2 v5 v7 a0 (0 : Int32) ta0 ta0 h8)
    · exact r_sub [3, 2, 1, 0] rfl (t_X8_readsSub_43 a0 v2 v5 v7 a0 ta0 ta0 h8)
def f_X8_readsKept_104  (a0 : Nat) (a1 : Int32) (a2 : Int32) (s0 : Nat) (s1 : Int32) (h : Mem) : Option (Unit × Mem) :=
  b2 (f_X8_must s0 s1 (5 : Int32) h) fun _ h1 =>
  if (h1 a0 8) = 0 then
      ald h1 (xrf a0 1) (1 : Int32) fun v2 =>
      b2 (f_X8_keptComes (xrf a0 1) (xrf a0 14) a1 a2 v2 h1) fun _ h3 =>
      ald h3 (xrf a0 1) (1 : Int32) fun v4 =>
      ast h3 (xrf a0 1) (1 : Int32) (v4 + (1 : Int32)) fun h5 =>
      some ((), h5)
  else
      some ((), h1)
set_option maxRecDepth 20000 in
theorem t_X8_readsKept_104 {G : xG}  (a0 : Nat) (a1 : Int32) (a2 : Int32) (s0 : Nat) (s1 : Int32) (ta0 : xTy a0 7) (ts0 : xTy s0 7) (h : Mem) : Rn G 4 FX8_readsKept xcV 104 [(0, .ref (G.1 a0)), (1, .int a1), (2, .int a2)] [.int s1, .ref (G.1 s0)] h (f_X8_readsKept_104 a0 a1 a2 s0 s1 h) := by
  unfold f_X8_readsKept_104
  refine r_iconst dX8_readsKept_104 xc_5 ?_
  refine r_callVV (rest := []) dX8_readsKept_105 m_X8_must lk_X8_97 rfl (by decide) ts0 (c_X8_must s0 ts0 s1 (5 : Int32) h) (by decide) rfl rfl (Nat.le_of_ble_eq_true rfl) (fun h1 => ?_)
  refine r_aload_n (place := 0) dX8_readsKept_108 rfl rfl ?_
  refine r_getI dX8_readsKept_109 fg_X8_67 ta0 ?_
  refine r_if_ne (tgt := 144) dX8_readsKept_112 (by decide) ?_ ?_
  · exact r_ret dX8_readsKept_144 rfl
  · refine r_aload_n (place := 0) dX8_readsKept_115 rfl rfl ?_
    refine r_getR dX8_readsKept_116 fg_X8_13 ta0 ?_
    refine r_aload_n (place := 0) dX8_readsKept_119 rfl rfl ?_
    refine r_getR dX8_readsKept_120 fg_X8_29 ta0 ?_
    refine r_iload_n (place := 1) dX8_readsKept_123 rfl rfl ?_
    refine r_iload_n (place := 2) dX8_readsKept_124 rfl rfl ?_
    refine r_aload_n (place := 0) dX8_readsKept_125 rfl rfl ?_
    refine r_getR dX8_readsKept_126 fg_X8_13 ta0 ?_
    refine r_iconst dX8_readsKept_129 xc_1 ?_
    refine r_iald dX8_readsKept_130 (xt_7_1 ta0) (fun v2 => ?_)
    refine r_callSV (rest := []) dX8_readsKept_131 m_X8_keptComes lk_X8_141 (c_X8_keptComes (xrf a0 1) (xt_7_1 ta0) (xrf a0 14) (xt_7_14 ta0) a1 a2 v2 h1) (by decide) rfl rfl (Nat.le_of_ble_eq_true rfl) (fun h3 => ?_)
    refine r_aload_n (place := 0) dX8_readsKept_134 rfl rfl ?_
    refine r_getR dX8_readsKept_135 fg_X8_13 ta0 ?_
    refine r_iconst dX8_readsKept_138 xc_1 ?_
    refine r_dup2 dX8_readsKept_139 rfl rfl ?_
    refine r_iald dX8_readsKept_140 (xt_7_1 ta0) (fun v4 => ?_)
    refine r_iconst dX8_readsKept_141 xc_1 ?_
    refine r_iadd dX8_readsKept_142 ?_
    refine r_iast dX8_readsKept_143 (xt_7_1 ta0) (fun h5 => ?_)
    exact r_ret dX8_readsKept_144 rfl
def f_X8_readsKept_99  (a0 : Nat) (a1 : Int32) (a2 : Int32) (s0 : Nat) (h : Mem) : Option (Unit × Mem) :=
  f_X8_readsKept_104 a0 a1 a2 s0 (1 : Int32) h
set_option maxRecDepth 20000 in
theorem t_X8_readsKept_99 {G : xG}  (a0 : Nat) (a1 : Int32) (a2 : Int32) (s0 : Nat) (ta0 : xTy a0 7) (ts0 : xTy s0 7) (h : Mem) : Rn G 4 FX8_readsKept xcV 99 [(0, .ref (G.1 a0)), (1, .int a1), (2, .int a2)] [.ref (G.1 s0)] h (f_X8_readsKept_99 a0 a1 a2 s0 h) := by
  unfold f_X8_readsKept_99
  refine r_iconst dX8_readsKept_99 xc_1 ?_
  refine r_goto (tgt := 104) dX8_readsKept_100 (by decide) ?_
  exact r_sub [0, 1, 2] rfl (t_X8_readsKept_104 a0 a1 a2 s0 (1 : Int32) ta0 ts0 h)
def f_X8_readsKept_75  (a0 : Nat) (a1 : Int32) (a2 : Int32) (s0 : Nat) (s1 : Int32) (h : Mem) : Option (Unit × Mem) :=
  b2 (f_X8_must s0 s1 (4 : Int32) h) fun _ h1 =>
  if 0 < (h1 a0 8) then
      f_X8_readsKept_99 a0 a1 a2 a0 h1
  else
      ald h1 (xrf a0 1) (6 : Int32) fun v2 =>
      if (12 : Int32) ≤ v2 then
          f_X8_readsKept_104 a0 a1 a2 a0 (0 : Int32) h1
      else
          f_X8_readsKept_99 a0 a1 a2 a0 h1
set_option maxRecDepth 20000 in
theorem t_X8_readsKept_75 {G : xG}  (a0 : Nat) (a1 : Int32) (a2 : Int32) (s0 : Nat) (s1 : Int32) (ta0 : xTy a0 7) (ts0 : xTy s0 7) (h : Mem) : Rn G 4 FX8_readsKept xcV 75 [(0, .ref (G.1 a0)), (1, .int a1), (2, .int a2)] [.int s1, .ref (G.1 s0)] h (f_X8_readsKept_75 a0 a1 a2 s0 s1 h) := by
  unfold f_X8_readsKept_75
  refine r_iconst dX8_readsKept_75 xc_4 ?_
  refine r_callVV (rest := []) dX8_readsKept_76 m_X8_must lk_X8_97 rfl (by decide) ts0 (c_X8_must s0 ts0 s1 (4 : Int32) h) (by decide) rfl rfl (Nat.le_of_ble_eq_true rfl) (fun h1 => ?_)
  refine r_aload_n (place := 0) dX8_readsKept_79 rfl rfl ?_
  refine r_aload_n (place := 0) dX8_readsKept_80 rfl rfl ?_
  refine r_getI dX8_readsKept_81 fg_X8_67 ta0 ?_
  refine r_if_gt (tgt := 99) dX8_readsKept_84 (by decide) ?_ ?_
  · exact r_sub [0, 1, 2] rfl (t_X8_readsKept_99 a0 a1 a2 a0 ta0 ta0 h1)
  · refine r_aload_n (place := 0) dX8_readsKept_87 rfl rfl ?_
    refine r_getR dX8_readsKept_88 fg_X8_13 ta0 ?_
    refine r_bipush dX8_readsKept_91 xb_6 ?_
    refine r_iald dX8_readsKept_93 (xt_7_1 ta0) (fun v2 => ?_)
    refine r_bipush dX8_readsKept_94 xb_12 ?_
    refine r_ic_ge (tgt := 103) dX8_readsKept_96 (by decide) ?_ ?_
    · refine r_iconst dX8_readsKept_103 xc_0 ?_
      exact r_sub [0, 1, 2] rfl (t_X8_readsKept_104 a0 a1 a2 a0 (0 : Int32) ta0 ta0 h1)
    · exact r_sub [0, 1, 2] rfl (t_X8_readsKept_99 a0 a1 a2 a0 ta0 ta0 h1)
def f_X8_readsKept_70  (a0 : Nat) (a1 : Int32) (a2 : Int32) (s0 : Nat) (h : Mem) : Option (Unit × Mem) :=
  f_X8_readsKept_75 a0 a1 a2 s0 (1 : Int32) h
set_option maxRecDepth 20000 in
theorem t_X8_readsKept_70 {G : xG}  (a0 : Nat) (a1 : Int32) (a2 : Int32) (s0 : Nat) (ta0 : xTy a0 7) (ts0 : xTy s0 7) (h : Mem) : Rn G 4 FX8_readsKept xcV 70 [(0, .ref (G.1 a0)), (1, .int a1), (2, .int a2)] [.ref (G.1 s0)] h (f_X8_readsKept_70 a0 a1 a2 s0 h) := by
  unfold f_X8_readsKept_70
  refine r_iconst dX8_readsKept_70 xc_1 ?_
  refine r_goto (tgt := 75) dX8_readsKept_71 (by decide) ?_
  exact r_sub [0, 1, 2] rfl (t_X8_readsKept_75 a0 a1 a2 s0 (1 : Int32) ta0 ts0 h)
def f_X8_readsKept_42  (a0 : Nat) (a1 : Int32) (a2 : Int32) (s0 : Nat) (s1 : Int32) (h : Mem) : Option (Unit × Mem) :=
  b2 (f_X8_must s0 s1 (2 : Int32) h) fun _ h1 =>
  if 0 < (h1 a0 8) then
      f_X8_readsKept_70 a0 a1 a2 a0 h1
  else
      b2 (f_X8_keptOf (xrf a0 1) (xrf a0 14) h1) fun v3 h2 =>
      if v3 = (-4 : Int32) then
          f_X8_readsKept_70 a0 a1 a2 a0 h2
      else
          f_X8_readsKept_75 a0 a1 a2 a0 (0 : Int32) h2
set_option maxRecDepth 20000 in
theorem t_X8_readsKept_42 {G : xG}  (a0 : Nat) (a1 : Int32) (a2 : Int32) (s0 : Nat) (s1 : Int32) (ta0 : xTy a0 7) (ts0 : xTy s0 7) (h : Mem) : Rn G 4 FX8_readsKept xcV 42 [(0, .ref (G.1 a0)), (1, .int a1), (2, .int a2)] [.int s1, .ref (G.1 s0)] h (f_X8_readsKept_42 a0 a1 a2 s0 s1 h) := by
  unfold f_X8_readsKept_42
  refine r_iconst dX8_readsKept_42 xc_2 ?_
  refine r_callVV (rest := []) dX8_readsKept_43 m_X8_must lk_X8_97 rfl (by decide) ts0 (c_X8_must s0 ts0 s1 (2 : Int32) h) (by decide) rfl rfl (Nat.le_of_ble_eq_true rfl) (fun h1 => ?_)
  refine r_aload_n (place := 0) dX8_readsKept_46 rfl rfl ?_
  refine r_aload_n (place := 0) dX8_readsKept_47 rfl rfl ?_
  refine r_getI dX8_readsKept_48 fg_X8_67 ta0 ?_
  refine r_if_gt (tgt := 70) dX8_readsKept_51 (by decide) ?_ ?_
  · exact r_sub [0, 1, 2] rfl (t_X8_readsKept_70 a0 a1 a2 a0 ta0 ta0 h1)
  · refine r_aload_n (place := 0) dX8_readsKept_54 rfl rfl ?_
    refine r_getR dX8_readsKept_55 fg_X8_13 ta0 ?_
    refine r_aload_n (place := 0) dX8_readsKept_58 rfl rfl ?_
    refine r_getR dX8_readsKept_59 fg_X8_29 ta0 ?_
    refine r_callSI (rest := [.ref (G.1 a0)]) dX8_readsKept_62 m_X8_keptOf lk_X8_137 (c_X8_keptOf (xrf a0 1) (xt_7_1 ta0) (xrf a0 14) (xt_7_14 ta0) h1) (by decide) rfl rfl (Nat.le_of_ble_eq_true rfl) (fun v3 h2 => ?_)
    refine r_bipush dX8_readsKept_65 xb_m4 ?_
    refine r_ic_ne (tgt := 74) dX8_readsKept_67 (by decide) ?_ ?_
    · refine r_iconst dX8_readsKept_74 xc_0 ?_
      exact r_sub [0, 1, 2] rfl (t_X8_readsKept_75 a0 a1 a2 a0 (0 : Int32) ta0 ta0 h2)
    · exact r_sub [0, 1, 2] rfl (t_X8_readsKept_70 a0 a1 a2 a0 ta0 ta0 h2)
def f_X8_readsKept_37  (a0 : Nat) (a1 : Int32) (a2 : Int32) (s0 : Nat) (h : Mem) : Option (Unit × Mem) :=
  f_X8_readsKept_42 a0 a1 a2 s0 (1 : Int32) h
set_option maxRecDepth 20000 in
theorem t_X8_readsKept_37 {G : xG}  (a0 : Nat) (a1 : Int32) (a2 : Int32) (s0 : Nat) (ta0 : xTy a0 7) (ts0 : xTy s0 7) (h : Mem) : Rn G 4 FX8_readsKept xcV 37 [(0, .ref (G.1 a0)), (1, .int a1), (2, .int a2)] [.ref (G.1 s0)] h (f_X8_readsKept_37 a0 a1 a2 s0 h) := by
  unfold f_X8_readsKept_37
  refine r_iconst dX8_readsKept_37 xc_1 ?_
  refine r_goto (tgt := 42) dX8_readsKept_38 (by decide) ?_
  exact r_sub [0, 1, 2] rfl (t_X8_readsKept_42 a0 a1 a2 s0 (1 : Int32) ta0 ts0 h)
def f_X8_readsKept (a0 : Nat) (h : Mem) : Option (Unit × Mem) :=
  b2 (f_X8_readsFilter a0 (1 : Int32) h) fun _ h1 =>
  b2 (f_X8_number a0 (1 : Int32) (99 : Int32) h1) fun v3 h2 =>
  b2 (f_X8_number a0 (0 : Int32) (2 : Int32) h2) fun v5 h4 =>
  if 0 < (h4 a0 8) then
      f_X8_readsKept_37 a0 v3 v5 a0 h4
  else
      b2 (f_X8_isSign a0 (59 : Int32) h4) fun v7 h6 =>
      if v7 = 0 then
          f_X8_readsKept_42 a0 v3 v5 a0 (0 : Int32) h6
      else
          f_X8_readsKept_37 a0 v3 v5 a0 h6
set_option maxRecDepth 20000 in
theorem c_X8_readsKept {G : xG} (a0 : Nat) (ta0 : xTy a0 7) (h : Mem) : Sm G 4 yX8_readsKept FX8_readsKept xcV [.ref (G.1 a0)] h (f_X8_readsKept a0 h) := by
  refine Sm.of pn_X8 rfl (Nat.le_of_ble_eq_true rfl) (ls := [(0, .ref (G.1 a0))]) rfl ?_
  unfold f_X8_readsKept
  refine r_aload_n (place := 0) dX8_readsKept_0 rfl rfl ?_
  refine r_iconst dX8_readsKept_1 xc_1 ?_
  refine r_callVV (rest := []) dX8_readsKept_2 m_X8_readsFilter lk_X8_126 rfl (by decide) ta0 (c_X8_readsFilter a0 ta0 (1 : Int32) h) (by decide) rfl rfl (Nat.le_of_ble_eq_true rfl) (fun h1 => ?_)
  refine r_aload_n (place := 0) dX8_readsKept_5 rfl rfl ?_
  refine r_iconst dX8_readsKept_6 xc_1 ?_
  refine r_bipush dX8_readsKept_7 xb_99 ?_
  refine r_callVI (rest := []) dX8_readsKept_9 m_X8_number lk_X8_123 rfl (by decide) ta0 (c_X8_number a0 ta0 (1 : Int32) (99 : Int32) h1) (by decide) rfl rfl (Nat.le_of_ble_eq_true rfl) (fun v3 h2 => ?_)
  refine r_istore_n (ls' := [(1, .int v3), (0, .ref (G.1 a0))]) dX8_readsKept_12 rfl (by decide) rfl ?_
  refine r_aload_n (place := 1) dX8_readsKept_13 rfl rfl ?_
  refine r_iconst dX8_readsKept_14 xc_0 ?_
  refine r_iconst dX8_readsKept_15 xc_2 ?_
  refine r_callVI (rest := []) dX8_readsKept_16 m_X8_number lk_X8_123 rfl (by decide) ta0 (c_X8_number a0 ta0 (0 : Int32) (2 : Int32) h2) (by decide) rfl rfl (Nat.le_of_ble_eq_true rfl) (fun v5 h4 => ?_)
  refine r_istore_n (ls' := [(2, .int v5), (1, .int v3), (0, .ref (G.1 a0))]) dX8_readsKept_19 rfl (by decide) rfl ?_
  refine r_aload_n (place := 2) dX8_readsKept_20 rfl rfl ?_
  refine r_aload_n (place := 2) dX8_readsKept_21 rfl rfl ?_
  refine r_getI dX8_readsKept_22 fg_X8_67 ta0 ?_
  refine r_if_gt (tgt := 37) dX8_readsKept_25 (by decide) ?_ ?_
  · exact r_sub [2, 1, 0] rfl (t_X8_readsKept_37 a0 v3 v5 a0 ta0 ta0 h4)
  · refine r_aload_n (place := 2) dX8_readsKept_28 rfl rfl ?_
    refine r_bipush dX8_readsKept_29 xb_59 ?_
    refine r_callVI (rest := [.ref (G.1 a0)]) dX8_readsKept_31 m_X8_isSign lk_X8_104 rfl (by decide) ta0 (c_X8_isSign a0 ta0 (59 : Int32) h4) (by decide) rfl rfl (Nat.le_of_ble_eq_true rfl) (fun v7 h6 => ?_)
    refine r_if_eq (tgt := 41) dX8_readsKept_34 (by decide) ?_ ?_
    · refine r_iconst dX8_readsKept_41 xc_0 ?_
      exact r_sub [2, 1, 0] rfl (t_X8_readsKept_42 a0 v3 v5 a0 (0 : Int32) ta0 ta0 h6)
    · exact r_sub [2, 1, 0] rfl (t_X8_readsKept_37 a0 v3 v5 a0 ta0 ta0 h6)
def f_X8_readsLine_53  (a0 : Nat) (h : Mem) : Option (Unit × Mem) :=
  b2 (f_X8_reads a0 h) fun _ h1 =>
  some ((), h1)
set_option maxRecDepth 20000 in
theorem t_X8_readsLine_53 {G : xG}  (a0 : Nat) (ta0 : xTy a0 7) (h : Mem) : Rn G 5 FX8_readsLine xcV 53 [(0, .ref (G.1 a0))] [] h (f_X8_readsLine_53 a0 h) := by
  unfold f_X8_readsLine_53
  refine r_aload_n (place := 0) dX8_readsLine_53 rfl rfl ?_
  refine r_callVV (rest := []) dX8_readsLine_54 m_X8_reads lk_X8_101 rfl (by decide) ta0 (c_X8_reads a0 ta0 h) (by decide) rfl rfl (Nat.le_of_ble_eq_true rfl) (fun h1 => ?_)
  exact r_ret dX8_readsLine_57 rfl
def f_X8_readsLine_22  (a0 : Nat) (a1 : Int32) (s0 : Nat) (s1 : Int32) (h : Mem) : Option (Unit × Mem) :=
  b2 (f_X8_must s0 s1 (2 : Int32) h) fun _ h1 =>
  b2 (f_X8_reads a0 h1) fun _ h2 =>
  if (h2 a0 8) ≤ 0 then
      if a1 = 0 then
          b2 (f_X8_readsKept a0 h2) fun _ h3 =>
          f_X8_readsLine_53 a0 h3
      else
          b2 (f_X8_readsSub a0 h2) fun _ h4 =>
          f_X8_readsLine_53 a0 h4
  else
      some ((), h2)
set_option maxRecDepth 20000 in
theorem t_X8_readsLine_22 {G : xG}  (a0 : Nat) (a1 : Int32) (s0 : Nat) (s1 : Int32) (ta0 : xTy a0 7) (ts0 : xTy s0 7) (h : Mem) : Rn G 5 FX8_readsLine xcV 22 [(0, .ref (G.1 a0)), (1, .int a1)] [.int s1, .ref (G.1 s0)] h (f_X8_readsLine_22 a0 a1 s0 s1 h) := by
  unfold f_X8_readsLine_22
  refine r_iconst dX8_readsLine_22 xc_2 ?_
  refine r_callVV (rest := []) dX8_readsLine_23 m_X8_must lk_X8_97 rfl (by decide) ts0 (c_X8_must s0 ts0 s1 (2 : Int32) h) (by decide) rfl rfl (Nat.le_of_ble_eq_true rfl) (fun h1 => ?_)
  refine r_aload_n (place := 0) dX8_readsLine_26 rfl rfl ?_
  refine r_callVV (rest := []) dX8_readsLine_27 m_X8_reads lk_X8_101 rfl (by decide) ta0 (c_X8_reads a0 ta0 h1) (by decide) rfl rfl (Nat.le_of_ble_eq_true rfl) (fun h2 => ?_)
  refine r_aload_n (place := 0) dX8_readsLine_30 rfl rfl ?_
  refine r_getI dX8_readsLine_31 fg_X8_67 ta0 ?_
  refine r_if_le (tgt := 38) dX8_readsLine_34 (by decide) ?_ ?_
  · refine r_iload_n (place := 1) dX8_readsLine_38 rfl rfl ?_
    refine r_if_eq (tgt := 49) dX8_readsLine_39 (by decide) ?_ ?_
    · refine r_aload_n (place := 0) dX8_readsLine_49 rfl rfl ?_
      refine r_callVV (rest := []) dX8_readsLine_50 m_X8_readsKept lk_X8_155 rfl (by decide) ta0 (c_X8_readsKept a0 ta0 h2) (by decide) rfl rfl (Nat.le_of_ble_eq_true rfl) (fun h3 => ?_)
      exact r_sub [0] rfl (t_X8_readsLine_53 a0 ta0 h3)
    · refine r_aload_n (place := 0) dX8_readsLine_42 rfl rfl ?_
      refine r_callVV (rest := []) dX8_readsLine_43 m_X8_readsSub lk_X8_152 rfl (by decide) ta0 (c_X8_readsSub a0 ta0 h2) (by decide) rfl rfl (Nat.le_of_ble_eq_true rfl) (fun h4 => ?_)
      refine r_goto (tgt := 53) dX8_readsLine_46 (by decide) ?_
      exact r_sub [0] rfl (t_X8_readsLine_53 a0 ta0 h4)
  · exact r_ret dX8_readsLine_37 rfl
def f_X8_readsLine_17  (a0 : Nat) (a1 : Int32) (s0 : Nat) (h : Mem) : Option (Unit × Mem) :=
  f_X8_readsLine_22 a0 a1 s0 (1 : Int32) h
set_option maxRecDepth 20000 in
theorem t_X8_readsLine_17 {G : xG}  (a0 : Nat) (a1 : Int32) (s0 : Nat) (ta0 : xTy a0 7) (ts0 : xTy s0 7) (h : Mem) : Rn G 5 FX8_readsLine xcV 17 [(0, .ref (G.1 a0)), (1, .int a1)] [.ref (G.1 s0)] h (f_X8_readsLine_17 a0 a1 s0 h) := by
  unfold f_X8_readsLine_17
  refine r_iconst dX8_readsLine_17 xc_1 ?_
  refine r_goto (tgt := 22) dX8_readsLine_18 (by decide) ?_
  exact r_sub [0, 1] rfl (t_X8_readsLine_22 a0 a1 s0 (1 : Int32) ta0 ts0 h)
def f_X8_readsLine (a0 : Nat) (h : Mem) : Option (Unit × Mem) :=
  b2 (f_X8_isSub a0 h) fun v2 h1 =>
  if v2 = 0 then
      b2 (f_X8_isKeptNow a0 h1) fun v4 h3 =>
      if v4 = 0 then
          f_X8_readsLine_22 a0 v2 a0 (0 : Int32) h3
      else
          f_X8_readsLine_17 a0 v2 a0 h3
  else
      f_X8_readsLine_17 a0 v2 a0 h1
set_option maxRecDepth 20000 in
theorem c_X8_readsLine {G : xG} (a0 : Nat) (ta0 : xTy a0 7) (h : Mem) : Sm G 5 yX8_readsLine FX8_readsLine xcV [.ref (G.1 a0)] h (f_X8_readsLine a0 h) := by
  refine Sm.of pn_X8 rfl (Nat.le_of_ble_eq_true rfl) (ls := [(0, .ref (G.1 a0))]) rfl ?_
  unfold f_X8_readsLine
  refine r_aload_n (place := 0) dX8_readsLine_0 rfl rfl ?_
  refine r_callVI (rest := []) dX8_readsLine_1 m_X8_isSub lk_X8_145 rfl (by decide) ta0 (c_X8_isSub a0 ta0 h) (by decide) rfl rfl (Nat.le_of_ble_eq_true rfl) (fun v2 h1 => ?_)
  refine r_istore_n (ls' := [(1, .int v2), (0, .ref (G.1 a0))]) dX8_readsLine_4 rfl (by decide) rfl ?_
  refine r_aload_n (place := 1) dX8_readsLine_5 rfl rfl ?_
  refine r_iload_n (place := 0) dX8_readsLine_6 rfl rfl ?_
  refine r_if_ne (tgt := 17) dX8_readsLine_7 (by decide) ?_ ?_
  · exact r_sub [1, 0] rfl (t_X8_readsLine_17 a0 v2 a0 ta0 ta0 h1)
  · refine r_aload_n (place := 1) dX8_readsLine_10 rfl rfl ?_
    refine r_callVI (rest := [.ref (G.1 a0)]) dX8_readsLine_11 m_X8_isKeptNow lk_X8_149 rfl (by decide) ta0 (c_X8_isKeptNow a0 ta0 h1) (by decide) rfl rfl (Nat.le_of_ble_eq_true rfl) (fun v4 h3 => ?_)
    refine r_if_eq (tgt := 21) dX8_readsLine_14 (by decide) ?_ ?_
    · refine r_iconst dX8_readsLine_21 xc_0 ?_
      exact r_sub [1, 0] rfl (t_X8_readsLine_22 a0 v2 a0 (0 : Int32) ta0 ta0 h3)
    · exact r_sub [1, 0] rfl (t_X8_readsLine_17 a0 v2 a0 ta0 ta0 h3)
def f_X8_text_69  : Nat → Nat → Int32 → Int32 → Mem → Option (Int32 × Mem)
  | 0, _, _, _, _ => none
  | n + 1, a0, a1, a2, h =>
    if (6074 : Int32) ≤ a2 then
        mlet (mu h a0 5 (0 : Int32)) fun h1 =>
        ast h1 (xrf a0 3) (0 : Int32) (0 : Int32) fun h2 =>
        ast h2 (xrf a0 3) (1 : Int32) (0 : Int32) fun h3 =>
        some (a1, h3)
    else
        ald h (xrf a0 1) a2 fun v4 =>
        ast h (xrf a0 0) a2 v4 fun h5 =>
        (f_X8_text_69 n) a0 a1 (a2 + (1 : Int32)) h5
set_option maxRecDepth 20000 in
theorem t_X8_text_69 {G : xG}  : ∀ (n : Nat) (a0 : Nat) (a1 : Int32) (a2 : Int32) (ta0 : xTy a0 7) (h : Mem), Rn G 6 FX8_text xcI 69 [(0, .ref (G.1 a0)), (1, .int a1), (2, .int a2)] [] h (f_X8_text_69 n a0 a1 a2 h) := by
  intro n
  induction n with
  | zero => intros; intro r hr; cases hr
  | succ n ih =>
    intro a0 a1 a2 ta0 h
    unfold f_X8_text_69
    refine r_iload_n (place := 2) dX8_text_69 rfl rfl ?_
    refine r_sipush dX8_text_70 xs_6074 ?_
    refine r_ic_ge (tgt := 94) dX8_text_73 (by decide) ?_ ?_
    · refine r_aload_n (place := 0) dX8_text_94 rfl rfl ?_
      refine r_iconst dX8_text_95 xc_0 ?_
      refine r_putI dX8_text_96 fp_X8_161 ta0 ?_
      refine r_mem (fun h1 => ?_)
      refine r_aload_n (place := 0) dX8_text_99 rfl rfl ?_
      refine r_getR dX8_text_100 fg_X8_19 ta0 ?_
      refine r_iconst dX8_text_103 xc_0 ?_
      refine r_iconst dX8_text_104 xc_0 ?_
      refine r_zast dX8_text_105 (xt_7_3 ta0) (by decide) (fun h2 => ?_)
      refine r_aload_n (place := 0) dX8_text_106 rfl rfl ?_
      refine r_getR dX8_text_107 fg_X8_19 ta0 ?_
      refine r_iconst dX8_text_110 xc_1 ?_
      refine r_iconst dX8_text_111 xc_0 ?_
      refine r_zast dX8_text_112 (xt_7_3 ta0) (by decide) (fun h3 => ?_)
      refine r_iload_n (place := 1) dX8_text_113 rfl rfl ?_
      exact r_iret dX8_text_114 rfl
    · refine r_aload_n (place := 0) dX8_text_76 rfl rfl ?_
      refine r_getR dX8_text_77 fg_X8_7 ta0 ?_
      refine r_iload_n (place := 2) dX8_text_80 rfl rfl ?_
      refine r_aload_n (place := 0) dX8_text_81 rfl rfl ?_
      refine r_getR dX8_text_82 fg_X8_13 ta0 ?_
      refine r_iload_n (place := 2) dX8_text_85 rfl rfl ?_
      refine r_iald dX8_text_86 (xt_7_1 ta0) (fun v4 => ?_)
      refine r_iast dX8_text_87 (xt_7_0 ta0) (fun h5 => ?_)
      refine r_iincC (place := 2) (ls' := [(2, .int (a2 + (1 : Int32))), (0, .ref (G.1 a0)), (1, .int a1)]) dX8_text_88 rfl xc_1 (by decide) rfl ?_
      refine r_goto (tgt := 69) dX8_text_91 (by decide) ?_
      exact r_sub [1, 2, 0] rfl (ih a0 a1 (a2 + (1 : Int32)) ta0 h5)
def f_X8_text_47  (a0 : Nat) (a1 : Int32) (h : Mem) : Option (Int32 × Mem) :=
  mlet (mu h a0 7 (0 : Int32)) fun h1 =>
  if (h1 a0 8) ≤ 0 then
      f_X8_text_69 xFU a0 a1 (0 : Int32) h1
  else
      some (((-10 : Int32) - (h1 a0 9)), h1)
set_option maxRecDepth 20000 in
theorem t_X8_text_47 {G : xG}  (a0 : Nat) (a1 : Int32) (ta0 : xTy a0 7) (h : Mem) : Rn G 6 FX8_text xcI 47 [(0, .ref (G.1 a0)), (1, .int a1)] [] h (f_X8_text_47 a0 a1 h) := by
  unfold f_X8_text_47
  refine r_aload_n (place := 0) dX8_text_47 rfl rfl ?_
  refine r_iconst dX8_text_48 xc_0 ?_
  refine r_putI dX8_text_49 fp_X8_63 ta0 ?_
  refine r_mem (fun h1 => ?_)
  refine r_aload_n (place := 0) dX8_text_52 rfl rfl ?_
  refine r_getI dX8_text_53 fg_X8_67 ta0 ?_
  refine r_if_le (tgt := 67) dX8_text_56 (by decide) ?_ ?_
  · refine r_iconst dX8_text_67 xc_0 ?_
    refine r_istore_n (ls' := [(2, .int (0 : Int32)), (0, .ref (G.1 a0)), (1, .int a1)]) dX8_text_68 rfl (by decide) rfl ?_
    exact r_sub [1, 2, 0] rfl (t_X8_text_69 xFU a0 a1 (0 : Int32) ta0 h1)
  · refine r_bipush dX8_text_59 xb_m10 ?_
    refine r_aload_n (place := 0) dX8_text_61 rfl rfl ?_
    refine r_getI dX8_text_62 fg_X8_73 ta0 ?_
    refine r_isub dX8_text_65 ?_
    exact r_iret dX8_text_66 rfl
def f_X8_text_23  : Nat → Nat → Int32 → Mem → Option (Int32 × Mem)
  | 0, _, _, _ => none
  | n + 1, a0, a1, h =>
    if (h a0 8) = 0 then
        if (h a0 12) = 0 then
            f_X8_text_47 a0 a1 h
        else
            b2 (f_X8_readsLine a0 h) fun _ h1 =>
            (f_X8_text_23 n) a0 (a1 + (1 : Int32)) h1
    else
        f_X8_text_47 a0 a1 h
set_option maxRecDepth 20000 in
theorem t_X8_text_23 {G : xG}  : ∀ (n : Nat) (a0 : Nat) (a1 : Int32) (ta0 : xTy a0 7) (h : Mem), Rn G 6 FX8_text xcI 23 [(0, .ref (G.1 a0)), (1, .int a1)] [] h (f_X8_text_23 n a0 a1 h) := by
  intro n
  induction n with
  | zero => intros; intro r hr; cases hr
  | succ n ih =>
    intro a0 a1 ta0 h
    unfold f_X8_text_23
    refine r_aload_n (place := 0) dX8_text_23 rfl rfl ?_
    refine r_getI dX8_text_24 fg_X8_67 ta0 ?_
    refine r_if_ne (tgt := 47) dX8_text_27 (by decide) ?_ ?_
    · exact r_sub [0, 1] rfl (t_X8_text_47 a0 a1 ta0 h)
    · refine r_aload_n (place := 0) dX8_text_30 rfl rfl ?_
      refine r_getI dX8_text_31 fg_X8_86 ta0 ?_
      refine r_if_eq (tgt := 47) dX8_text_34 (by decide) ?_ ?_
      · exact r_sub [0, 1] rfl (t_X8_text_47 a0 a1 ta0 h)
      · refine r_aload_n (place := 0) dX8_text_37 rfl rfl ?_
        refine r_callVV (rest := []) dX8_text_38 m_X8_readsLine lk_X8_158 rfl (by decide) ta0 (c_X8_readsLine a0 ta0 h) (by decide) rfl rfl (Nat.le_of_ble_eq_true rfl) (fun h1 => ?_)
        refine r_iincC (place := 1) (ls' := [(1, .int (a1 + (1 : Int32))), (0, .ref (G.1 a0))]) dX8_text_41 rfl xc_1 (by decide) rfl ?_
        refine r_goto (tgt := 23) dX8_text_44 (by decide) ?_
        exact r_sub [1, 0] rfl (ih a0 (a1 + (1 : Int32)) ta0 h1)
def f_X8_text (a0 : Nat) (h : Mem) : Option (Int32 × Mem) :=
  mlet (mu h a0 8 (0 : Int32)) fun h1 =>
  mlet (mu h1 a0 10 (0 : Int32)) fun h2 =>
  b2 (f_X8_empties (xrf a0 1) h2) fun _ h3 =>
  b2 (f_X8_reads a0 h3) fun _ h4 =>
  f_X8_text_23 xFU a0 (0 : Int32) h4
set_option maxRecDepth 20000 in
theorem c_X8_text {G : xG} (a0 : Nat) (ta0 : xTy a0 7) (h : Mem) : Sm G 6 yX8_text FX8_text xcI [.ref (G.1 a0)] h (f_X8_text a0 h) := by
  refine Sm.of pn_X8 rfl (Nat.le_of_ble_eq_true rfl) (ls := [(0, .ref (G.1 a0))]) rfl ?_
  unfold f_X8_text
  refine r_aload_n (place := 0) dX8_text_0 rfl rfl ?_
  refine r_iconst dX8_text_1 xc_0 ?_
  refine r_putI dX8_text_2 fp_X8_67 ta0 ?_
  refine r_mem (fun h1 => ?_)
  refine r_aload_n (place := 0) dX8_text_5 rfl rfl ?_
  refine r_iconst dX8_text_6 xc_0 ?_
  refine r_putI dX8_text_7 fp_X8_76 ta0 ?_
  refine r_mem (fun h2 => ?_)
  refine r_aload_n (place := 0) dX8_text_10 rfl rfl ?_
  refine r_getR dX8_text_11 fg_X8_13 ta0 ?_
  refine r_callSV (rest := []) dX8_text_14 m_X8_empties lk_X8_53 (c_X8_empties (xrf a0 1) (xt_7_1 ta0) h2) (by decide) rfl rfl (Nat.le_of_ble_eq_true rfl) (fun h3 => ?_)
  refine r_iconst dX8_text_17 xc_0 ?_
  refine r_istore_n (ls' := [(1, .int (0 : Int32)), (0, .ref (G.1 a0))]) dX8_text_18 rfl (by decide) rfl ?_
  refine r_aload_n (place := 1) dX8_text_19 rfl rfl ?_
  refine r_callVV (rest := []) dX8_text_20 m_X8_reads lk_X8_101 rfl (by decide) ta0 (c_X8_reads a0 ta0 h3) (by decide) rfl rfl (Nat.le_of_ble_eq_true rfl) (fun h4 => ?_)
  exact r_sub [1, 0] rfl (t_X8_text_23 xFU a0 (0 : Int32) ta0 h4)
def f_X8_fault (a0 : Nat) (h : Mem) : Option (Int32 × Mem) :=
  some ((h a0 8), h)
set_option maxRecDepth 20000 in
theorem c_X8_fault {G : xG} (a0 : Nat) (ta0 : xTy a0 7) (h : Mem) : Sm G 0 yX8_fault FX8_fault xcI [.ref (G.1 a0)] h (f_X8_fault a0 h) := by
  refine Sm.of pn_X8 rfl (Nat.le_of_ble_eq_true rfl) (ls := [(0, .ref (G.1 a0))]) rfl ?_
  unfold f_X8_fault
  refine r_aload_n (place := 0) dX8_fault_0 rfl rfl ?_
  refine r_getI dX8_fault_1 fg_X8_67 ta0 ?_
  exact r_iret dX8_fault_4 rfl
def f_X8_level_76  : Nat → Nat → Int32 → Mem → Option (Int32 × Mem)
  | 0, _, _, _ => none
  | n + 1, a0, a2, h =>
    if (4 : Int32) ≤ a2 then
        some ((h a0 5), h)
    else
        ast h (xrf a0 4) a2 (0 : Int32) fun h1 =>
        (f_X8_level_76 n) a0 (a2 + (1 : Int32)) h1
set_option maxRecDepth 20000 in
theorem t_X8_level_76 {G : xG}  : ∀ (n : Nat) (a0 : Nat) (a2 : Int32) (ta0 : xTy a0 7) (h : Mem), Rn G 1 FX8_level xcI 76 [(0, .ref (G.1 a0)), (2, .int a2)] [] h (f_X8_level_76 n a0 a2 h) := by
  intro n
  induction n with
  | zero => intros; intro r hr; cases hr
  | succ n ih =>
    intro a0 a2 ta0 h
    unfold f_X8_level_76
    refine r_iload_n (place := 1) dX8_level_76 rfl rfl ?_
    refine r_iconst dX8_level_77 xc_4 ?_
    refine r_ic_ge (tgt := 94) dX8_level_78 (by decide) ?_ ?_
    · refine r_aload_n (place := 0) dX8_level_94 rfl rfl ?_
      refine r_getI dX8_level_95 fg_X8_161 ta0 ?_
      exact r_iret dX8_level_98 rfl
    · refine r_aload_n (place := 0) dX8_level_81 rfl rfl ?_
      refine r_getR dX8_level_82 fg_X8_23 ta0 ?_
      refine r_iload_n (place := 1) dX8_level_85 rfl rfl ?_
      refine r_iconst dX8_level_86 xc_0 ?_
      refine r_iast dX8_level_87 (xt_7_4 ta0) (fun h1 => ?_)
      refine r_iincC (place := 1) (ls' := [(2, .int (a2 + (1 : Int32))), (0, .ref (G.1 a0))]) dX8_level_88 rfl xc_1 (by decide) rfl ?_
      refine r_goto (tgt := 76) dX8_level_91 (by decide) ?_
      exact r_sub [1, 0] rfl (ih a0 (a2 + (1 : Int32)) ta0 h1)
def f_X8_level_40  (a0 : Nat) (a1 : Int32) (h : Mem) : Option (Int32 × Mem) :=
  if (h a0 5) = (4 : Int32) then
      some ((-3 : Int32), h)
  else
      ast h (xrf a0 4) (h a0 5) a1 fun h1 =>
      mlet (mu h1 a0 5 ((h1 a0 5) + (1 : Int32))) fun h2 =>
      f_X8_level_76 xFU a0 (h2 a0 5) h2
set_option maxRecDepth 20000 in
theorem t_X8_level_40 {G : xG}  (a0 : Nat) (a1 : Int32) (ta0 : xTy a0 7) (h : Mem) : Rn G 1 FX8_level xcI 40 [(0, .ref (G.1 a0)), (1, .int a1)] [] h (f_X8_level_40 a0 a1 h) := by
  unfold f_X8_level_40
  refine r_aload_n (place := 0) dX8_level_40 rfl rfl ?_
  refine r_getI dX8_level_41 fg_X8_161 ta0 ?_
  refine r_iconst dX8_level_44 xc_4 ?_
  refine r_ic_ne (tgt := 51) dX8_level_45 (by decide) ?_ ?_
  · refine r_aload_n (place := 0) dX8_level_51 rfl rfl ?_
    refine r_getR dX8_level_52 fg_X8_23 ta0 ?_
    refine r_aload_n (place := 0) dX8_level_55 rfl rfl ?_
    refine r_getI dX8_level_56 fg_X8_161 ta0 ?_
    refine r_iload_n (place := 1) dX8_level_59 rfl rfl ?_
    refine r_iast dX8_level_60 (xt_7_4 ta0) (fun h1 => ?_)
    refine r_aload_n (place := 0) dX8_level_61 rfl rfl ?_
    refine r_dup dX8_level_62 rfl ?_
    refine r_getI dX8_level_63 fg_X8_161 ta0 ?_
    refine r_iconst dX8_level_66 xc_1 ?_
    refine r_iadd dX8_level_67 ?_
    refine r_putI dX8_level_68 fp_X8_161 ta0 ?_
    refine r_mem (fun h2 => ?_)
    refine r_aload_n (place := 0) dX8_level_71 rfl rfl ?_
    refine r_getI dX8_level_72 fg_X8_161 ta0 ?_
    refine r_istore_n (ls' := [(2, .int (h2 a0 5)), (0, .ref (G.1 a0)), (1, .int a1)]) dX8_level_75 rfl (by decide) rfl ?_
    exact r_sub [1, 0] rfl (t_X8_level_76 xFU a0 (h2 a0 5) ta0 h2)
  · refine r_bipush dX8_level_48 xb_m3 ?_
    exact r_iret dX8_level_50 rfl
def f_X8_level (a0 : Nat) (a1 : Int32) (h : Mem) : Option (Int32 × Mem) :=
  b2 (f_X8_in a1.toInt64 (1 : Int64) (28 : Int64) h) fun v2 h1 =>
  if v2 = 0 then
      some ((-1 : Int32), h1)
  else
      if (h1 a0 5) ≤ 0 then
          f_X8_level_40 a0 a1 h1
      else
          ald h1 (xrf a0 4) ((h1 a0 5) - (1 : Int32)) fun v3 =>
          if v3 = (28 : Int32) then
              some ((-2 : Int32), h1)
          else
              f_X8_level_40 a0 a1 h1
set_option maxRecDepth 20000 in
theorem c_X8_level {G : xG} (a0 : Nat) (ta0 : xTy a0 7) (a1 : Int32) (h : Mem) : Sm G 1 yX8_level FX8_level xcI [.ref (G.1 a0), .int a1] h (f_X8_level a0 a1 h) := by
  refine Sm.of pn_X8 rfl (Nat.le_of_ble_eq_true rfl) (ls := [(0, .ref (G.1 a0)), (1, .int a1)]) rfl ?_
  unfold f_X8_level
  refine r_iload_n (place := 1) dX8_level_0 rfl rfl ?_
  refine r_i2l dX8_level_1 ?_
  refine r_lconst dX8_level_2 xl_1 ?_
  refine r_ldc2 dX8_level_3 ll_X8_164 ?_
  refine r_callSI (rest := []) dX8_level_6 m_X8_in lk_X8_59 (c_X8_in a1.toInt64 (1 : Int64) (28 : Int64) h) (by decide) rfl rfl (Nat.le_of_ble_eq_true rfl) (fun v2 h1 => ?_)
  refine r_if_ne (tgt := 14) dX8_level_9 (by decide) ?_ ?_
  · refine r_aload_n (place := 0) dX8_level_14 rfl rfl ?_
    refine r_getI dX8_level_15 fg_X8_161 ta0 ?_
    refine r_if_le (tgt := 40) dX8_level_18 (by decide) ?_ ?_
    · exact r_sub [0, 1] rfl (t_X8_level_40 a0 a1 ta0 h1)
    · refine r_aload_n (place := 0) dX8_level_21 rfl rfl ?_
      refine r_getR dX8_level_22 fg_X8_23 ta0 ?_
      refine r_aload_n (place := 0) dX8_level_25 rfl rfl ?_
      refine r_getI dX8_level_26 fg_X8_161 ta0 ?_
      refine r_iconst dX8_level_29 xc_1 ?_
      refine r_isub dX8_level_30 ?_
      refine r_iald dX8_level_31 (xt_7_4 ta0) (fun v3 => ?_)
      refine r_bipush dX8_level_32 xb_28 ?_
      refine r_ic_ne (tgt := 40) dX8_level_34 (by decide) ?_ ?_
      · exact r_sub [0, 1] rfl (t_X8_level_40 a0 a1 ta0 h1)
      · refine r_bipush dX8_level_37 xb_m2 ?_
        exact r_iret dX8_level_39 rfl
  · refine r_iconst dX8_level_12 xc_m1 ?_
    exact r_iret dX8_level_13 rfl
def f_X8_top_12  : Nat → Nat → Int32 → Int32 → Mem → Option (Int32 × Mem)
  | 0, _, _, _, _ => none
  | n + 1, a0, a1, a2, h =>
    if (4 : Int32) ≤ a2 then
        some (a1, h)
    else
        ast h (xrf a0 4) a2 (0 : Int32) fun h1 =>
        (f_X8_top_12 n) a0 a1 (a2 + (1 : Int32)) h1
set_option maxRecDepth 20000 in
theorem t_X8_top_12 {G : xG}  : ∀ (n : Nat) (a0 : Nat) (a1 : Int32) (a2 : Int32) (ta0 : xTy a0 7) (h : Mem), Rn G 0 FX8_top xcI 12 [(0, .ref (G.1 a0)), (1, .int a1), (2, .int a2)] [] h (f_X8_top_12 n a0 a1 a2 h) := by
  intro n
  induction n with
  | zero => intros; intro r hr; cases hr
  | succ n ih =>
    intro a0 a1 a2 ta0 h
    unfold f_X8_top_12
    refine r_iload_n (place := 2) dX8_top_12 rfl rfl ?_
    refine r_iconst dX8_top_13 xc_4 ?_
    refine r_ic_ge (tgt := 30) dX8_top_14 (by decide) ?_ ?_
    · refine r_iload_n (place := 1) dX8_top_30 rfl rfl ?_
      exact r_iret dX8_top_31 rfl
    · refine r_aload_n (place := 0) dX8_top_17 rfl rfl ?_
      refine r_getR dX8_top_18 fg_X8_23 ta0 ?_
      refine r_iload_n (place := 2) dX8_top_21 rfl rfl ?_
      refine r_iconst dX8_top_22 xc_0 ?_
      refine r_iast dX8_top_23 (xt_7_4 ta0) (fun h1 => ?_)
      refine r_iincC (place := 2) (ls' := [(2, .int (a2 + (1 : Int32))), (0, .ref (G.1 a0)), (1, .int a1)]) dX8_top_24 rfl xc_1 (by decide) rfl ?_
      refine r_goto (tgt := 12) dX8_top_27 (by decide) ?_
      exact r_sub [1, 2, 0] rfl (ih a0 a1 (a2 + (1 : Int32)) ta0 h1)
def f_X8_top (a0 : Nat) (h : Mem) : Option (Int32 × Mem) :=
  mlet (mu h a0 5 (0 : Int32)) fun h1 =>
  f_X8_top_12 xFU a0 (h a0 5) (0 : Int32) h1
set_option maxRecDepth 20000 in
theorem c_X8_top {G : xG} (a0 : Nat) (ta0 : xTy a0 7) (h : Mem) : Sm G 0 yX8_top FX8_top xcI [.ref (G.1 a0)] h (f_X8_top a0 h) := by
  refine Sm.of pn_X8 rfl (Nat.le_of_ble_eq_true rfl) (ls := [(0, .ref (G.1 a0))]) rfl ?_
  unfold f_X8_top
  refine r_aload_n (place := 0) dX8_top_0 rfl rfl ?_
  refine r_getI dX8_top_1 fg_X8_161 ta0 ?_
  refine r_istore_n (ls' := [(1, .int (h a0 5)), (0, .ref (G.1 a0))]) dX8_top_4 rfl (by decide) rfl ?_
  refine r_aload_n (place := 1) dX8_top_5 rfl rfl ?_
  refine r_iconst dX8_top_6 xc_0 ?_
  refine r_putI dX8_top_7 fp_X8_161 ta0 ?_
  refine r_mem (fun h1 => ?_)
  refine r_iconst dX8_top_10 xc_0 ?_
  refine r_istore_n (ls' := [(2, .int (0 : Int32)), (1, .int (h a0 5)), (0, .ref (G.1 a0))]) dX8_top_11 rfl (by decide) rfl ?_
  exact r_sub [2, 1, 0] rfl (t_X8_top_12 xFU a0 (h a0 5) (0 : Int32) ta0 h1)
def f_X8_isTopic_43 (kk15 : Nat → Int32 → Int32 → Mem → Option (Int32 × Mem)) (a0 : Nat) (a2 : Int32) (s0 : Int32) (h : Mem) : Option (Int32 × Mem) :=
  kk15 a0 s0 (a2 + (1 : Int32)) h
set_option maxRecDepth 20000 in
theorem t_X8_isTopic_43 {G : xG} (kk15 : Nat → Int32 → Int32 → Mem → Option (Int32 × Mem)) (hk15 : ∀ (a0 : Nat) (a1 : Int32) (a2 : Int32) (ta0 : xTy a0 7) (h : Mem), Rn G 0 FX8_isTopic xcI 15 [(0, .ref (G.1 a0)), (1, .int a1), (2, .int a2)] [] h (kk15 a0 a1 a2 h)) (a0 : Nat) (a2 : Int32) (s0 : Int32) (ta0 : xTy a0 7) (h : Mem) : Rn G 0 FX8_isTopic xcI 43 [(0, .ref (G.1 a0)), (2, .int a2)] [.int s0] h (f_X8_isTopic_43 kk15 a0 a2 s0 h) := by
  unfold f_X8_isTopic_43
  refine r_istore_n (ls' := [(1, .int s0), (0, .ref (G.1 a0)), (2, .int a2)]) dX8_isTopic_43 rfl (by decide) rfl ?_
  refine r_iincC (place := 2) (ls' := [(2, .int (a2 + (1 : Int32))), (1, .int s0), (0, .ref (G.1 a0))]) dX8_isTopic_44 rfl xc_1 (by decide) rfl ?_
  refine r_goto (tgt := 15) dX8_isTopic_47 (by decide) ?_
  exact r_sub [2, 1, 0] rfl (hk15 a0 s0 (a2 + (1 : Int32)) ta0 h)
def f_X8_isTopic_42 (kk15 : Nat → Int32 → Int32 → Mem → Option (Int32 × Mem)) (a0 : Nat) (a2 : Int32) (h : Mem) : Option (Int32 × Mem) :=
  f_X8_isTopic_43 kk15 a0 a2 (0 : Int32) h
set_option maxRecDepth 20000 in
theorem t_X8_isTopic_42 {G : xG} (kk15 : Nat → Int32 → Int32 → Mem → Option (Int32 × Mem)) (hk15 : ∀ (a0 : Nat) (a1 : Int32) (a2 : Int32) (ta0 : xTy a0 7) (h : Mem), Rn G 0 FX8_isTopic xcI 15 [(0, .ref (G.1 a0)), (1, .int a1), (2, .int a2)] [] h (kk15 a0 a1 a2 h)) (a0 : Nat) (a2 : Int32) (ta0 : xTy a0 7) (h : Mem) : Rn G 0 FX8_isTopic xcI 42 [(0, .ref (G.1 a0)), (2, .int a2)] [] h (f_X8_isTopic_42 kk15 a0 a2 h) := by
  unfold f_X8_isTopic_42
  refine r_iconst dX8_isTopic_42 xc_0 ?_
  exact r_sub [0, 1] rfl (t_X8_isTopic_43 kk15 hk15 a0 a2 (0 : Int32) ta0 h)
def f_X8_isTopic_15  : Nat → Nat → Int32 → Int32 → Mem → Option (Int32 × Mem)
  | 0, _, _, _, _ => none
  | n + 1, a0, a1, a2, h =>
    if (h a0 5) ≤ a2 then
        zg a1 (some (a1, h))
    else
        if a1 = 0 then
            f_X8_isTopic_42 (f_X8_isTopic_15 n) a0 a2 h
        else
            ald h (xrf a0 4) a2 fun v1 =>
            if (26 : Int32) < v1 then
                f_X8_isTopic_42 (f_X8_isTopic_15 n) a0 a2 h
            else
                f_X8_isTopic_43 (f_X8_isTopic_15 n) a0 a2 (1 : Int32) h
set_option maxRecDepth 20000 in
theorem t_X8_isTopic_15 {G : xG}  : ∀ (n : Nat) (a0 : Nat) (a1 : Int32) (a2 : Int32) (ta0 : xTy a0 7) (h : Mem), Rn G 0 FX8_isTopic xcI 15 [(0, .ref (G.1 a0)), (1, .int a1), (2, .int a2)] [] h (f_X8_isTopic_15 n a0 a1 a2 h) := by
  intro n
  induction n with
  | zero => intros; intro r hr; cases hr
  | succ n ih =>
    intro a0 a1 a2 ta0 h
    unfold f_X8_isTopic_15
    refine r_iload_n (place := 2) dX8_isTopic_15 rfl rfl ?_
    refine r_aload_n (place := 0) dX8_isTopic_16 rfl rfl ?_
    refine r_getI dX8_isTopic_17 fg_X8_161 ta0 ?_
    refine r_ic_ge (tgt := 50) dX8_isTopic_20 (by decide) ?_ ?_
    · refine r_iload_n (place := 1) dX8_isTopic_50 rfl rfl ?_
      exact r_zret dX8_isTopic_51 rfl
    · refine r_iload_n (place := 1) dX8_isTopic_23 rfl rfl ?_
      refine r_if_eq (tgt := 42) dX8_isTopic_24 (by decide) ?_ ?_
      · exact r_sub [0, 2] rfl (t_X8_isTopic_42 (f_X8_isTopic_15 n) ih a0 a2 ta0 h)
      · refine r_aload_n (place := 0) dX8_isTopic_27 rfl rfl ?_
        refine r_getR dX8_isTopic_28 fg_X8_23 ta0 ?_
        refine r_iload_n (place := 2) dX8_isTopic_31 rfl rfl ?_
        refine r_iald dX8_isTopic_32 (xt_7_4 ta0) (fun v1 => ?_)
        refine r_bipush dX8_isTopic_33 xb_26 ?_
        refine r_ic_gt (tgt := 42) dX8_isTopic_35 (by decide) ?_ ?_
        · exact r_sub [0, 2] rfl (t_X8_isTopic_42 (f_X8_isTopic_15 n) ih a0 a2 ta0 h)
        · refine r_iconst dX8_isTopic_38 xc_1 ?_
          refine r_goto (tgt := 43) dX8_isTopic_39 (by decide) ?_
          exact r_sub [0, 2] rfl (t_X8_isTopic_43 (f_X8_isTopic_15 n) ih a0 a2 (1 : Int32) ta0 h)
def f_X8_isTopic_12  (a0 : Nat) (s0 : Int32) (h : Mem) : Option (Int32 × Mem) :=
  f_X8_isTopic_15 xFU a0 s0 (0 : Int32) h
set_option maxRecDepth 20000 in
theorem t_X8_isTopic_12 {G : xG}  (a0 : Nat) (s0 : Int32) (ta0 : xTy a0 7) (h : Mem) : Rn G 0 FX8_isTopic xcI 12 [(0, .ref (G.1 a0))] [.int s0] h (f_X8_isTopic_12 a0 s0 h) := by
  unfold f_X8_isTopic_12
  refine r_istore_n (ls' := [(1, .int s0), (0, .ref (G.1 a0))]) dX8_isTopic_12 rfl (by decide) rfl ?_
  refine r_iconst dX8_isTopic_13 xc_0 ?_
  refine r_istore_n (ls' := [(2, .int (0 : Int32)), (1, .int s0), (0, .ref (G.1 a0))]) dX8_isTopic_14 rfl (by decide) rfl ?_
  exact r_sub [2, 1, 0] rfl (t_X8_isTopic_15 xFU a0 s0 (0 : Int32) ta0 h)
def f_X8_isTopic (a0 : Nat) (h : Mem) : Option (Int32 × Mem) :=
  if (h a0 5) ≤ 0 then
      f_X8_isTopic_12 a0 (0 : Int32) h
  else
      f_X8_isTopic_12 a0 (1 : Int32) h
set_option maxRecDepth 20000 in
theorem c_X8_isTopic {G : xG} (a0 : Nat) (ta0 : xTy a0 7) (h : Mem) : Sm G 0 yX8_isTopic FX8_isTopic xcI [.ref (G.1 a0)] h (f_X8_isTopic a0 h) := by
  refine Sm.of pn_X8 rfl (Nat.le_of_ble_eq_true rfl) (ls := [(0, .ref (G.1 a0))]) rfl ?_
  unfold f_X8_isTopic
  refine r_aload_n (place := 0) dX8_isTopic_0 rfl rfl ?_
  refine r_getI dX8_isTopic_1 fg_X8_161 ta0 ?_
  refine r_if_le (tgt := 11) dX8_isTopic_4 (by decide) ?_ ?_
  · refine r_iconst dX8_isTopic_11 xc_0 ?_
    exact r_sub [0] rfl (t_X8_isTopic_12 a0 (0 : Int32) ta0 h)
  · refine r_iconst dX8_isTopic_7 xc_1 ?_
    refine r_goto (tgt := 12) dX8_isTopic_8 (by decide) ?_
    exact r_sub [0] rfl (t_X8_isTopic_12 a0 (1 : Int32) ta0 h)
def f_X8_isMatching_49 (kk2 : Nat → Int32 → Nat → Int32 → Mem → Option (Int32 × Mem)) (a0 : Nat) (a1 : Int32) (a2 : Nat) (a3 : Int32) (h : Mem) : Option (Int32 × Mem) :=
  kk2 a0 a1 a2 (a3 + (1 : Int32)) h
set_option maxRecDepth 20000 in
theorem t_X8_isMatching_49 {G : xG} (kk2 : Nat → Int32 → Nat → Int32 → Mem → Option (Int32 × Mem)) (hk2 : ∀ (a0 : Nat) (a1 : Int32) (a2 : Nat) (a3 : Int32) (ta0 : xTy a0 7) (ta2 : xTy a2 8) (h : Mem), Rn G 0 FX8_isMatching xcI 2 [(0, .ref (G.1 a0)), (1, .int a1), (2, .ref (G.1 a2)), (3, .int a3)] [] h (kk2 a0 a1 a2 a3 h)) (a0 : Nat) (a1 : Int32) (a2 : Nat) (a3 : Int32) (ta0 : xTy a0 7) (ta2 : xTy a2 8) (h : Mem) : Rn G 0 FX8_isMatching xcI 49 [(0, .ref (G.1 a0)), (1, .int a1), (2, .ref (G.1 a2)), (3, .int a3)] [] h (f_X8_isMatching_49 kk2 a0 a1 a2 a3 h) := by
  unfold f_X8_isMatching_49
  refine r_iincC (place := 3) (ls' := [(3, .int (a3 + (1 : Int32))), (0, .ref (G.1 a0)), (1, .int a1), (2, .ref (G.1 a2))]) dX8_isMatching_49 rfl xc_1 (by decide) rfl ?_
  refine r_goto (tgt := 2) dX8_isMatching_52 (by decide) ?_
  exact r_sub [1, 2, 3, 0] rfl (hk2 a0 a1 a2 (a3 + (1 : Int32)) ta0 ta2 h)
def f_X8_isMatching_2  : Nat → Nat → Int32 → Nat → Int32 → Mem → Option (Int32 × Mem)
  | 0, _, _, _, _, _ => none
  | n + 1, a0, a1, a2, a3, h =>
    if (4 : Int32) ≤ a3 then
        some ((1 : Int32), h)
    else
        ald h (xrf a0 0) (a1 + a3) fun v1 =>
        if v1 = (28 : Int32) then
            some ((1 : Int32), h)
        else
            ald h a2 a3 fun v2 =>
            if v1 = v2 then
                f_X8_isMatching_49 (f_X8_isMatching_2 n) a0 a1 a2 a3 h
            else
                if v1 = (27 : Int32) then
                    ald h a2 a3 fun v3 =>
                    if v3 = 0 then
                        some ((0 : Int32), h)
                    else
                        f_X8_isMatching_49 (f_X8_isMatching_2 n) a0 a1 a2 a3 h
                else
                    some ((0 : Int32), h)
set_option maxRecDepth 20000 in
theorem t_X8_isMatching_2 {G : xG}  : ∀ (n : Nat) (a0 : Nat) (a1 : Int32) (a2 : Nat) (a3 : Int32) (ta0 : xTy a0 7) (ta2 : xTy a2 8) (h : Mem), Rn G 0 FX8_isMatching xcI 2 [(0, .ref (G.1 a0)), (1, .int a1), (2, .ref (G.1 a2)), (3, .int a3)] [] h (f_X8_isMatching_2 n a0 a1 a2 a3 h) := by
  intro n
  induction n with
  | zero => intros; intro r hr; cases hr
  | succ n ih =>
    intro a0 a1 a2 a3 ta0 ta2 h
    unfold f_X8_isMatching_2
    refine r_iload_n (place := 3) dX8_isMatching_2 rfl rfl ?_
    refine r_iconst dX8_isMatching_3 xc_4 ?_
    refine r_ic_ge (tgt := 55) dX8_isMatching_4 (by decide) ?_ ?_
    · refine r_iconst dX8_isMatching_55 xc_1 ?_
      exact r_zret1 dX8_isMatching_56 rfl (by decide)
    · refine r_aload_n (place := 0) dX8_isMatching_7 rfl rfl ?_
      refine r_getR dX8_isMatching_8 fg_X8_7 ta0 ?_
      refine r_iload_n (place := 1) dX8_isMatching_11 rfl rfl ?_
      refine r_iload_n (place := 3) dX8_isMatching_12 rfl rfl ?_
      refine r_iadd dX8_isMatching_13 ?_
      refine r_iald dX8_isMatching_14 (xt_7_0 ta0) (fun v1 => ?_)
      refine r_istore (ls' := [(4, .int v1), (0, .ref (G.1 a0)), (1, .int a1), (2, .ref (G.1 a2)), (3, .int a3)]) dX8_isMatching_15 (by decide) rfl ?_
      refine r_iload (place := 0) dX8_isMatching_17 rfl ?_
      refine r_bipush dX8_isMatching_19 xb_28 ?_
      refine r_ic_ne (tgt := 26) dX8_isMatching_21 (by decide) ?_ ?_
      · refine r_iload (place := 0) dX8_isMatching_26 rfl ?_
        refine r_aload_n (place := 3) dX8_isMatching_28 rfl rfl ?_
        refine r_iload_n (place := 4) dX8_isMatching_29 rfl rfl ?_
        refine r_iald dX8_isMatching_30 ta2 (fun v2 => ?_)
        refine r_ic_eq (tgt := 49) dX8_isMatching_31 (by decide) ?_ ?_
        · exact r_sub [1, 2, 3, 4] rfl (t_X8_isMatching_49 (f_X8_isMatching_2 n) ih a0 a1 a2 a3 ta0 ta2 h)
        · refine r_iload (place := 0) dX8_isMatching_34 rfl ?_
          refine r_bipush dX8_isMatching_36 xb_27 ?_
          refine r_ic_ne (tgt := 47) dX8_isMatching_38 (by decide) ?_ ?_
          · refine r_iconst dX8_isMatching_47 xc_0 ?_
            exact r_zret1 dX8_isMatching_48 rfl (by decide)
          · refine r_aload_n (place := 3) dX8_isMatching_41 rfl rfl ?_
            refine r_iload_n (place := 4) dX8_isMatching_42 rfl rfl ?_
            refine r_iald dX8_isMatching_43 ta2 (fun v3 => ?_)
            refine r_if_ne (tgt := 49) dX8_isMatching_44 (by decide) ?_ ?_
            · exact r_sub [1, 2, 3, 4] rfl (t_X8_isMatching_49 (f_X8_isMatching_2 n) ih a0 a1 a2 a3 ta0 ta2 h)
            · refine r_iconst dX8_isMatching_47 xc_0 ?_
              exact r_zret1 dX8_isMatching_48 rfl (by decide)
      · refine r_iconst dX8_isMatching_24 xc_1 ?_
        exact r_zret1 dX8_isMatching_25 rfl (by decide)
def f_X8_isMatching (a0 : Nat) (a1 : Int32) (a2 : Nat) (h : Mem) : Option (Int32 × Mem) :=
  f_X8_isMatching_2 xFU a0 a1 a2 (0 : Int32) h
set_option maxRecDepth 20000 in
theorem c_X8_isMatching {G : xG} (a0 : Nat) (ta0 : xTy a0 7) (a1 : Int32) (a2 : Nat) (ta2 : xTy a2 8) (h : Mem) : Sm G 0 yX8_isMatching FX8_isMatching xcI [.ref (G.1 a0), .int a1, .ref (G.1 a2)] h (f_X8_isMatching a0 a1 a2 h) := by
  refine Sm.of pn_X8 rfl (Nat.le_of_ble_eq_true rfl) (ls := [(0, .ref (G.1 a0)), (1, .int a1), (2, .ref (G.1 a2))]) rfl ?_
  unfold f_X8_isMatching
  refine r_iconst dX8_isMatching_0 xc_0 ?_
  refine r_istore_n (ls' := [(3, .int (0 : Int32)), (0, .ref (G.1 a0)), (1, .int a1), (2, .ref (G.1 a2))]) dX8_isMatching_1 rfl (by decide) rfl ?_
  exact r_sub [1, 2, 3, 0] rfl (t_X8_isMatching_2 xFU a0 a1 a2 (0 : Int32) ta0 ta2 h)
def f_X8_lesser (a0 : Int32) (a1 : Int32) (h : Mem) : Option (Int32 × Mem) :=
  if a1 ≤ a0 then
      some (a1, h)
  else
      some (a0, h)
set_option maxRecDepth 20000 in
theorem c_X8_lesser {G : xG} (a0 : Int32) (a1 : Int32) (h : Mem) : Sm G 0 yX8_lesser FX8_lesser xcI [.int a0, .int a1] h (f_X8_lesser a0 a1 h) := by
  refine Sm.of pn_X8 rfl (Nat.le_of_ble_eq_true rfl) (ls := [(0, .int a0), (1, .int a1)]) rfl ?_
  unfold f_X8_lesser
  refine r_iload_n (place := 0) dX8_lesser_0 rfl rfl ?_
  refine r_iload_n (place := 1) dX8_lesser_1 rfl rfl ?_
  refine r_ic_ge (tgt := 9) dX8_lesser_2 (by decide) ?_ ?_
  · refine r_iload_n (place := 1) dX8_lesser_9 rfl rfl ?_
    exact r_iret dX8_lesser_10 rfl
  · refine r_iload_n (place := 0) dX8_lesser_5 rfl rfl ?_
    refine r_goto (tgt := 10) dX8_lesser_6 (by decide) ?_
    exact r_iret dX8_lesser_10 rfl
def f_X8_of (a0 : Nat) (a1 : Int32) (a2 : Int32) (h : Mem) : Option (Int32 × Mem) :=
  b2 (f_X8_at a1 a2 h) fun v2 h1 =>
  ald h1 (xrf a0 0) v2 fun v3 =>
  some (v3, h1)
set_option maxRecDepth 20000 in
theorem c_X8_of {G : xG} (a0 : Nat) (ta0 : xTy a0 7) (a1 : Int32) (a2 : Int32) (h : Mem) : Sm G 1 yX8_of FX8_of xcI [.ref (G.1 a0), .int a1, .int a2] h (f_X8_of a0 a1 a2 h) := by
  refine Sm.of pn_X8 rfl (Nat.le_of_ble_eq_true rfl) (ls := [(0, .ref (G.1 a0)), (1, .int a1), (2, .int a2)]) rfl ?_
  unfold f_X8_of
  refine r_aload_n (place := 0) dX8_of_0 rfl rfl ?_
  refine r_getR dX8_of_1 fg_X8_7 ta0 ?_
  refine r_iload_n (place := 1) dX8_of_4 rfl rfl ?_
  refine r_iload_n (place := 2) dX8_of_5 rfl rfl ?_
  refine r_callSI (rest := [.ref (G.1 (xrf a0 0))]) dX8_of_6 m_X8_at lk_X8_115 (c_X8_at a1 a2 h) (by decide) rfl rfl (Nat.le_of_ble_eq_true rfl) (fun v2 h1 => ?_)
  refine r_iald dX8_of_9 (xt_7_0 ta0) (fun v3 => ?_)
  exact r_iret dX8_of_10 rfl
def f_X8_isAwake (a0 : Nat) (a1 : Int32) (h : Mem) : Option (Int32 × Mem) :=
  b2 (f_X8_of a0 a1 (0 : Int32) h) fun v2 h1 =>
  if v2 = (1 : Int32) then
      some ((1 : Int32), h1)
  else
      some ((0 : Int32), h1)
set_option maxRecDepth 20000 in
theorem c_X8_isAwake {G : xG} (a0 : Nat) (ta0 : xTy a0 7) (a1 : Int32) (h : Mem) : Sm G 2 yX8_isAwake FX8_isAwake xcI [.ref (G.1 a0), .int a1] h (f_X8_isAwake a0 a1 h) := by
  refine Sm.of pn_X8 rfl (Nat.le_of_ble_eq_true rfl) (ls := [(0, .ref (G.1 a0)), (1, .int a1)]) rfl ?_
  unfold f_X8_isAwake
  refine r_aload_n (place := 0) dX8_isAwake_0 rfl rfl ?_
  refine r_iload_n (place := 1) dX8_isAwake_1 rfl rfl ?_
  refine r_iconst dX8_isAwake_2 xc_0 ?_
  refine r_callVI (rest := []) dX8_isAwake_3 m_X8_of lk_X8_166 rfl (by decide) ta0 (c_X8_of a0 ta0 a1 (0 : Int32) h) (by decide) rfl rfl (Nat.le_of_ble_eq_true rfl) (fun v2 h1 => ?_)
  refine r_iconst dX8_isAwake_6 xc_1 ?_
  refine r_ic_ne (tgt := 14) dX8_isAwake_7 (by decide) ?_ ?_
  · refine r_iconst dX8_isAwake_14 xc_0 ?_
    exact r_zret1 dX8_isAwake_15 rfl (by decide)
  · refine r_iconst dX8_isAwake_10 xc_1 ?_
    refine r_goto (tgt := 15) dX8_isAwake_11 (by decide) ?_
    exact r_zret1 dX8_isAwake_15 rfl (by decide)
def f_X8_packetDown (a0 : Nat) (a1 : Int32) (a2 : Int32) (a3 : Int32) (a4 : Int32) (a5 : Int32) (a6 : Int32) (a7 : Int32) (h : Mem) : Option (Unit × Mem) :=
  b2 (f_X8_of a0 a1 (6 : Int32) h) fun v2 h1 =>
  if (16 : Int32) ≤ v2 then
      some ((), h1)
  else
      b2 (f_X8_at a1 ((153 : Int32) + ((6 : Int32) * v2)) h1) fun v4 h3 =>
      ast h3 (xrf a0 0) v4 a2 fun h5 =>
      ast h5 (xrf a0 0) (v4 + (1 : Int32)) a3 fun h6 =>
      ast h6 (xrf a0 0) (v4 + (2 : Int32)) a4 fun h7 =>
      ast h7 (xrf a0 0) (v4 + (3 : Int32)) a5 fun h8 =>
      ast h8 (xrf a0 0) (v4 + (4 : Int32)) a6 fun h9 =>
      ast h9 (xrf a0 0) (v4 + (5 : Int32)) a7 fun h10 =>
      b2 (f_X8_at a1 (6 : Int32) h10) fun v12 h11 =>
      ald h11 (xrf a0 0) v12 fun v13 =>
      ast h11 (xrf a0 0) v12 (v13 + (1 : Int32)) fun h14 =>
      some ((), h14)
set_option maxRecDepth 20000 in
theorem c_X8_packetDown {G : xG} (a0 : Nat) (ta0 : xTy a0 7) (a1 : Int32) (a2 : Int32) (a3 : Int32) (a4 : Int32) (a5 : Int32) (a6 : Int32) (a7 : Int32) (h : Mem) : Sm G 2 yX8_packetDown FX8_packetDown xcV [.ref (G.1 a0), .int a1, .int a2, .int a3, .int a4, .int a5, .int a6, .int a7] h (f_X8_packetDown a0 a1 a2 a3 a4 a5 a6 a7 h) := by
  refine Sm.of pn_X8 rfl (Nat.le_of_ble_eq_true rfl) (ls := [(0, .ref (G.1 a0)), (1, .int a1), (2, .int a2), (3, .int a3), (4, .int a4), (5, .int a5), (6, .int a6), (7, .int a7)]) rfl ?_
  unfold f_X8_packetDown
  refine r_aload_n (place := 0) dX8_packetDown_0 rfl rfl ?_
  refine r_iload_n (place := 1) dX8_packetDown_1 rfl rfl ?_
  refine r_bipush dX8_packetDown_2 xb_6 ?_
  refine r_callVI (rest := []) dX8_packetDown_4 m_X8_of lk_X8_166 rfl (by decide) ta0 (c_X8_of a0 ta0 a1 (6 : Int32) h) (by decide) rfl rfl (Nat.le_of_ble_eq_true rfl) (fun v2 h1 => ?_)
  refine r_istore (ls' := [(8, .int v2), (0, .ref (G.1 a0)), (1, .int a1), (2, .int a2), (3, .int a3), (4, .int a4), (5, .int a5), (6, .int a6), (7, .int a7)]) dX8_packetDown_7 (by decide) rfl ?_
  refine r_iload (place := 0) dX8_packetDown_9 rfl ?_
  refine r_bipush dX8_packetDown_11 xb_16 ?_
  refine r_ic_ge (tgt := 108) dX8_packetDown_13 (by decide) ?_ ?_
  · exact r_ret dX8_packetDown_108 rfl
  · refine r_iload_n (place := 2) dX8_packetDown_16 rfl rfl ?_
    refine r_sipush dX8_packetDown_17 xs_153 ?_
    refine r_bipush dX8_packetDown_20 xb_6 ?_
    refine r_iload (place := 0) dX8_packetDown_22 rfl ?_
    refine r_imul dX8_packetDown_24 ?_
    refine r_iadd dX8_packetDown_25 ?_
    refine r_callSI (rest := []) dX8_packetDown_26 m_X8_at lk_X8_115 (c_X8_at a1 ((153 : Int32) + ((6 : Int32) * v2)) h1) (by decide) rfl rfl (Nat.le_of_ble_eq_true rfl) (fun v4 h3 => ?_)
    refine r_istore (ls' := [(9, .int v4), (8, .int v2), (0, .ref (G.1 a0)), (1, .int a1), (2, .int a2), (3, .int a3), (4, .int a4), (5, .int a5), (6, .int a6), (7, .int a7)]) dX8_packetDown_29 (by decide) rfl ?_
    refine r_aload_n (place := 2) dX8_packetDown_31 rfl rfl ?_
    refine r_getR dX8_packetDown_32 fg_X8_7 ta0 ?_
    refine r_iload (place := 0) dX8_packetDown_35 rfl ?_
    refine r_iload_n (place := 4) dX8_packetDown_37 rfl rfl ?_
    refine r_iast dX8_packetDown_38 (xt_7_0 ta0) (fun h5 => ?_)
    refine r_aload_n (place := 2) dX8_packetDown_39 rfl rfl ?_
    refine r_getR dX8_packetDown_40 fg_X8_7 ta0 ?_
    refine r_iload (place := 0) dX8_packetDown_43 rfl ?_
    refine r_iconst dX8_packetDown_45 xc_1 ?_
    refine r_iadd dX8_packetDown_46 ?_
    refine r_iload_n (place := 5) dX8_packetDown_47 rfl rfl ?_
    refine r_iast dX8_packetDown_48 (xt_7_0 ta0) (fun h6 => ?_)
    refine r_aload_n (place := 2) dX8_packetDown_49 rfl rfl ?_
    refine r_getR dX8_packetDown_50 fg_X8_7 ta0 ?_
    refine r_iload (place := 0) dX8_packetDown_53 rfl ?_
    refine r_iconst dX8_packetDown_55 xc_2 ?_
    refine r_iadd dX8_packetDown_56 ?_
    refine r_iload (place := 6) dX8_packetDown_57 rfl ?_
    refine r_iast dX8_packetDown_59 (xt_7_0 ta0) (fun h7 => ?_)
    refine r_aload_n (place := 2) dX8_packetDown_60 rfl rfl ?_
    refine r_getR dX8_packetDown_61 fg_X8_7 ta0 ?_
    refine r_iload (place := 0) dX8_packetDown_64 rfl ?_
    refine r_iconst dX8_packetDown_66 xc_3 ?_
    refine r_iadd dX8_packetDown_67 ?_
    refine r_iload (place := 7) dX8_packetDown_68 rfl ?_
    refine r_iast dX8_packetDown_70 (xt_7_0 ta0) (fun h8 => ?_)
    refine r_aload_n (place := 2) dX8_packetDown_71 rfl rfl ?_
    refine r_getR dX8_packetDown_72 fg_X8_7 ta0 ?_
    refine r_iload (place := 0) dX8_packetDown_75 rfl ?_
    refine r_iconst dX8_packetDown_77 xc_4 ?_
    refine r_iadd dX8_packetDown_78 ?_
    refine r_iload (place := 8) dX8_packetDown_79 rfl ?_
    refine r_iast dX8_packetDown_81 (xt_7_0 ta0) (fun h9 => ?_)
    refine r_aload_n (place := 2) dX8_packetDown_82 rfl rfl ?_
    refine r_getR dX8_packetDown_83 fg_X8_7 ta0 ?_
    refine r_iload (place := 0) dX8_packetDown_86 rfl ?_
    refine r_iconst dX8_packetDown_88 xc_5 ?_
    refine r_iadd dX8_packetDown_89 ?_
    refine r_iload (place := 9) dX8_packetDown_90 rfl ?_
    refine r_iast dX8_packetDown_92 (xt_7_0 ta0) (fun h10 => ?_)
    refine r_aload_n (place := 2) dX8_packetDown_93 rfl rfl ?_
    refine r_getR dX8_packetDown_94 fg_X8_7 ta0 ?_
    refine r_iload_n (place := 3) dX8_packetDown_97 rfl rfl ?_
    refine r_bipush dX8_packetDown_98 xb_6 ?_
    refine r_callSI (rest := [.ref (G.1 (xrf a0 0))]) dX8_packetDown_100 m_X8_at lk_X8_115 (c_X8_at a1 (6 : Int32) h10) (by decide) rfl rfl (Nat.le_of_ble_eq_true rfl) (fun v12 h11 => ?_)
    refine r_dup2 dX8_packetDown_103 rfl rfl ?_
    refine r_iald dX8_packetDown_104 (xt_7_0 ta0) (fun v13 => ?_)
    refine r_iconst dX8_packetDown_105 xc_1 ?_
    refine r_iadd dX8_packetDown_106 ?_
    refine r_iast dX8_packetDown_107 (xt_7_0 ta0) (fun h14 => ?_)
    exact r_ret dX8_packetDown_108 rfl
