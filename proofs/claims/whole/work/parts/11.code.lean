def f_X2_levelAtHand (a0 : Nat) (h : Mem) : Option (Int32 × Mem) :=
  if (h a0 4) = (43 : Int32) then
      some ((27 : Int32), h)
  else
      if (h a0 4) = (35 : Int32) then
          some ((28 : Int32), h)
      else
          if (h a0 4) = (1 : Int32) then
              if ((h a0 2) - (h a0 3)) = (1 : Int32) then
                  b2 (f_X4_at (xrf a0 0) (h a0 3) h) fun v2 h1 =>
                  some (((v2 - (97 : Int32)) + (1 : Int32)), h1)
              else
                  some ((0 : Int32), h)
          else
              some ((0 : Int32), h)
set_option maxRecDepth 20000 in
theorem c_X2_levelAtHand {G : xG} (a0 : Nat) (ta0 : xTy a0 1) (h : Mem) : Sm G 1 yX2_levelAtHand FX2_levelAtHand xcI [.ref (G.1 a0)] h (f_X2_levelAtHand a0 h) := by
  refine Sm.of pn_X2 rfl (Nat.le_of_ble_eq_true rfl) (ls := [(0, .ref (G.1 a0))]) rfl ?_
  unfold f_X2_levelAtHand
  refine r_aload_n (place := 0) dX2_levelAtHand_0 rfl rfl ?_
  refine r_getI dX2_levelAtHand_1 fg_X2_44 ta0 ?_
  refine r_bipush dX2_levelAtHand_4 xb_43 ?_
  refine r_ic_ne (tgt := 12) dX2_levelAtHand_6 (by decide) ?_ ?_
  · refine r_aload_n (place := 0) dX2_levelAtHand_12 rfl rfl ?_
    refine r_getI dX2_levelAtHand_13 fg_X2_44 ta0 ?_
    refine r_bipush dX2_levelAtHand_16 xb_35 ?_
    refine r_ic_ne (tgt := 24) dX2_levelAtHand_18 (by decide) ?_ ?_
    · refine r_aload_n (place := 0) dX2_levelAtHand_24 rfl rfl ?_
      refine r_getI dX2_levelAtHand_25 fg_X2_44 ta0 ?_
      refine r_iconst dX2_levelAtHand_28 xc_1 ?_
      refine r_ic_ne (tgt := 64) dX2_levelAtHand_29 (by decide) ?_ ?_
      · refine r_iconst dX2_levelAtHand_64 xc_0 ?_
        exact r_iret dX2_levelAtHand_65 rfl
      · refine r_aload_n (place := 0) dX2_levelAtHand_32 rfl rfl ?_
        refine r_getI dX2_levelAtHand_33 fg_X2_28 ta0 ?_
        refine r_aload_n (place := 0) dX2_levelAtHand_36 rfl rfl ?_
        refine r_getI dX2_levelAtHand_37 fg_X2_127 ta0 ?_
        refine r_isub dX2_levelAtHand_40 ?_
        refine r_iconst dX2_levelAtHand_41 xc_1 ?_
        refine r_ic_ne (tgt := 64) dX2_levelAtHand_42 (by decide) ?_ ?_
        · refine r_iconst dX2_levelAtHand_64 xc_0 ?_
          exact r_iret dX2_levelAtHand_65 rfl
        · refine r_aload_n (place := 0) dX2_levelAtHand_45 rfl rfl ?_
          refine r_getR dX2_levelAtHand_46 fg_X2_12 ta0 ?_
          refine r_aload_n (place := 0) dX2_levelAtHand_49 rfl rfl ?_
          refine r_getI dX2_levelAtHand_50 fg_X2_127 ta0 ?_
          refine r_callVI (rest := []) dX2_levelAtHand_53 m_X4_at lk_X2_130 rfl (by decide) (xt_1_0 ta0) (c_X4_at (xrf a0 0) (xt_1_0 ta0) (h a0 3) h) (by decide) rfl rfl (Nat.le_of_ble_eq_true rfl) (fun v2 h1 => ?_)
          refine r_bipush dX2_levelAtHand_56 xb_97 ?_
          refine r_isub dX2_levelAtHand_58 ?_
          refine r_iconst dX2_levelAtHand_59 xc_1 ?_
          refine r_iadd dX2_levelAtHand_60 ?_
          refine r_goto (tgt := 65) dX2_levelAtHand_61 (by decide) ?_
          exact r_iret dX2_levelAtHand_65 rfl
    · refine r_bipush dX2_levelAtHand_21 xb_28 ?_
      exact r_iret dX2_levelAtHand_23 rfl
  · refine r_bipush dX2_levelAtHand_9 xb_27 ?_
    exact r_iret dX2_levelAtHand_11 rfl
def f_X2_takePath_33  (a0 : Nat) (a2 : Int32) (h : Mem) : Option (Int32 × Mem) :=
  b2 (f_X2_fail a0 (2 : Int32) h) fun _ h1 =>
  some (a2, h1)
set_option maxRecDepth 20000 in
theorem t_X2_takePath_33 {G : xG}  (a0 : Nat) (a2 : Int32) (ta0 : xTy a0 1) (h : Mem) : Rn G 4 FX2_takePath xcI 33 [(0, .ref (G.1 a0)), (2, .int a2)] [] h (f_X2_takePath_33 a0 a2 h) := by
  unfold f_X2_takePath_33
  refine r_aload_n (place := 0) dX2_takePath_33 rfl rfl ?_
  refine r_iconst dX2_takePath_34 xc_2 ?_
  refine r_callVV (rest := []) dX2_takePath_35 m_X2_fail lk_X2_61 rfl (by decide) ta0 (c_X2_fail a0 ta0 (2 : Int32) h) (by decide) rfl rfl (Nat.le_of_ble_eq_true rfl) (fun h1 => ?_)
  refine r_iload_n (place := 1) dX2_takePath_38 rfl rfl ?_
  exact r_iret dX2_takePath_39 rfl
def f_X2_takePath_4  : Nat → Nat → Int32 → Int32 → Int32 → Mem → Option (Int32 × Mem)
  | 0, _, _, _, _, _ => none
  | n + 1, a0, a1, a2, a3, h =>
    if (4 : Int32) ≤ a3 then
        some (a2, h)
    else
        if (h a0 6) = 0 then
            b2 (f_X2_levelAtHand a0 h) fun v2 h1 =>
            if v2 = 0 then
                f_X2_takePath_33 a0 a2 h1
            else
                if v2 ≤ a1 then
                    b2 (f_X1_with a2 v2 h1) fun v4 h3 =>
                    b2 (f_X2_advance a0 h3) fun _ h5 =>
                    if (h5 a0 4) = (47 : Int32) then
                        if v2 = (28 : Int32) then
                            some (v4, h5)
                        else
                            if a3 = (3 : Int32) then
                                some (v4, h5)
                            else
                                b2 (f_X2_advance a0 h5) fun _ h6 =>
                                (f_X2_takePath_4 n) a0 a1 v4 (a3 + (1 : Int32)) h6
                    else
                        some (v4, h5)
                else
                    f_X2_takePath_33 a0 a2 h1
        else
            some (a2, h)
set_option maxRecDepth 20000 in
theorem t_X2_takePath_4 {G : xG}  : ∀ (n : Nat) (a0 : Nat) (a1 : Int32) (a2 : Int32) (a3 : Int32) (ta0 : xTy a0 1) (h : Mem), Rn G 4 FX2_takePath xcI 4 [(0, .ref (G.1 a0)), (1, .int a1), (2, .int a2), (3, .int a3)] [] h (f_X2_takePath_4 n a0 a1 a2 a3 h) := by
  intro n
  induction n with
  | zero => intros; intro r hr; cases hr
  | succ n ih =>
    intro a0 a1 a2 a3 ta0 h
    unfold f_X2_takePath_4
    refine r_iload_n (place := 3) dX2_takePath_4 rfl rfl ?_
    refine r_iconst dX2_takePath_5 xc_4 ?_
    refine r_ic_ge (tgt := 84) dX2_takePath_6 (by decide) ?_ ?_
    · refine r_iload_n (place := 2) dX2_takePath_84 rfl rfl ?_
      exact r_iret dX2_takePath_85 rfl
    · refine r_aload_n (place := 0) dX2_takePath_9 rfl rfl ?_
      refine r_getI dX2_takePath_10 fg_X2_32 ta0 ?_
      refine r_if_ne (tgt := 84) dX2_takePath_13 (by decide) ?_ ?_
      · refine r_iload_n (place := 2) dX2_takePath_84 rfl rfl ?_
        exact r_iret dX2_takePath_85 rfl
      · refine r_aload_n (place := 0) dX2_takePath_16 rfl rfl ?_
        refine r_callVI (rest := []) dX2_takePath_17 m_X2_levelAtHand lk_X2_120 rfl (by decide) ta0 (c_X2_levelAtHand a0 ta0 h) (by decide) rfl rfl (Nat.le_of_ble_eq_true rfl) (fun v2 h1 => ?_)
        refine r_istore (ls' := [(4, .int v2), (0, .ref (G.1 a0)), (1, .int a1), (2, .int a2), (3, .int a3)]) dX2_takePath_20 (by decide) rfl ?_
        refine r_iload (place := 0) dX2_takePath_22 rfl ?_
        refine r_if_eq (tgt := 33) dX2_takePath_24 (by decide) ?_ ?_
        · exact r_sub [1, 3] rfl (t_X2_takePath_33 a0 a2 ta0 h1)
        · refine r_iload (place := 0) dX2_takePath_27 rfl ?_
          refine r_iload_n (place := 2) dX2_takePath_29 rfl rfl ?_
          refine r_ic_le (tgt := 40) dX2_takePath_30 (by decide) ?_ ?_
          · refine r_iload_n (place := 3) dX2_takePath_40 rfl rfl ?_
            refine r_iload (place := 0) dX2_takePath_41 rfl ?_
            refine r_callSI (rest := []) dX2_takePath_43 m_X1_with lk_X2_124 (c_X1_with a2 v2 h1) (by decide) rfl rfl (Nat.le_of_ble_eq_true rfl) (fun v4 h3 => ?_)
            refine r_istore_n (ls' := [(2, .int v4), (4, .int v2), (0, .ref (G.1 a0)), (1, .int a1), (3, .int a3)]) dX2_takePath_46 rfl (by decide) rfl ?_
            refine r_aload_n (place := 2) dX2_takePath_47 rfl rfl ?_
            refine r_callVV (rest := []) dX2_takePath_48 m_X2_advance lk_X2_41 rfl (by decide) ta0 (c_X2_advance a0 ta0 h3) (by decide) rfl rfl (Nat.le_of_ble_eq_true rfl) (fun h5 => ?_)
            refine r_aload_n (place := 2) dX2_takePath_51 rfl rfl ?_
            refine r_getI dX2_takePath_52 fg_X2_44 ta0 ?_
            refine r_bipush dX2_takePath_55 xb_47 ?_
            refine r_ic_ne (tgt := 72) dX2_takePath_57 (by decide) ?_ ?_
            · refine r_iload_n (place := 0) dX2_takePath_72 rfl rfl ?_
              exact r_iret dX2_takePath_73 rfl
            · refine r_iload (place := 1) dX2_takePath_60 rfl ?_
              refine r_bipush dX2_takePath_62 xb_28 ?_
              refine r_ic_eq (tgt := 72) dX2_takePath_64 (by decide) ?_ ?_
              · refine r_iload_n (place := 0) dX2_takePath_72 rfl rfl ?_
                exact r_iret dX2_takePath_73 rfl
              · refine r_iload_n (place := 4) dX2_takePath_67 rfl rfl ?_
                refine r_iconst dX2_takePath_68 xc_3 ?_
                refine r_ic_ne (tgt := 74) dX2_takePath_69 (by decide) ?_ ?_
                · refine r_aload_n (place := 2) dX2_takePath_74 rfl rfl ?_
                  refine r_callVV (rest := []) dX2_takePath_75 m_X2_advance lk_X2_41 rfl (by decide) ta0 (c_X2_advance a0 ta0 h5) (by decide) rfl rfl (Nat.le_of_ble_eq_true rfl) (fun h6 => ?_)
                  refine r_iincC (place := 4) (ls' := [(3, .int (a3 + (1 : Int32))), (2, .int v4), (4, .int v2), (0, .ref (G.1 a0)), (1, .int a1)]) dX2_takePath_78 rfl xc_1 (by decide) rfl ?_
                  refine r_goto (tgt := 4) dX2_takePath_81 (by decide) ?_
                  exact r_sub [3, 4, 1, 0] rfl (ih a0 a1 v4 (a3 + (1 : Int32)) ta0 h6)
                · refine r_iload_n (place := 0) dX2_takePath_72 rfl rfl ?_
                  exact r_iret dX2_takePath_73 rfl
          · exact r_sub [1, 3] rfl (t_X2_takePath_33 a0 a2 ta0 h1)
def f_X2_takePath (a0 : Nat) (a1 : Int32) (h : Mem) : Option (Int32 × Mem) :=
  f_X2_takePath_4 xFU a0 a1 (0 : Int32) (0 : Int32) h
set_option maxRecDepth 20000 in
theorem c_X2_takePath {G : xG} (a0 : Nat) (ta0 : xTy a0 1) (a1 : Int32) (h : Mem) : Sm G 4 yX2_takePath FX2_takePath xcI [.ref (G.1 a0), .int a1] h (f_X2_takePath a0 a1 h) := by
  refine Sm.of pn_X2 rfl (Nat.le_of_ble_eq_true rfl) (ls := [(0, .ref (G.1 a0)), (1, .int a1)]) rfl ?_
  unfold f_X2_takePath
  refine r_iconst dX2_takePath_0 xc_0 ?_
  refine r_istore_n (ls' := [(2, .int (0 : Int32)), (0, .ref (G.1 a0)), (1, .int a1)]) dX2_takePath_1 rfl (by decide) rfl ?_
  refine r_iconst dX2_takePath_2 xc_0 ?_
  refine r_istore_n (ls' := [(3, .int (0 : Int32)), (2, .int (0 : Int32)), (0, .ref (G.1 a0)), (1, .int a1)]) dX2_takePath_3 rfl (by decide) rfl ?_
  exact r_sub [2, 3, 1, 0] rfl (t_X2_takePath_4 xFU a0 a1 (0 : Int32) (0 : Int32) ta0 h)
def f_X2_isAtSemicolon_14  (a0 : Nat) (h : Mem) : Option (Int32 × Mem) :=
  if (h a0 6) = 0 then
      some ((1 : Int32), h)
  else
      some ((0 : Int32), h)
set_option maxRecDepth 20000 in
theorem t_X2_isAtSemicolon_14 {G : xG}  (a0 : Nat) (ta0 : xTy a0 1) (h : Mem) : Rn G 1 FX2_isAtSemicolon xcI 14 [(0, .ref (G.1 a0))] [] h (f_X2_isAtSemicolon_14 a0 h) := by
  unfold f_X2_isAtSemicolon_14
  refine r_aload_n (place := 0) dX2_isAtSemicolon_14 rfl rfl ?_
  refine r_getI dX2_isAtSemicolon_15 fg_X2_32 ta0 ?_
  refine r_if_ne (tgt := 25) dX2_isAtSemicolon_18 (by decide) ?_ ?_
  · refine r_iconst dX2_isAtSemicolon_25 xc_0 ?_
    exact r_zret1 dX2_isAtSemicolon_26 rfl (by decide)
  · refine r_iconst dX2_isAtSemicolon_21 xc_1 ?_
    refine r_goto (tgt := 26) dX2_isAtSemicolon_22 (by decide) ?_
    exact r_zret1 dX2_isAtSemicolon_26 rfl (by decide)
def f_X2_isAtSemicolon (a0 : Nat) (h : Mem) : Option (Int32 × Mem) :=
  if (h a0 4) = (59 : Int32) then
      f_X2_isAtSemicolon_14 a0 h
  else
      b2 (f_X2_fail a0 (2 : Int32) h) fun _ h1 =>
      f_X2_isAtSemicolon_14 a0 h1
set_option maxRecDepth 20000 in
theorem c_X2_isAtSemicolon {G : xG} (a0 : Nat) (ta0 : xTy a0 1) (h : Mem) : Sm G 1 yX2_isAtSemicolon FX2_isAtSemicolon xcI [.ref (G.1 a0)] h (f_X2_isAtSemicolon a0 h) := by
  refine Sm.of pn_X2 rfl (Nat.le_of_ble_eq_true rfl) (ls := [(0, .ref (G.1 a0))]) rfl ?_
  unfold f_X2_isAtSemicolon
  refine r_aload_n (place := 0) dX2_isAtSemicolon_0 rfl rfl ?_
  refine r_getI dX2_isAtSemicolon_1 fg_X2_44 ta0 ?_
  refine r_bipush dX2_isAtSemicolon_4 xb_59 ?_
  refine r_ic_eq (tgt := 14) dX2_isAtSemicolon_6 (by decide) ?_ ?_
  · exact r_sub [0] rfl (t_X2_isAtSemicolon_14 a0 ta0 h)
  · refine r_aload_n (place := 0) dX2_isAtSemicolon_9 rfl rfl ?_
    refine r_iconst dX2_isAtSemicolon_10 xc_2 ?_
    refine r_callVV (rest := []) dX2_isAtSemicolon_11 m_X2_fail lk_X2_61 rfl (by decide) ta0 (c_X2_fail a0 ta0 (2 : Int32) h) (by decide) rfl rfl (Nat.le_of_ble_eq_true rfl) (fun h1 => ?_)
    exact r_sub [0] rfl (t_X2_isAtSemicolon_14 a0 ta0 h1)
def f_X7_noClient (a0 : Int32) (h : Mem) : Option (Int32 × Mem) :=
  b2 (f_X7_outside a0 (0 : Int32) (5 : Int32) h) fun v2 h1 =>
  zg v2 (some (v2, h1))
set_option maxRecDepth 20000 in
theorem c_X7_noClient {G : xG} (a0 : Int32) (h : Mem) : Sm G 1 yX7_noClient FX7_noClient xcI [.int a0] h (f_X7_noClient a0 h) := by
  refine Sm.of pn_X7 rfl (Nat.le_of_ble_eq_true rfl) (ls := [(0, .int a0)]) rfl ?_
  unfold f_X7_noClient
  refine r_iload_n (place := 0) dX7_noClient_0 rfl rfl ?_
  refine r_iconst dX7_noClient_1 xc_0 ?_
  refine r_iconst dX7_noClient_2 xc_5 ?_
  refine r_callSI (rest := []) dX7_noClient_3 m_X7_outside lk_X7_45 (c_X7_outside a0 (0 : Int32) (5 : Int32) h) (by decide) rfl rfl (Nat.le_of_ble_eq_true rfl) (fun v2 h1 => ?_)
  exact r_zret dX7_noClient_6 rfl
def f_X2_takeSemicolon (a0 : Nat) (h : Mem) : Option (Unit × Mem) :=
  mlet (mu h a0 8 ((h a0 8) + (1 : Int32))) fun h1 =>
  b2 (f_X2_advance a0 h1) fun _ h2 =>
  some ((), h2)
set_option maxRecDepth 20000 in
theorem c_X2_takeSemicolon {G : xG} (a0 : Nat) (ta0 : xTy a0 1) (h : Mem) : Sm G 3 yX2_takeSemicolon FX2_takeSemicolon xcV [.ref (G.1 a0)] h (f_X2_takeSemicolon a0 h) := by
  refine Sm.of pn_X2 rfl (Nat.le_of_ble_eq_true rfl) (ls := [(0, .ref (G.1 a0))]) rfl ?_
  unfold f_X2_takeSemicolon
  refine r_aload_n (place := 0) dX2_takeSemicolon_0 rfl rfl ?_
  refine r_dup dX2_takeSemicolon_1 rfl ?_
  refine r_getI dX2_takeSemicolon_2 fg_X2_38 ta0 ?_
  refine r_iconst dX2_takeSemicolon_5 xc_1 ?_
  refine r_iadd dX2_takeSemicolon_6 ?_
  refine r_putI dX2_takeSemicolon_7 fp_X2_38 ta0 ?_
  refine r_mem (fun h1 => ?_)
  refine r_aload_n (place := 0) dX2_takeSemicolon_10 rfl rfl ?_
  refine r_callVV (rest := []) dX2_takeSemicolon_11 m_X2_advance lk_X2_41 rfl (by decide) ta0 (c_X2_advance a0 ta0 h1) (by decide) rfl rfl (Nat.le_of_ble_eq_true rfl) (fun h2 => ?_)
  exact r_ret dX2_takeSemicolon_14 rfl
def f_X2_readSubscription (a0 : Nat) (h : Mem) : Option (Unit × Mem) :=
  b2 (f_X2_advance a0 h) fun _ h1 =>
  b2 (f_X2_takeNumber a0 (0 : Int32) (5 : Int32) h1) fun v3 h2 =>
  b2 (f_X2_takePath a0 (28 : Int32) h2) fun v5 h4 =>
  b2 (f_X2_takeNumber a0 (0 : Int32) (2 : Int32) h4) fun v7 h6 =>
  b2 (f_X2_takeNumber a0 (0 : Int32) (3 : Int32) h6) fun v9 h8 =>
  b2 (f_X2_isAtSemicolon a0 h8) fun v11 h10 =>
  if v11 = 0 then
      some ((), h10)
  else
      b2 (f_X7_noClient v3 h10) fun v13 h12 =>
      if v13 = 0 then
          aald (xrf (xrf a0 1) 0) v3 fun q14 =>
          b2 (f_X0_findSubscription q14 v5 v9 h12) fun v16 h15 =>
          if v16 < 0 then
              b2 (f_X0_addSubscription q14 v5 v7 v9 h15) fun v18 h17 =>
              if v18 = 0 then
                  b2 (f_X2_fail a0 (5 : Int32) h17) fun _ h21 =>
                  some ((), h21)
              else
                  b2 (f_X0_beToldAsleep q14 h17) fun _ h19 =>
                  b2 (f_X2_takeSemicolon a0 h19) fun _ h20 =>
                  some ((), h20)
          else
              b2 (f_X2_fail a0 (4 : Int32) h15) fun _ h22 =>
              some ((), h22)
      else
          some ((), h12)
set_option maxRecDepth 20000 in
theorem c_X2_readSubscription {G : xG} (a0 : Nat) (ta0 : xTy a0 1) (h : Mem) : Sm G 5 yX2_readSubscription FX2_readSubscription xcV [.ref (G.1 a0)] h (f_X2_readSubscription a0 h) := by
  refine Sm.of pn_X2 rfl (Nat.le_of_ble_eq_true rfl) (ls := [(0, .ref (G.1 a0))]) rfl ?_
  unfold f_X2_readSubscription
  refine r_aload_n (place := 0) dX2_readSubscription_0 rfl rfl ?_
  refine r_callVV (rest := []) dX2_readSubscription_1 m_X2_advance lk_X2_41 rfl (by decide) ta0 (c_X2_advance a0 ta0 h) (by decide) rfl rfl (Nat.le_of_ble_eq_true rfl) (fun h1 => ?_)
  refine r_aload_n (place := 0) dX2_readSubscription_4 rfl rfl ?_
  refine r_iconst dX2_readSubscription_5 xc_0 ?_
  refine r_iconst dX2_readSubscription_6 xc_5 ?_
  refine r_callVI (rest := []) dX2_readSubscription_7 m_X2_takeNumber lk_X2_65 rfl (by decide) ta0 (c_X2_takeNumber a0 ta0 (0 : Int32) (5 : Int32) h1) (by decide) rfl rfl (Nat.le_of_ble_eq_true rfl) (fun v3 h2 => ?_)
  refine r_istore_n (ls' := [(1, .int v3), (0, .ref (G.1 a0))]) dX2_readSubscription_10 rfl (by decide) rfl ?_
  refine r_aload_n (place := 1) dX2_readSubscription_11 rfl rfl ?_
  refine r_bipush dX2_readSubscription_12 xb_28 ?_
  refine r_callVI (rest := []) dX2_readSubscription_14 m_X2_takePath lk_X2_69 rfl (by decide) ta0 (c_X2_takePath a0 ta0 (28 : Int32) h2) (by decide) rfl rfl (Nat.le_of_ble_eq_true rfl) (fun v5 h4 => ?_)
  refine r_istore_n (ls' := [(2, .int v5), (1, .int v3), (0, .ref (G.1 a0))]) dX2_readSubscription_17 rfl (by decide) rfl ?_
  refine r_aload_n (place := 2) dX2_readSubscription_18 rfl rfl ?_
  refine r_iconst dX2_readSubscription_19 xc_0 ?_
  refine r_iconst dX2_readSubscription_20 xc_2 ?_
  refine r_callVI (rest := []) dX2_readSubscription_21 m_X2_takeNumber lk_X2_65 rfl (by decide) ta0 (c_X2_takeNumber a0 ta0 (0 : Int32) (2 : Int32) h4) (by decide) rfl rfl (Nat.le_of_ble_eq_true rfl) (fun v7 h6 => ?_)
  refine r_istore_n (ls' := [(3, .int v7), (2, .int v5), (1, .int v3), (0, .ref (G.1 a0))]) dX2_readSubscription_24 rfl (by decide) rfl ?_
  refine r_aload_n (place := 3) dX2_readSubscription_25 rfl rfl ?_
  refine r_iconst dX2_readSubscription_26 xc_0 ?_
  refine r_iconst dX2_readSubscription_27 xc_3 ?_
  refine r_callVI (rest := []) dX2_readSubscription_28 m_X2_takeNumber lk_X2_65 rfl (by decide) ta0 (c_X2_takeNumber a0 ta0 (0 : Int32) (3 : Int32) h6) (by decide) rfl rfl (Nat.le_of_ble_eq_true rfl) (fun v9 h8 => ?_)
  refine r_istore (ls' := [(4, .int v9), (3, .int v7), (2, .int v5), (1, .int v3), (0, .ref (G.1 a0))]) dX2_readSubscription_31 (by decide) rfl ?_
  refine r_aload_n (place := 4) dX2_readSubscription_33 rfl rfl ?_
  refine r_callVI (rest := []) dX2_readSubscription_34 m_X2_isAtSemicolon lk_X2_73 rfl (by decide) ta0 (c_X2_isAtSemicolon a0 ta0 h8) (by decide) rfl rfl (Nat.le_of_ble_eq_true rfl) (fun v11 h10 => ?_)
  refine r_if_eq (tgt := 47) dX2_readSubscription_37 (by decide) ?_ ?_
  · exact r_ret dX2_readSubscription_47 rfl
  · refine r_iload_n (place := 3) dX2_readSubscription_40 rfl rfl ?_
    refine r_callSI (rest := []) dX2_readSubscription_41 m_X7_noClient lk_X2_77 (c_X7_noClient v3 h10) (by decide) rfl rfl (Nat.le_of_ble_eq_true rfl) (fun v13 h12 => ?_)
    refine r_if_eq (tgt := 48) dX2_readSubscription_44 (by decide) ?_ ?_
    · refine r_aload_n (place := 4) dX2_readSubscription_48 rfl rfl ?_
      refine r_getR dX2_readSubscription_49 fg_X2_21 ta0 ?_
      refine r_getR dX2_readSubscription_52 fg_X2_81 (xt_1_1 ta0) ?_
      refine r_iload_n (place := 3) dX2_readSubscription_55 rfl rfl ?_
      refine r_aald10 dX2_readSubscription_56 (xt_5_0 (xt_1_1 ta0)) (fun q14 tq14 => ?_)
      refine r_astore (ls' := [(5, .ref (G.1 q14)), (4, .int v9), (3, .int v7), (2, .int v5), (1, .int v3), (0, .ref (G.1 a0))]) dX2_readSubscription_57 (by decide) rfl ?_
      refine r_aload (place := 0) dX2_readSubscription_59 rfl ?_
      refine r_iload_n (place := 3) dX2_readSubscription_61 rfl rfl ?_
      refine r_iload (place := 1) dX2_readSubscription_62 rfl ?_
      refine r_callVI (rest := []) dX2_readSubscription_64 m_X0_findSubscription lk_X2_85 rfl (by decide) tq14 (c_X0_findSubscription q14 tq14 v5 v9 h12) (by decide) rfl rfl (Nat.le_of_ble_eq_true rfl) (fun v16 h15 => ?_)
      refine r_if_lt (tgt := 78) dX2_readSubscription_67 (by decide) ?_ ?_
      · refine r_aload (place := 0) dX2_readSubscription_78 rfl ?_
        refine r_iload_n (place := 3) dX2_readSubscription_80 rfl rfl ?_
        refine r_iload_n (place := 2) dX2_readSubscription_81 rfl rfl ?_
        refine r_iload (place := 1) dX2_readSubscription_82 rfl ?_
        refine r_callVI (rest := []) dX2_readSubscription_84 m_X0_addSubscription lk_X2_90 rfl (by decide) tq14 (c_X0_addSubscription q14 tq14 v5 v7 v9 h15) (by decide) rfl rfl (Nat.le_of_ble_eq_true rfl) (fun v18 h17 => ?_)
        refine r_if_ne (tgt := 98) dX2_readSubscription_87 (by decide) ?_ ?_
        · refine r_aload (place := 0) dX2_readSubscription_98 rfl ?_
          refine r_callVV (rest := []) dX2_readSubscription_100 m_X0_beToldAsleep lk_X2_94 rfl (by decide) tq14 (c_X0_beToldAsleep q14 tq14 h17) (by decide) rfl rfl (Nat.le_of_ble_eq_true rfl) (fun h19 => ?_)
          refine r_aload_n (place := 5) dX2_readSubscription_103 rfl rfl ?_
          refine r_callVV (rest := []) dX2_readSubscription_104 m_X2_takeSemicolon lk_X2_97 rfl (by decide) ta0 (c_X2_takeSemicolon a0 ta0 h19) (by decide) rfl rfl (Nat.le_of_ble_eq_true rfl) (fun h20 => ?_)
          exact r_ret dX2_readSubscription_107 rfl
        · refine r_aload_n (place := 5) dX2_readSubscription_90 rfl rfl ?_
          refine r_iconst dX2_readSubscription_91 xc_5 ?_
          refine r_callVV (rest := []) dX2_readSubscription_92 m_X2_fail lk_X2_61 rfl (by decide) ta0 (c_X2_fail a0 ta0 (5 : Int32) h17) (by decide) rfl rfl (Nat.le_of_ble_eq_true rfl) (fun h21 => ?_)
          refine r_goto (tgt := 107) dX2_readSubscription_95 (by decide) ?_
          exact r_ret dX2_readSubscription_107 rfl
      · refine r_aload_n (place := 5) dX2_readSubscription_70 rfl rfl ?_
        refine r_iconst dX2_readSubscription_71 xc_4 ?_
        refine r_callVV (rest := []) dX2_readSubscription_72 m_X2_fail lk_X2_61 rfl (by decide) ta0 (c_X2_fail a0 ta0 (4 : Int32) h15) (by decide) rfl rfl (Nat.le_of_ble_eq_true rfl) (fun h22 => ?_)
        refine r_goto (tgt := 107) dX2_readSubscription_75 (by decide) ?_
        exact r_ret dX2_readSubscription_107 rfl
    · exact r_ret dX2_readSubscription_47 rfl
def f_X6_addKept_18  (a0 : Nat) (a1 : Int32) (a2 : Int32) (a3 : Int32) (a4 : Int32) (h : Mem) : Option (Unit × Mem) :=
  b2 (f_X3_open (xrf a0 1) h) fun v2 h1 =>
  b2 (f_X3_put (xrf a0 1) v2 (0 : Int32) a1 h1) fun _ h3 =>
  b2 (f_X3_put (xrf a0 1) v2 (1 : Int32) a2 h3) fun _ h4 =>
  b2 (f_X3_put (xrf a0 1) v2 (2 : Int32) a3 h4) fun _ h5 =>
  b2 (f_X3_put (xrf a0 1) v2 (3 : Int32) a4 h5) fun _ h6 =>
  some ((), h6)
set_option maxRecDepth 20000 in
theorem t_X6_addKept_18 {G : xG}  (a0 : Nat) (a1 : Int32) (a2 : Int32) (a3 : Int32) (a4 : Int32) (ta0 : xTy a0 5) (h : Mem) : Rn G 2 FX6_addKept xcV 18 [(0, .ref (G.1 a0)), (1, .int a1), (2, .int a2), (3, .int a3), (4, .int a4)] [] h (f_X6_addKept_18 a0 a1 a2 a3 a4 h) := by
  unfold f_X6_addKept_18
  refine r_aload_n (place := 0) dX6_addKept_18 rfl rfl ?_
  refine r_getR dX6_addKept_19 fg_X6_22 ta0 ?_
  refine r_callVI (rest := []) dX6_addKept_22 m_X3_open lk_X6_128 rfl (by decide) (xt_5_1 ta0) (c_X3_open (xrf a0 1) (xt_5_1 ta0) h) (by decide) rfl rfl (Nat.le_of_ble_eq_true rfl) (fun v2 h1 => ?_)
  refine r_istore (ls' := [(5, .int v2), (0, .ref (G.1 a0)), (1, .int a1), (2, .int a2), (3, .int a3), (4, .int a4)]) dX6_addKept_25 (by decide) rfl ?_
  refine r_aload_n (place := 1) dX6_addKept_27 rfl rfl ?_
  refine r_getR dX6_addKept_28 fg_X6_22 ta0 ?_
  refine r_iload (place := 0) dX6_addKept_31 rfl ?_
  refine r_iconst dX6_addKept_33 xc_0 ?_
  refine r_iload_n (place := 2) dX6_addKept_34 rfl rfl ?_
  refine r_callVV (rest := []) dX6_addKept_35 m_X3_put lk_X6_132 rfl (by decide) (xt_5_1 ta0) (c_X3_put (xrf a0 1) (xt_5_1 ta0) v2 (0 : Int32) a1 h1) (by decide) rfl rfl (Nat.le_of_ble_eq_true rfl) (fun h3 => ?_)
  refine r_aload_n (place := 1) dX6_addKept_38 rfl rfl ?_
  refine r_getR dX6_addKept_39 fg_X6_22 ta0 ?_
  refine r_iload (place := 0) dX6_addKept_42 rfl ?_
  refine r_iconst dX6_addKept_44 xc_1 ?_
  refine r_iload_n (place := 3) dX6_addKept_45 rfl rfl ?_
  refine r_callVV (rest := []) dX6_addKept_46 m_X3_put lk_X6_132 rfl (by decide) (xt_5_1 ta0) (c_X3_put (xrf a0 1) (xt_5_1 ta0) v2 (1 : Int32) a2 h3) (by decide) rfl rfl (Nat.le_of_ble_eq_true rfl) (fun h4 => ?_)
  refine r_aload_n (place := 1) dX6_addKept_49 rfl rfl ?_
  refine r_getR dX6_addKept_50 fg_X6_22 ta0 ?_
  refine r_iload (place := 0) dX6_addKept_53 rfl ?_
  refine r_iconst dX6_addKept_55 xc_2 ?_
  refine r_iload_n (place := 4) dX6_addKept_56 rfl rfl ?_
  refine r_callVV (rest := []) dX6_addKept_57 m_X3_put lk_X6_132 rfl (by decide) (xt_5_1 ta0) (c_X3_put (xrf a0 1) (xt_5_1 ta0) v2 (2 : Int32) a3 h4) (by decide) rfl rfl (Nat.le_of_ble_eq_true rfl) (fun h5 => ?_)
  refine r_aload_n (place := 1) dX6_addKept_60 rfl rfl ?_
  refine r_getR dX6_addKept_61 fg_X6_22 ta0 ?_
  refine r_iload (place := 0) dX6_addKept_64 rfl ?_
  refine r_iconst dX6_addKept_66 xc_3 ?_
  refine r_iload (place := 5) dX6_addKept_67 rfl ?_
  refine r_callVV (rest := []) dX6_addKept_69 m_X3_put lk_X6_132 rfl (by decide) (xt_5_1 ta0) (c_X3_put (xrf a0 1) (xt_5_1 ta0) v2 (3 : Int32) a4 h5) (by decide) rfl rfl (Nat.le_of_ble_eq_true rfl) (fun h6 => ?_)
  exact r_ret dX6_addKept_72 rfl
def f_X6_addKept (a0 : Nat) (a1 : Int32) (a2 : Int32) (a3 : Int32) (a4 : Int32) (h : Mem) : Option (Unit × Mem) :=
  b2 (f_X3_isFull (xrf a0 1) h) fun v2 h1 =>
  if v2 = 0 then
      f_X6_addKept_18 a0 a1 a2 a3 a4 h1
  else
      b2 (f_X3_remove (xrf a0 1) (0 : Int32) h1) fun _ h3 =>
      f_X6_addKept_18 a0 a1 a2 a3 a4 h3
set_option maxRecDepth 20000 in
theorem c_X6_addKept {G : xG} (a0 : Nat) (ta0 : xTy a0 5) (a1 : Int32) (a2 : Int32) (a3 : Int32) (a4 : Int32) (h : Mem) : Sm G 2 yX6_addKept FX6_addKept xcV [.ref (G.1 a0), .int a1, .int a2, .int a3, .int a4] h (f_X6_addKept a0 a1 a2 a3 a4 h) := by
  refine Sm.of pn_X6 rfl (Nat.le_of_ble_eq_true rfl) (ls := [(0, .ref (G.1 a0)), (1, .int a1), (2, .int a2), (3, .int a3), (4, .int a4)]) rfl ?_
  unfold f_X6_addKept
  refine r_aload_n (place := 0) dX6_addKept_0 rfl rfl ?_
  refine r_getR dX6_addKept_1 fg_X6_22 ta0 ?_
  refine r_callVI (rest := []) dX6_addKept_4 m_X3_isFull lk_X6_124 rfl (by decide) (xt_5_1 ta0) (c_X3_isFull (xrf a0 1) (xt_5_1 ta0) h) (by decide) rfl rfl (Nat.le_of_ble_eq_true rfl) (fun v2 h1 => ?_)
  refine r_if_eq (tgt := 18) dX6_addKept_7 (by decide) ?_ ?_
  · exact r_sub [0, 1, 2, 3, 4] rfl (t_X6_addKept_18 a0 a1 a2 a3 a4 ta0 h1)
  · refine r_aload_n (place := 0) dX6_addKept_10 rfl rfl ?_
    refine r_getR dX6_addKept_11 fg_X6_22 ta0 ?_
    refine r_iconst dX6_addKept_14 xc_0 ?_
    refine r_callVV (rest := []) dX6_addKept_15 m_X3_remove lk_X6_110 rfl (by decide) (xt_5_1 ta0) (c_X3_remove (xrf a0 1) (xt_5_1 ta0) (0 : Int32) h1) (by decide) rfl rfl (Nat.le_of_ble_eq_true rfl) (fun h3 => ?_)
    exact r_sub [0, 1, 2, 3, 4] rfl (t_X6_addKept_18 a0 a1 a2 a3 a4 ta0 h3)
def f_X2_readKept (a0 : Nat) (h : Mem) : Option (Unit × Mem) :=
  b2 (f_X2_advance a0 h) fun _ h1 =>
  b2 (f_X2_takePath a0 (26 : Int32) h1) fun v3 h2 =>
  b2 (f_X2_takeNumber a0 (1 : Int32) (99 : Int32) h2) fun v5 h4 =>
  b2 (f_X2_takeNumber a0 (0 : Int32) (2 : Int32) h4) fun v7 h6 =>
  b2 (f_X2_isAtSemicolon a0 h6) fun v9 h8 =>
  if v9 = 0 then
      some ((), h8)
  else
      b2 (f_X3_find (xrf (xrf a0 1) 1) (0 : Int32) v3 h8) fun v11 h10 =>
      if v11 < 0 then
          b2 (f_X3_isFull (xrf (xrf a0 1) 1) h10) fun v13 h12 =>
          if v13 = 0 then
              b2 (f_X6_addKept (xrf a0 1) v3 v5 v7 (h12 (xrf a0 1) 4) h12) fun _ h14 =>
              mlet (mu h14 (xrf a0 1) 4 ((h14 (xrf a0 1) 4) + (1 : Int32))) fun h15 =>
              b2 (f_X2_takeSemicolon a0 h15) fun _ h16 =>
              some ((), h16)
          else
              b2 (f_X2_fail a0 (5 : Int32) h12) fun _ h17 =>
              some ((), h17)
      else
          b2 (f_X2_fail a0 (4 : Int32) h10) fun _ h18 =>
          some ((), h18)
set_option maxRecDepth 20000 in
theorem c_X2_readKept {G : xG} (a0 : Nat) (ta0 : xTy a0 1) (h : Mem) : Sm G 5 yX2_readKept FX2_readKept xcV [.ref (G.1 a0)] h (f_X2_readKept a0 h) := by
  refine Sm.of pn_X2 rfl (Nat.le_of_ble_eq_true rfl) (ls := [(0, .ref (G.1 a0))]) rfl ?_
  unfold f_X2_readKept
  refine r_aload_n (place := 0) dX2_readKept_0 rfl rfl ?_
  refine r_callVV (rest := []) dX2_readKept_1 m_X2_advance lk_X2_41 rfl (by decide) ta0 (c_X2_advance a0 ta0 h) (by decide) rfl rfl (Nat.le_of_ble_eq_true rfl) (fun h1 => ?_)
  refine r_aload_n (place := 0) dX2_readKept_4 rfl rfl ?_
  refine r_bipush dX2_readKept_5 xb_26 ?_
  refine r_callVI (rest := []) dX2_readKept_7 m_X2_takePath lk_X2_69 rfl (by decide) ta0 (c_X2_takePath a0 ta0 (26 : Int32) h1) (by decide) rfl rfl (Nat.le_of_ble_eq_true rfl) (fun v3 h2 => ?_)
  refine r_istore_n (ls' := [(1, .int v3), (0, .ref (G.1 a0))]) dX2_readKept_10 rfl (by decide) rfl ?_
  refine r_aload_n (place := 1) dX2_readKept_11 rfl rfl ?_
  refine r_iconst dX2_readKept_12 xc_1 ?_
  refine r_bipush dX2_readKept_13 xb_99 ?_
  refine r_callVI (rest := []) dX2_readKept_15 m_X2_takeNumber lk_X2_65 rfl (by decide) ta0 (c_X2_takeNumber a0 ta0 (1 : Int32) (99 : Int32) h2) (by decide) rfl rfl (Nat.le_of_ble_eq_true rfl) (fun v5 h4 => ?_)
  refine r_istore_n (ls' := [(2, .int v5), (1, .int v3), (0, .ref (G.1 a0))]) dX2_readKept_18 rfl (by decide) rfl ?_
  refine r_aload_n (place := 2) dX2_readKept_19 rfl rfl ?_
  refine r_iconst dX2_readKept_20 xc_0 ?_
  refine r_iconst dX2_readKept_21 xc_2 ?_
  refine r_callVI (rest := []) dX2_readKept_22 m_X2_takeNumber lk_X2_65 rfl (by decide) ta0 (c_X2_takeNumber a0 ta0 (0 : Int32) (2 : Int32) h4) (by decide) rfl rfl (Nat.le_of_ble_eq_true rfl) (fun v7 h6 => ?_)
  refine r_istore_n (ls' := [(3, .int v7), (2, .int v5), (1, .int v3), (0, .ref (G.1 a0))]) dX2_readKept_25 rfl (by decide) rfl ?_
  refine r_aload_n (place := 3) dX2_readKept_26 rfl rfl ?_
  refine r_callVI (rest := []) dX2_readKept_27 m_X2_isAtSemicolon lk_X2_73 rfl (by decide) ta0 (c_X2_isAtSemicolon a0 ta0 h6) (by decide) rfl rfl (Nat.le_of_ble_eq_true rfl) (fun v9 h8 => ?_)
  refine r_if_ne (tgt := 34) dX2_readKept_30 (by decide) ?_ ?_
  · refine r_aload_n (place := 3) dX2_readKept_34 rfl rfl ?_
    refine r_getR dX2_readKept_35 fg_X2_21 ta0 ?_
    refine r_getR dX2_readKept_38 fg_X2_100 (xt_1_1 ta0) ?_
    refine r_iconst dX2_readKept_41 xc_0 ?_
    refine r_iload_n (place := 2) dX2_readKept_42 rfl rfl ?_
    refine r_callVI (rest := []) dX2_readKept_43 m_X3_find lk_X2_103 rfl (by decide) (xt_5_1 (xt_1_1 ta0)) (c_X3_find (xrf (xrf a0 1) 1) (xt_5_1 (xt_1_1 ta0)) (0 : Int32) v3 h8) (by decide) rfl rfl (Nat.le_of_ble_eq_true rfl) (fun v11 h10 => ?_)
    refine r_if_lt (tgt := 57) dX2_readKept_46 (by decide) ?_ ?_
    · refine r_aload_n (place := 3) dX2_readKept_57 rfl rfl ?_
      refine r_getR dX2_readKept_58 fg_X2_21 ta0 ?_
      refine r_getR dX2_readKept_61 fg_X2_100 (xt_1_1 ta0) ?_
      refine r_callVI (rest := []) dX2_readKept_64 m_X3_isFull lk_X2_108 rfl (by decide) (xt_5_1 (xt_1_1 ta0)) (c_X3_isFull (xrf (xrf a0 1) 1) (xt_5_1 (xt_1_1 ta0)) h10) (by decide) rfl rfl (Nat.le_of_ble_eq_true rfl) (fun v13 h12 => ?_)
      refine r_if_eq (tgt := 78) dX2_readKept_67 (by decide) ?_ ?_
      · refine r_aload_n (place := 3) dX2_readKept_78 rfl rfl ?_
        refine r_getR dX2_readKept_79 fg_X2_21 ta0 ?_
        refine r_iload_n (place := 2) dX2_readKept_82 rfl rfl ?_
        refine r_iload_n (place := 1) dX2_readKept_83 rfl rfl ?_
        refine r_iload_n (place := 0) dX2_readKept_84 rfl rfl ?_
        refine r_aload_n (place := 3) dX2_readKept_85 rfl rfl ?_
        refine r_getR dX2_readKept_86 fg_X2_21 ta0 ?_
        refine r_getI dX2_readKept_89 fg_X2_111 (xt_1_1 ta0) ?_
        refine r_callVV (rest := []) dX2_readKept_92 m_X6_addKept lk_X2_114 rfl (by decide) (xt_1_1 ta0) (c_X6_addKept (xrf a0 1) (xt_1_1 ta0) v3 v5 v7 (h12 (xrf a0 1) 4) h12) (by decide) rfl rfl (Nat.le_of_ble_eq_true rfl) (fun h14 => ?_)
        refine r_aload_n (place := 3) dX2_readKept_95 rfl rfl ?_
        refine r_getR dX2_readKept_96 fg_X2_21 ta0 ?_
        refine r_dup dX2_readKept_99 rfl ?_
        refine r_getI dX2_readKept_100 fg_X2_111 (xt_1_1 ta0) ?_
        refine r_iconst dX2_readKept_103 xc_1 ?_
        refine r_iadd dX2_readKept_104 ?_
        refine r_putI dX2_readKept_105 fp_X2_111 (xt_1_1 ta0) ?_
        refine r_mem (fun h15 => ?_)
        refine r_aload_n (place := 3) dX2_readKept_108 rfl rfl ?_
        refine r_callVV (rest := []) dX2_readKept_109 m_X2_takeSemicolon lk_X2_97 rfl (by decide) ta0 (c_X2_takeSemicolon a0 ta0 h15) (by decide) rfl rfl (Nat.le_of_ble_eq_true rfl) (fun h16 => ?_)
        exact r_ret dX2_readKept_112 rfl
      · refine r_aload_n (place := 3) dX2_readKept_70 rfl rfl ?_
        refine r_iconst dX2_readKept_71 xc_5 ?_
        refine r_callVV (rest := []) dX2_readKept_72 m_X2_fail lk_X2_61 rfl (by decide) ta0 (c_X2_fail a0 ta0 (5 : Int32) h12) (by decide) rfl rfl (Nat.le_of_ble_eq_true rfl) (fun h17 => ?_)
        refine r_goto (tgt := 112) dX2_readKept_75 (by decide) ?_
        exact r_ret dX2_readKept_112 rfl
    · refine r_aload_n (place := 3) dX2_readKept_49 rfl rfl ?_
      refine r_iconst dX2_readKept_50 xc_4 ?_
      refine r_callVV (rest := []) dX2_readKept_51 m_X2_fail lk_X2_61 rfl (by decide) ta0 (c_X2_fail a0 ta0 (4 : Int32) h10) (by decide) rfl rfl (Nat.le_of_ble_eq_true rfl) (fun h18 => ?_)
      refine r_goto (tgt := 112) dX2_readKept_54 (by decide) ?_
      exact r_ret dX2_readKept_112 rfl
  · exact r_ret dX2_readKept_33 rfl
def f_X4_push (a0 : Nat) (a1 : Int32) (h : Mem) : Option (Int32 × Mem) :=
  if (h a0 1) < 0 then
      some ((0 : Int32), h)
  else
      if (h a0 1) < (200 : Int32) then
          ast h (xrf a0 0) (h a0 1) a1 fun h1 =>
          mlet (mu h1 a0 1 ((h1 a0 1) + (1 : Int32))) fun h2 =>
          some ((1 : Int32), h2)
      else
          some ((0 : Int32), h)
set_option maxRecDepth 20000 in
theorem c_X4_push {G : xG} (a0 : Nat) (ta0 : xTy a0 3) (a1 : Int32) (h : Mem) : Sm G 0 yX4_push FX4_push xcI [.ref (G.1 a0), .int a1] h (f_X4_push a0 a1 h) := by
  refine Sm.of pn_X4 rfl (Nat.le_of_ble_eq_true rfl) (ls := [(0, .ref (G.1 a0)), (1, .int a1)]) rfl ?_
  unfold f_X4_push
  refine r_aload_n (place := 0) dX4_push_0 rfl rfl ?_
  refine r_getI dX4_push_1 fg_X4_15 ta0 ?_
  refine r_if_lt (tgt := 17) dX4_push_4 (by decide) ?_ ?_
  · refine r_iconst dX4_push_17 xc_0 ?_
    exact r_zret1 dX4_push_18 rfl (by decide)
  · refine r_aload_n (place := 0) dX4_push_7 rfl rfl ?_
    refine r_getI dX4_push_8 fg_X4_15 ta0 ?_
    refine r_sipush dX4_push_11 xs_200 ?_
    refine r_ic_lt (tgt := 19) dX4_push_14 (by decide) ?_ ?_
    · refine r_aload_n (place := 0) dX4_push_19 rfl rfl ?_
      refine r_getR dX4_push_20 fg_X4_9 ta0 ?_
      refine r_aload_n (place := 0) dX4_push_23 rfl rfl ?_
      refine r_getI dX4_push_24 fg_X4_15 ta0 ?_
      refine r_iload_n (place := 1) dX4_push_27 rfl rfl ?_
      refine r_iast dX4_push_28 (xt_3_0 ta0) (fun h1 => ?_)
      refine r_aload_n (place := 0) dX4_push_29 rfl rfl ?_
      refine r_dup dX4_push_30 rfl ?_
      refine r_getI dX4_push_31 fg_X4_15 ta0 ?_
      refine r_iconst dX4_push_34 xc_1 ?_
      refine r_iadd dX4_push_35 ?_
      refine r_putI dX4_push_36 fp_X4_15 ta0 ?_
      refine r_mem (fun h2 => ?_)
      refine r_iconst dX4_push_39 xc_1 ?_
      exact r_zret1 dX4_push_40 rfl (by decide)
    · refine r_iconst dX4_push_17 xc_0 ?_
      exact r_zret1 dX4_push_18 rfl (by decide)
def f_X5_write (a0 : Nat) (a1 : Int32) (a2 : Int32) (a3 : Int32) (a4 : Int32) (a5 : Int32) (h : Mem) : Option (Unit × Mem) :=
  mlet (mu h a0 0 (1 : Int32)) fun h1 =>
  mlet (mu h1 a0 1 a1) fun h2 =>
  mlet (mu h2 a0 2 a2) fun h3 =>
  mlet (mu h3 a0 3 a3) fun h4 =>
  zg a4 <|
  mlet (mu (mu h4 a0 4 a4) a0 5 a5) fun h5 =>
  some ((), h5)
set_option maxRecDepth 20000 in
theorem c_X5_write {G : xG} (a0 : Nat) (ta0 : xTy a0 4) (a1 : Int32) (a2 : Int32) (a3 : Int32) (a4 : Int32) (a5 : Int32) (h : Mem) : Sm G 0 yX5_write FX5_write xcV [.ref (G.1 a0), .int a1, .int a2, .int a3, .int a4, .int a5] h (f_X5_write a0 a1 a2 a3 a4 a5 h) := by
  refine Sm.of pn_X5 rfl (Nat.le_of_ble_eq_true rfl) (ls := [(0, .ref (G.1 a0)), (1, .int a1), (2, .int a2), (3, .int a3), (4, .int a4), (5, .int a5)]) rfl ?_
  unfold f_X5_write
  refine r_aload_n (place := 0) dX5_write_0 rfl rfl ?_
  refine r_iconst dX5_write_1 xc_1 ?_
  refine r_putI dX5_write_2 fp_X5_11 ta0 ?_
  refine r_mem (fun h1 => ?_)
  refine r_aload_n (place := 0) dX5_write_5 rfl rfl ?_
  refine r_iload_n (place := 1) dX5_write_6 rfl rfl ?_
  refine r_putI dX5_write_7 fp_X5_15 ta0 ?_
  refine r_mem (fun h2 => ?_)
  refine r_aload_n (place := 0) dX5_write_10 rfl rfl ?_
  refine r_iload_n (place := 2) dX5_write_11 rfl rfl ?_
  refine r_putI dX5_write_12 fp_X5_18 ta0 ?_
  refine r_mem (fun h3 => ?_)
  refine r_aload_n (place := 0) dX5_write_15 rfl rfl ?_
  refine r_iload_n (place := 3) dX5_write_16 rfl rfl ?_
  refine r_putI dX5_write_17 fp_X5_21 ta0 ?_
  refine r_mem (fun h4 => ?_)
  refine r_aload_n (place := 0) dX5_write_20 rfl rfl ?_
  refine r_iload (place := 4) dX5_write_21 rfl ?_
  refine r_putZ dX5_write_23 fp_X5_24 ta0 ?_
  refine r_aload_n (place := 0) dX5_write_26 rfl rfl ?_
  refine r_iload (place := 5) dX5_write_27 rfl ?_
  refine r_putI dX5_write_29 fp_X5_28 ta0 ?_
  refine r_mem (fun h5 => ?_)
  exact r_ret dX5_write_32 rfl
def f_X5_dueClock (a0 : Nat) (h : Mem) : Option (Int32 × Mem) :=
  if (h a0 0) = (2 : Int32) then
      some ((h a0 6), h)
  else
      some ((-4 : Int32), h)
set_option maxRecDepth 20000 in
theorem c_X5_dueClock {G : xG} (a0 : Nat) (ta0 : xTy a0 4) (h : Mem) : Sm G 0 yX5_dueClock FX5_dueClock xcI [.ref (G.1 a0)] h (f_X5_dueClock a0 h) := by
  refine Sm.of pn_X5 rfl (Nat.le_of_ble_eq_true rfl) (ls := [(0, .ref (G.1 a0))]) rfl ?_
  unfold f_X5_dueClock
  refine r_aload_n (place := 0) dX5_dueClock_0 rfl rfl ?_
  refine r_getI dX5_dueClock_1 fg_X5_11 ta0 ?_
  refine r_iconst dX5_dueClock_4 xc_2 ?_
  refine r_ic_ne (tgt := 15) dX5_dueClock_5 (by decide) ?_ ?_
  · refine r_bipush dX5_dueClock_15 xb_m4 ?_
    exact r_iret dX5_dueClock_17 rfl
  · refine r_aload_n (place := 0) dX5_dueClock_8 rfl rfl ?_
    refine r_getI dX5_dueClock_9 fg_X5_31 ta0 ?_
    refine r_goto (tgt := 17) dX5_dueClock_12 (by decide) ?_
    exact r_iret dX5_dueClock_17 rfl
def f_X5_becomeDue (a0 : Nat) (a1 : Int32) (a2 : Int32) (h : Mem) : Option (Unit × Mem) :=
  if (h a0 0) = (1 : Int32) then
      mlet (mu h a0 0 (2 : Int32)) fun h1 =>
      mlet (mu h1 a0 6 (a1 + (xmin (h1 a0 5) a2))) fun h2 =>
      some ((), h2)
  else
      some ((), h)
set_option maxRecDepth 20000 in
theorem c_X5_becomeDue {G : xG} (a0 : Nat) (ta0 : xTy a0 4) (a1 : Int32) (a2 : Int32) (h : Mem) : Sm G 1 yX5_becomeDue FX5_becomeDue xcV [.ref (G.1 a0), .int a1, .int a2] h (f_X5_becomeDue a0 a1 a2 h) := by
  refine Sm.of pn_X5 rfl (Nat.le_of_ble_eq_true rfl) (ls := [(0, .ref (G.1 a0)), (1, .int a1), (2, .int a2)]) rfl ?_
  unfold f_X5_becomeDue
  refine r_aload_n (place := 0) dX5_becomeDue_0 rfl rfl ?_
  refine r_getI dX5_becomeDue_1 fg_X5_11 ta0 ?_
  refine r_iconst dX5_becomeDue_4 xc_1 ?_
  refine r_ic_ne (tgt := 27) dX5_becomeDue_5 (by decide) ?_ ?_
  · exact r_ret dX5_becomeDue_27 rfl
  · refine r_aload_n (place := 0) dX5_becomeDue_8 rfl rfl ?_
    refine r_iconst dX5_becomeDue_9 xc_2 ?_
    refine r_putI dX5_becomeDue_10 fp_X5_11 ta0 ?_
    refine r_mem (fun h1 => ?_)
    refine r_aload_n (place := 0) dX5_becomeDue_13 rfl rfl ?_
    refine r_iload_n (place := 1) dX5_becomeDue_14 rfl rfl ?_
    refine r_aload_n (place := 0) dX5_becomeDue_15 rfl rfl ?_
    refine r_getI dX5_becomeDue_16 fg_X5_28 ta0 ?_
    refine r_iload_n (place := 2) dX5_becomeDue_19 rfl rfl ?_
    refine r_mmin dX5_becomeDue_20 sp_X5_34 (by decide) (Nat.le_of_ble_eq_true rfl) ?_
    refine r_iadd dX5_becomeDue_23 ?_
    refine r_putI dX5_becomeDue_24 fp_X5_31 ta0 ?_
    refine r_mem (fun h2 => ?_)
    exact r_ret dX5_becomeDue_27 rfl
def f_X5_comesDue (a0 : Nat) (a1 : Int32) (h : Mem) : Option (Int32 × Mem) :=
  if (h a0 0) = (2 : Int32) then
      if (h a0 6) = a1 then
          mlet (mu h a0 0 (0 : Int32)) fun h1 =>
          some ((1 : Int32), h1)
      else
          some ((0 : Int32), h)
  else
      some ((0 : Int32), h)
set_option maxRecDepth 20000 in
theorem c_X5_comesDue {G : xG} (a0 : Nat) (ta0 : xTy a0 4) (a1 : Int32) (h : Mem) : Sm G 0 yX5_comesDue FX5_comesDue xcI [.ref (G.1 a0), .int a1] h (f_X5_comesDue a0 a1 h) := by
  refine Sm.of pn_X5 rfl (Nat.le_of_ble_eq_true rfl) (ls := [(0, .ref (G.1 a0)), (1, .int a1)]) rfl ?_
  unfold f_X5_comesDue
  refine r_aload_n (place := 0) dX5_comesDue_0 rfl rfl ?_
  refine r_getI dX5_comesDue_1 fg_X5_11 ta0 ?_
  refine r_iconst dX5_comesDue_4 xc_2 ?_
  refine r_ic_ne (tgt := 16) dX5_comesDue_5 (by decide) ?_ ?_
  · refine r_iconst dX5_comesDue_16 xc_0 ?_
    exact r_zret1 dX5_comesDue_17 rfl (by decide)
  · refine r_aload_n (place := 0) dX5_comesDue_8 rfl rfl ?_
    refine r_getI dX5_comesDue_9 fg_X5_31 ta0 ?_
    refine r_iload_n (place := 1) dX5_comesDue_12 rfl rfl ?_
    refine r_ic_eq (tgt := 18) dX5_comesDue_13 (by decide) ?_ ?_
    · refine r_aload_n (place := 0) dX5_comesDue_18 rfl rfl ?_
      refine r_iconst dX5_comesDue_19 xc_0 ?_
      refine r_putI dX5_comesDue_20 fp_X5_11 ta0 ?_
      refine r_mem (fun h1 => ?_)
      refine r_iconst dX5_comesDue_23 xc_1 ?_
      exact r_zret1 dX5_comesDue_24 rfl (by decide)
    · refine r_iconst dX5_comesDue_16 xc_0 ?_
      exact r_zret1 dX5_comesDue_17 rfl (by decide)
def f_X6_copyFrom_2  : Nat → Nat → Nat → Int32 → Mem → Option (Unit × Mem)
  | 0, _, _, _, _ => none
  | n + 1, a0, a1, a2, h =>
    if (6 : Int32) ≤ a2 then
        b2 (f_X3_copyFrom (xrf a0 1) (xrf a1 1) h) fun _ h1 =>
        b2 (f_X3_copyFrom (xrf a0 2) (xrf a1 2) h1) fun _ h2 =>
        mlet (mu h2 a0 3 (h2 a1 3)) fun h3 =>
        mlet (mu h3 a0 4 (h3 a1 4)) fun h4 =>
        some ((), h4)
    else
        aald (xrf a0 0) a2 fun q5 =>
        aald (xrf a1 0) a2 fun q6 =>
        b2 (f_X0_copyFrom q5 q6 h) fun _ h7 =>
        (f_X6_copyFrom_2 n) a0 a1 (a2 + (1 : Int32)) h7
set_option maxRecDepth 20000 in
theorem t_X6_copyFrom_2 {G : xG}  : ∀ (n : Nat) (a0 : Nat) (a1 : Nat) (a2 : Int32) (ta0 : xTy a0 5) (ta1 : xTy a1 5) (h : Mem), Rn G 3 FX6_copyFrom xcV 2 [(0, .ref (G.1 a0)), (1, .ref (G.1 a1)), (2, .int a2)] [] h (f_X6_copyFrom_2 n a0 a1 a2 h) := by
  intro n
  induction n with
  | zero => intros; intro r hr; cases hr
  | succ n ih =>
    intro a0 a1 a2 ta0 ta1 h
    unfold f_X6_copyFrom_2
    refine r_iload_n (place := 2) dX6_copyFrom_2 rfl rfl ?_
    refine r_bipush dX6_copyFrom_3 xb_6 ?_
    refine r_ic_ge (tgt := 29) dX6_copyFrom_5 (by decide) ?_ ?_
    · refine r_aload_n (place := 0) dX6_copyFrom_29 rfl rfl ?_
      refine r_getR dX6_copyFrom_30 fg_X6_22 ta0 ?_
      refine r_aload_n (place := 1) dX6_copyFrom_33 rfl rfl ?_
      refine r_getR dX6_copyFrom_34 fg_X6_22 ta1 ?_
      refine r_callVV (rest := []) dX6_copyFrom_37 m_X3_copyFrom lk_X6_45 rfl (by decide) (xt_5_1 ta0) (c_X3_copyFrom (xrf a0 1) (xt_5_1 ta0) (xrf a1 1) (xt_5_1 ta1) h) (by decide) rfl rfl (Nat.le_of_ble_eq_true rfl) (fun h1 => ?_)
      refine r_aload_n (place := 0) dX6_copyFrom_40 rfl rfl ?_
      refine r_getR dX6_copyFrom_41 fg_X6_26 ta0 ?_
      refine r_aload_n (place := 1) dX6_copyFrom_44 rfl rfl ?_
      refine r_getR dX6_copyFrom_45 fg_X6_26 ta1 ?_
      refine r_callVV (rest := []) dX6_copyFrom_48 m_X3_copyFrom lk_X6_45 rfl (by decide) (xt_5_2 ta0) (c_X3_copyFrom (xrf a0 2) (xt_5_2 ta0) (xrf a1 2) (xt_5_2 ta1) h1) (by decide) rfl rfl (Nat.le_of_ble_eq_true rfl) (fun h2 => ?_)
      refine r_aload_n (place := 0) dX6_copyFrom_51 rfl rfl ?_
      refine r_aload_n (place := 1) dX6_copyFrom_52 rfl rfl ?_
      refine r_getI dX6_copyFrom_53 fg_X6_34 ta1 ?_
      refine r_putI dX6_copyFrom_56 fp_X6_34 ta0 ?_
      refine r_mem (fun h3 => ?_)
      refine r_aload_n (place := 0) dX6_copyFrom_59 rfl rfl ?_
      refine r_aload_n (place := 1) dX6_copyFrom_60 rfl rfl ?_
      refine r_getI dX6_copyFrom_61 fg_X6_38 ta1 ?_
      refine r_putI dX6_copyFrom_64 fp_X6_38 ta0 ?_
      refine r_mem (fun h4 => ?_)
      exact r_ret dX6_copyFrom_67 rfl
    · refine r_aload_n (place := 0) dX6_copyFrom_8 rfl rfl ?_
      refine r_getR dX6_copyFrom_9 fg_X6_11 ta0 ?_
      refine r_iload_n (place := 2) dX6_copyFrom_12 rfl rfl ?_
      refine r_aald10 dX6_copyFrom_13 (xt_5_0 ta0) (fun q5 tq5 => ?_)
      refine r_aload_n (place := 1) dX6_copyFrom_14 rfl rfl ?_
      refine r_getR dX6_copyFrom_15 fg_X6_11 ta1 ?_
      refine r_iload_n (place := 2) dX6_copyFrom_18 rfl rfl ?_
      refine r_aald10 dX6_copyFrom_19 (xt_5_0 ta1) (fun q6 tq6 => ?_)
      refine r_callVV (rest := []) dX6_copyFrom_20 m_X0_copyFrom lk_X6_41 rfl (by decide) tq5 (c_X0_copyFrom q5 tq5 q6 tq6 h) (by decide) rfl rfl (Nat.le_of_ble_eq_true rfl) (fun h7 => ?_)
      refine r_iincC (place := 2) (ls' := [(2, .int (a2 + (1 : Int32))), (0, .ref (G.1 a0)), (1, .ref (G.1 a1))]) dX6_copyFrom_23 rfl xc_1 (by decide) rfl ?_
      refine r_goto (tgt := 2) dX6_copyFrom_26 (by decide) ?_
      exact r_sub [1, 2, 0] rfl (ih a0 a1 (a2 + (1 : Int32)) ta0 ta1 h7)
def f_X6_copyFrom (a0 : Nat) (a1 : Nat) (h : Mem) : Option (Unit × Mem) :=
  f_X6_copyFrom_2 xFU a0 a1 (0 : Int32) h
set_option maxRecDepth 20000 in
theorem c_X6_copyFrom {G : xG} (a0 : Nat) (ta0 : xTy a0 5) (a1 : Nat) (ta1 : xTy a1 5) (h : Mem) : Sm G 3 yX6_copyFrom FX6_copyFrom xcV [.ref (G.1 a0), .ref (G.1 a1)] h (f_X6_copyFrom a0 a1 h) := by
  refine Sm.of pn_X6 rfl (Nat.le_of_ble_eq_true rfl) (ls := [(0, .ref (G.1 a0)), (1, .ref (G.1 a1))]) rfl ?_
  unfold f_X6_copyFrom
  refine r_iconst dX6_copyFrom_0 xc_0 ?_
  refine r_istore_n (ls' := [(2, .int (0 : Int32)), (0, .ref (G.1 a0)), (1, .ref (G.1 a1))]) dX6_copyFrom_1 rfl (by decide) rfl ?_
  exact r_sub [1, 2, 0] rfl (t_X6_copyFrom_2 xFU a0 a1 (0 : Int32) ta0 ta1 h)
def f_X6_hasMember_2  : Nat → Nat → Int32 → Int32 → Mem → Option (Int32 × Mem)
  | 0, _, _, _, _ => none
  | n + 1, a0, a1, a2, h =>
    if (6 : Int32) ≤ a2 then
        some ((0 : Int32), h)
    else
        aald (xrf a0 0) a2 fun q1 =>
        b2 (f_X0_findShare q1 a1 h) fun v3 h2 =>
        if v3 < 0 then
            (f_X6_hasMember_2 n) a0 a1 (a2 + (1 : Int32)) h2
        else
            some ((1 : Int32), h2)
set_option maxRecDepth 20000 in
theorem t_X6_hasMember_2 {G : xG}  : ∀ (n : Nat) (a0 : Nat) (a1 : Int32) (a2 : Int32) (ta0 : xTy a0 5) (h : Mem), Rn G 3 FX6_hasMember xcI 2 [(0, .ref (G.1 a0)), (1, .int a1), (2, .int a2)] [] h (f_X6_hasMember_2 n a0 a1 a2 h) := by
  intro n
  induction n with
  | zero => intros; intro r hr; cases hr
  | succ n ih =>
    intro a0 a1 a2 ta0 h
    unfold f_X6_hasMember_2
    refine r_iload_n (place := 2) dX6_hasMember_2 rfl rfl ?_
    refine r_bipush dX6_hasMember_3 xb_6 ?_
    refine r_ic_ge (tgt := 29) dX6_hasMember_5 (by decide) ?_ ?_
    · refine r_iconst dX6_hasMember_29 xc_0 ?_
      exact r_zret1 dX6_hasMember_30 rfl (by decide)
    · refine r_aload_n (place := 0) dX6_hasMember_8 rfl rfl ?_
      refine r_getR dX6_hasMember_9 fg_X6_11 ta0 ?_
      refine r_iload_n (place := 2) dX6_hasMember_12 rfl rfl ?_
      refine r_aald10 dX6_hasMember_13 (xt_5_0 ta0) (fun q1 tq1 => ?_)
      refine r_iload_n (place := 1) dX6_hasMember_14 rfl rfl ?_
      refine r_callVI (rest := []) dX6_hasMember_15 m_X0_findShare lk_X6_168 rfl (by decide) tq1 (c_X0_findShare q1 tq1 a1 h) (by decide) rfl rfl (Nat.le_of_ble_eq_true rfl) (fun v3 h2 => ?_)
      refine r_if_lt (tgt := 23) dX6_hasMember_18 (by decide) ?_ ?_
      · refine r_iincC (place := 2) (ls' := [(2, .int (a2 + (1 : Int32))), (0, .ref (G.1 a0)), (1, .int a1)]) dX6_hasMember_23 rfl xc_1 (by decide) rfl ?_
        refine r_goto (tgt := 2) dX6_hasMember_26 (by decide) ?_
        exact r_sub [1, 2, 0] rfl (ih a0 a1 (a2 + (1 : Int32)) ta0 h2)
      · refine r_iconst dX6_hasMember_21 xc_1 ?_
        exact r_zret1 dX6_hasMember_22 rfl (by decide)
def f_X6_hasMember (a0 : Nat) (a1 : Int32) (h : Mem) : Option (Int32 × Mem) :=
  f_X6_hasMember_2 xFU a0 a1 (0 : Int32) h
set_option maxRecDepth 20000 in
theorem c_X6_hasMember {G : xG} (a0 : Nat) (ta0 : xTy a0 5) (a1 : Int32) (h : Mem) : Sm G 3 yX6_hasMember FX6_hasMember xcI [.ref (G.1 a0), .int a1] h (f_X6_hasMember a0 a1 h) := by
  refine Sm.of pn_X6 rfl (Nat.le_of_ble_eq_true rfl) (ls := [(0, .ref (G.1 a0)), (1, .int a1)]) rfl ?_
  unfold f_X6_hasMember
  refine r_iconst dX6_hasMember_0 xc_0 ?_
  refine r_istore_n (ls' := [(2, .int (0 : Int32)), (0, .ref (G.1 a0)), (1, .int a1)]) dX6_hasMember_1 rfl (by decide) rfl ?_
  exact r_sub [1, 2, 0] rfl (t_X6_hasMember_2 xFU a0 a1 (0 : Int32) ta0 h)
def f_X6_forgetEmptyShares_38 (kk10 : Nat → Int32 → Mem → Option (Unit × Mem)) (a0 : Nat) (a1 : Int32) (h : Mem) : Option (Unit × Mem) :=
  kk10 a0 (a1 + (-1 : Int32)) h
set_option maxRecDepth 20000 in
theorem t_X6_forgetEmptyShares_38 {G : xG} (kk10 : Nat → Int32 → Mem → Option (Unit × Mem)) (hk10 : ∀ (a0 : Nat) (a1 : Int32) (ta0 : xTy a0 5) (h : Mem), Rn G 4 FX6_forgetEmptyShares xcV 10 [(0, .ref (G.1 a0)), (1, .int a1)] [] h (kk10 a0 a1 h)) (a0 : Nat) (a1 : Int32) (ta0 : xTy a0 5) (h : Mem) : Rn G 4 FX6_forgetEmptyShares xcV 38 [(0, .ref (G.1 a0)), (1, .int a1)] [] h (f_X6_forgetEmptyShares_38 kk10 a0 a1 h) := by
  unfold f_X6_forgetEmptyShares_38
  refine r_iincC (place := 1) (ls' := [(1, .int (a1 + (-1 : Int32))), (0, .ref (G.1 a0))]) dX6_forgetEmptyShares_38 rfl xc_m1 (by decide) rfl ?_
  refine r_goto (tgt := 10) dX6_forgetEmptyShares_41 (by decide) ?_
  exact r_sub [1, 0] rfl (hk10 a0 (a1 + (-1 : Int32)) ta0 h)
def f_X6_forgetEmptyShares_10  : Nat → Nat → Int32 → Mem → Option (Unit × Mem)
  | 0, _, _, _ => none
  | n + 1, a0, a1, h =>
    if a1 < 0 then
        some ((), h)
    else
        b2 (f_X3_cell (xrf a0 2) a1 (0 : Int32) h) fun v2 h1 =>
        b2 (f_X6_hasMember a0 v2 h1) fun v4 h3 =>
        if v4 = 0 then
            b2 (f_X3_remove (xrf a0 2) a1 h3) fun _ h5 =>
            f_X6_forgetEmptyShares_38 (f_X6_forgetEmptyShares_10 n) a0 a1 h5
        else
            f_X6_forgetEmptyShares_38 (f_X6_forgetEmptyShares_10 n) a0 a1 h3
set_option maxRecDepth 20000 in
theorem t_X6_forgetEmptyShares_10 {G : xG}  : ∀ (n : Nat) (a0 : Nat) (a1 : Int32) (ta0 : xTy a0 5) (h : Mem), Rn G 4 FX6_forgetEmptyShares xcV 10 [(0, .ref (G.1 a0)), (1, .int a1)] [] h (f_X6_forgetEmptyShares_10 n a0 a1 h) := by
  intro n
  induction n with
  | zero => intros; intro r hr; cases hr
  | succ n ih =>
    intro a0 a1 ta0 h
    unfold f_X6_forgetEmptyShares_10
    refine r_iload_n (place := 1) dX6_forgetEmptyShares_10 rfl rfl ?_
    refine r_if_lt (tgt := 44) dX6_forgetEmptyShares_11 (by decide) ?_ ?_
    · exact r_ret dX6_forgetEmptyShares_44 rfl
    · refine r_aload_n (place := 0) dX6_forgetEmptyShares_14 rfl rfl ?_
      refine r_aload_n (place := 0) dX6_forgetEmptyShares_15 rfl rfl ?_
      refine r_getR dX6_forgetEmptyShares_16 fg_X6_26 ta0 ?_
      refine r_iload_n (place := 1) dX6_forgetEmptyShares_19 rfl rfl ?_
      refine r_iconst dX6_forgetEmptyShares_20 xc_0 ?_
      refine r_callVI (rest := [.ref (G.1 a0)]) dX6_forgetEmptyShares_21 m_X3_cell lk_X6_171 rfl (by decide) (xt_5_2 ta0) (c_X3_cell (xrf a0 2) (xt_5_2 ta0) a1 (0 : Int32) h) (by decide) rfl rfl (Nat.le_of_ble_eq_true rfl) (fun v2 h1 => ?_)
      refine r_callVI (rest := []) dX6_forgetEmptyShares_24 m_X6_hasMember lk_X6_195 rfl (by decide) ta0 (c_X6_hasMember a0 ta0 v2 h1) (by decide) rfl rfl (Nat.le_of_ble_eq_true rfl) (fun v4 h3 => ?_)
      refine r_if_ne (tgt := 38) dX6_forgetEmptyShares_27 (by decide) ?_ ?_
      · exact r_sub [0, 1] rfl (t_X6_forgetEmptyShares_38 (f_X6_forgetEmptyShares_10 n) ih a0 a1 ta0 h3)
      · refine r_aload_n (place := 0) dX6_forgetEmptyShares_30 rfl rfl ?_
        refine r_getR dX6_forgetEmptyShares_31 fg_X6_26 ta0 ?_
        refine r_iload_n (place := 1) dX6_forgetEmptyShares_34 rfl rfl ?_
        refine r_callVV (rest := []) dX6_forgetEmptyShares_35 m_X3_remove lk_X6_110 rfl (by decide) (xt_5_2 ta0) (c_X3_remove (xrf a0 2) (xt_5_2 ta0) a1 h3) (by decide) rfl rfl (Nat.le_of_ble_eq_true rfl) (fun h5 => ?_)
        exact r_sub [0, 1] rfl (t_X6_forgetEmptyShares_38 (f_X6_forgetEmptyShares_10 n) ih a0 a1 ta0 h5)
def f_X6_forgetEmptyShares (a0 : Nat) (h : Mem) : Option (Unit × Mem) :=
  f_X6_forgetEmptyShares_10 xFU a0 ((h (xrf a0 2) 3) - (1 : Int32)) h
set_option maxRecDepth 20000 in
theorem c_X6_forgetEmptyShares {G : xG} (a0 : Nat) (ta0 : xTy a0 5) (h : Mem) : Sm G 4 yX6_forgetEmptyShares FX6_forgetEmptyShares xcV [.ref (G.1 a0)] h (f_X6_forgetEmptyShares a0 h) := by
  refine Sm.of pn_X6 rfl (Nat.le_of_ble_eq_true rfl) (ls := [(0, .ref (G.1 a0))]) rfl ?_
  unfold f_X6_forgetEmptyShares
  refine r_aload_n (place := 0) dX6_forgetEmptyShares_0 rfl rfl ?_
  refine r_getR dX6_forgetEmptyShares_1 fg_X6_26 ta0 ?_
  refine r_getI dX6_forgetEmptyShares_4 fg_X6_174 (xt_5_2 ta0) ?_
  refine r_iconst dX6_forgetEmptyShares_7 xc_1 ?_
  refine r_isub dX6_forgetEmptyShares_8 ?_
  refine r_istore_n (ls' := [(1, .int ((h (xrf a0 2) 3) - (1 : Int32))), (0, .ref (G.1 a0))]) dX6_forgetEmptyShares_9 rfl (by decide) rfl ?_
  exact r_sub [1, 0] rfl (t_X6_forgetEmptyShares_10 xFU a0 ((h (xrf a0 2) 3) - (1 : Int32)) ta0 h)
def f_X6_endSession (a0 : Nat) (a1 : Nat) (h : Mem) : Option (Unit × Mem) :=
  b2 (f_X0_clearSession a1 h) fun _ h1 =>
  b2 (f_X6_forgetEmptyShares a0 h1) fun _ h2 =>
  some ((), h2)
set_option maxRecDepth 20000 in
theorem c_X6_endSession {G : xG} (a0 : Nat) (ta0 : xTy a0 5) (a1 : Nat) (ta1 : xTy a1 0) (h : Mem) : Sm G 5 yX6_endSession FX6_endSession xcV [.ref (G.1 a0), .ref (G.1 a1)] h (f_X6_endSession a0 a1 h) := by
  refine Sm.of pn_X6 rfl (Nat.le_of_ble_eq_true rfl) (ls := [(0, .ref (G.1 a0)), (1, .ref (G.1 a1))]) rfl ?_
  unfold f_X6_endSession
  refine r_aload_n (place := 1) dX6_endSession_0 rfl rfl ?_
  refine r_callVV (rest := []) dX6_endSession_1 m_X0_clearSession lk_X6_97 rfl (by decide) ta1 (c_X0_clearSession a1 ta1 h) (by decide) rfl rfl (Nat.le_of_ble_eq_true rfl) (fun h1 => ?_)
  refine r_aload_n (place := 0) dX6_endSession_4 rfl rfl ?_
  refine r_callVV (rest := []) dX6_endSession_5 m_X6_forgetEmptyShares lk_X6_100 rfl (by decide) ta0 (c_X6_forgetEmptyShares a0 ta0 h1) (by decide) rfl rfl (Nat.le_of_ble_eq_true rfl) (fun h2 => ?_)
  exact r_ret dX6_endSession_8 rfl
def f_X6_rouse_28  (a1 : Nat) (a3 : Int32) (a4 : Int32) (h : Mem) : Option (Int32 × Mem) :=
  b2 (f_X0_awaken a1 a3 h) fun _ h1 =>
  zg a4 (some (a4, h1))
set_option maxRecDepth 20000 in
theorem t_X6_rouse_28 {G : xG}  (a1 : Nat) (a3 : Int32) (a4 : Int32) (ta1 : xTy a1 0) (h : Mem) : Rn G 6 FX6_rouse xcI 28 [(1, .ref (G.1 a1)), (3, .int a3), (4, .int a4)] [] h (f_X6_rouse_28 a1 a3 a4 h) := by
  unfold f_X6_rouse_28
  refine r_aload_n (place := 0) dX6_rouse_28 rfl rfl ?_
  refine r_iload_n (place := 1) dX6_rouse_29 rfl rfl ?_
  refine r_callVV (rest := []) dX6_rouse_30 m_X0_awaken lk_X6_54 rfl (by decide) ta1 (c_X0_awaken a1 ta1 a3 h) (by decide) rfl rfl (Nat.le_of_ble_eq_true rfl) (fun h1 => ?_)
  refine r_iload (place := 2) dX6_rouse_33 rfl ?_
  exact r_zret dX6_rouse_35 rfl
def f_X6_rouse_16  (a0 : Nat) (a1 : Nat) (a3 : Int32) (s0 : Int32) (h : Mem) : Option (Int32 × Mem) :=
  if s0 = 0 then
      b2 (f_X6_endSession a0 a1 h) fun _ h1 =>
      f_X6_rouse_28 a1 a3 s0 h1
  else
      f_X6_rouse_28 a1 a3 s0 h
set_option maxRecDepth 20000 in
theorem t_X6_rouse_16 {G : xG}  (a0 : Nat) (a1 : Nat) (a3 : Int32) (s0 : Int32) (ta0 : xTy a0 5) (ta1 : xTy a1 0) (h : Mem) : Rn G 6 FX6_rouse xcI 16 [(0, .ref (G.1 a0)), (1, .ref (G.1 a1)), (3, .int a3)] [.int s0] h (f_X6_rouse_16 a0 a1 a3 s0 h) := by
  unfold f_X6_rouse_16
  refine r_istore (ls' := [(4, .int s0), (0, .ref (G.1 a0)), (1, .ref (G.1 a1)), (3, .int a3)]) dX6_rouse_16 (by decide) rfl ?_
  refine r_iload (place := 0) dX6_rouse_18 rfl ?_
  refine r_if_ne (tgt := 28) dX6_rouse_20 (by decide) ?_ ?_
  · exact r_sub [2, 3, 0] rfl (t_X6_rouse_28 a1 a3 s0 ta1 h)
  · refine r_aload_n (place := 1) dX6_rouse_23 rfl rfl ?_
    refine r_aload_n (place := 2) dX6_rouse_24 rfl rfl ?_
    refine r_callVV (rest := []) dX6_rouse_25 m_X6_endSession lk_X6_51 rfl (by decide) ta0 (c_X6_endSession a0 ta0 a1 ta1 h) (by decide) rfl rfl (Nat.le_of_ble_eq_true rfl) (fun h1 => ?_)
    exact r_sub [2, 3, 0] rfl (t_X6_rouse_28 a1 a3 s0 ta1 h1)
def f_X6_rouse_15  (a0 : Nat) (a1 : Nat) (a3 : Int32) (h : Mem) : Option (Int32 × Mem) :=
  f_X6_rouse_16 a0 a1 a3 (0 : Int32) h
set_option maxRecDepth 20000 in
theorem t_X6_rouse_15 {G : xG}  (a0 : Nat) (a1 : Nat) (a3 : Int32) (ta0 : xTy a0 5) (ta1 : xTy a1 0) (h : Mem) : Rn G 6 FX6_rouse xcI 15 [(0, .ref (G.1 a0)), (1, .ref (G.1 a1)), (3, .int a3)] [] h (f_X6_rouse_15 a0 a1 a3 h) := by
  unfold f_X6_rouse_15
  refine r_iconst dX6_rouse_15 xc_0 ?_
  exact r_sub [0, 1, 2] rfl (t_X6_rouse_16 a0 a1 a3 (0 : Int32) ta0 ta1 h)
def f_X6_rouse (a0 : Nat) (a1 : Nat) (a2 : Int32) (a3 : Int32) (h : Mem) : Option (Int32 × Mem) :=
  if (h a1 8) = 0 then
      f_X6_rouse_15 a0 a1 a3 h
  else
      if a2 = 0 then
          f_X6_rouse_16 a0 a1 a3 (1 : Int32) h
      else
          f_X6_rouse_15 a0 a1 a3 h
set_option maxRecDepth 20000 in
theorem c_X6_rouse {G : xG} (a0 : Nat) (ta0 : xTy a0 5) (a1 : Nat) (ta1 : xTy a1 0) (a2 : Int32) (a3 : Int32) (h : Mem) : Sm G 6 yX6_rouse FX6_rouse xcI [.ref (G.1 a0), .ref (G.1 a1), .int a2, .int a3] h (f_X6_rouse a0 a1 a2 a3 h) := by
  refine Sm.of pn_X6 rfl (Nat.le_of_ble_eq_true rfl) (ls := [(0, .ref (G.1 a0)), (1, .ref (G.1 a1)), (2, .int a2), (3, .int a3)]) rfl ?_
  unfold f_X6_rouse
  refine r_aload_n (place := 1) dX6_rouse_0 rfl rfl ?_
  refine r_getI dX6_rouse_1 fg_X6_48 ta1 ?_
  refine r_if_eq (tgt := 15) dX6_rouse_4 (by decide) ?_ ?_
  · exact r_sub [0, 1, 3] rfl (t_X6_rouse_15 a0 a1 a3 ta0 ta1 h)
  · refine r_iload_n (place := 2) dX6_rouse_7 rfl rfl ?_
    refine r_if_ne (tgt := 15) dX6_rouse_8 (by decide) ?_ ?_
    · exact r_sub [0, 1, 3] rfl (t_X6_rouse_15 a0 a1 a3 ta0 ta1 h)
    · refine r_iconst dX6_rouse_11 xc_1 ?_
      refine r_goto (tgt := 16) dX6_rouse_12 (by decide) ?_
      exact r_sub [0, 1, 3] rfl (t_X6_rouse_16 a0 a1 a3 (1 : Int32) ta0 ta1 h)
def f_X6_goToSessions_54 (kk6 : Nat → Int32 → Int32 → Int32 → Int32 → Int32 → Int32 → Mem → Option (Int32 × Mem)) (a0 : Nat) (a1 : Int32) (a2 : Int32) (a3 : Int32) (a4 : Int32) (a5 : Int32) (a6 : Int32) (h : Mem) : Option (Int32 × Mem) :=
  kk6 a0 a1 a2 a3 a4 a5 (a6 + (1 : Int32)) h
set_option maxRecDepth 20000 in
theorem t_X6_goToSessions_54 {G : xG} (kk6 : Nat → Int32 → Int32 → Int32 → Int32 → Int32 → Int32 → Mem → Option (Int32 × Mem)) (hk6 : ∀ (a0 : Nat) (a1 : Int32) (a2 : Int32) (a3 : Int32) (a4 : Int32) (a5 : Int32) (a6 : Int32) (ta0 : xTy a0 5) (h : Mem), Rn G 4 FX6_goToSessions xcI 6 [(0, .ref (G.1 a0)), (1, .int a1), (2, .int a2), (3, .int a3), (4, .int a4), (5, .int a5), (6, .int a6)] [] h (kk6 a0 a1 a2 a3 a4 a5 a6 h)) (a0 : Nat) (a1 : Int32) (a2 : Int32) (a3 : Int32) (a4 : Int32) (a5 : Int32) (a6 : Int32) (ta0 : xTy a0 5) (h : Mem) : Rn G 4 FX6_goToSessions xcI 54 [(0, .ref (G.1 a0)), (1, .int a1), (2, .int a2), (3, .int a3), (4, .int a4), (5, .int a5), (6, .int a6)] [] h (f_X6_goToSessions_54 kk6 a0 a1 a2 a3 a4 a5 a6 h) := by
  unfold f_X6_goToSessions_54
  refine r_iincC (place := 6) (ls' := [(6, .int (a6 + (1 : Int32))), (0, .ref (G.1 a0)), (1, .int a1), (2, .int a2), (3, .int a3), (4, .int a4), (5, .int a5)]) dX6_goToSessions_54 rfl xc_1 (by decide) rfl ?_
  refine r_goto (tgt := 6) dX6_goToSessions_57 (by decide) ?_
  exact r_sub [1, 2, 3, 4, 5, 6, 0] rfl (hk6 a0 a1 a2 a3 a4 a5 (a6 + (1 : Int32)) ta0 h)
def f_X6_goToSessions_6  : Nat → Nat → Int32 → Int32 → Int32 → Int32 → Int32 → Int32 → Mem → Option (Int32 × Mem)
  | 0, _, _, _, _, _, _, _, _ => none
  | n + 1, a0, a1, a2, a3, a4, a5, a6, h =>
    if (6 : Int32) ≤ a6 then
        some (a5, h)
    else
        aald (xrf a0 0) a6 fun q1 =>
        b2 (f_X0_greatestPromise q1 a1 h) fun v3 h2 =>
        if v3 < 0 then
            f_X6_goToSessions_54 (f_X6_goToSessions_6 n) a0 a1 a2 a3 a4 a5 a6 h2
        else
            aald (xrf a0 0) a6 fun q4 =>
            b2 (f_X0_receive q4 a4 a2 (xmin a3 v3) (0 : Int32) h2) fun _ h5 =>
            f_X6_goToSessions_54 (f_X6_goToSessions_6 n) a0 a1 a2 a3 a4 (a5 + (1 : Int32)) a6 h5
set_option maxRecDepth 20000 in
theorem t_X6_goToSessions_6 {G : xG}  : ∀ (n : Nat) (a0 : Nat) (a1 : Int32) (a2 : Int32) (a3 : Int32) (a4 : Int32) (a5 : Int32) (a6 : Int32) (ta0 : xTy a0 5) (h : Mem), Rn G 4 FX6_goToSessions xcI 6 [(0, .ref (G.1 a0)), (1, .int a1), (2, .int a2), (3, .int a3), (4, .int a4), (5, .int a5), (6, .int a6)] [] h (f_X6_goToSessions_6 n a0 a1 a2 a3 a4 a5 a6 h) := by
  intro n
  induction n with
  | zero => intros; intro r hr; cases hr
  | succ n ih =>
    intro a0 a1 a2 a3 a4 a5 a6 ta0 h
    unfold f_X6_goToSessions_6
    refine r_iload (place := 6) dX6_goToSessions_6 rfl ?_
    refine r_bipush dX6_goToSessions_8 xb_6 ?_
    refine r_ic_ge (tgt := 60) dX6_goToSessions_10 (by decide) ?_ ?_
    · refine r_iload (place := 5) dX6_goToSessions_60 rfl ?_
      exact r_iret dX6_goToSessions_62 rfl
    · refine r_aload_n (place := 0) dX6_goToSessions_13 rfl rfl ?_
      refine r_getR dX6_goToSessions_14 fg_X6_11 ta0 ?_
      refine r_iload (place := 6) dX6_goToSessions_17 rfl ?_
      refine r_aald10 dX6_goToSessions_19 (xt_5_0 ta0) (fun q1 tq1 => ?_)
      refine r_iload_n (place := 1) dX6_goToSessions_20 rfl rfl ?_
      refine r_callVI (rest := []) dX6_goToSessions_21 m_X0_greatestPromise lk_X6_136 rfl (by decide) tq1 (c_X0_greatestPromise q1 tq1 a1 h) (by decide) rfl rfl (Nat.le_of_ble_eq_true rfl) (fun v3 h2 => ?_)
      refine r_istore (ls' := [(7, .int v3), (0, .ref (G.1 a0)), (1, .int a1), (2, .int a2), (3, .int a3), (4, .int a4), (5, .int a5), (6, .int a6)]) dX6_goToSessions_24 (by decide) rfl ?_
      refine r_iload (place := 0) dX6_goToSessions_26 rfl ?_
      refine r_if_lt (tgt := 54) dX6_goToSessions_28 (by decide) ?_ ?_
      · exact r_sub [1, 2, 3, 4, 5, 6, 7] rfl (t_X6_goToSessions_54 (f_X6_goToSessions_6 n) ih a0 a1 a2 a3 a4 a5 a6 ta0 h2)
      · refine r_aload_n (place := 1) dX6_goToSessions_31 rfl rfl ?_
        refine r_getR dX6_goToSessions_32 fg_X6_11 ta0 ?_
        refine r_iload (place := 7) dX6_goToSessions_35 rfl ?_
        refine r_aald10 dX6_goToSessions_37 (xt_5_0 ta0) (fun q4 tq4 => ?_)
        refine r_iload (place := 5) dX6_goToSessions_38 rfl ?_
        refine r_iload_n (place := 3) dX6_goToSessions_40 rfl rfl ?_
        refine r_iload_n (place := 4) dX6_goToSessions_41 rfl rfl ?_
        refine r_iload (place := 0) dX6_goToSessions_42 rfl ?_
        refine r_mmin dX6_goToSessions_44 sp_X6_140 (by decide) (Nat.le_of_ble_eq_true rfl) ?_
        refine r_iconst dX6_goToSessions_47 xc_0 ?_
        refine r_callVV (rest := []) dX6_goToSessions_48 m_X0_receive lk_X6_145 rfl (by decide) tq4 (c_X0_receive q4 tq4 a4 a2 (xmin a3 v3) (0 : Int32) h2) (by decide) rfl rfl (Nat.le_of_ble_eq_true rfl) (fun h5 => ?_)
        refine r_iincC (place := 6) (ls' := [(5, .int (a5 + (1 : Int32))), (7, .int v3), (0, .ref (G.1 a0)), (1, .int a1), (2, .int a2), (3, .int a3), (4, .int a4), (6, .int a6)]) dX6_goToSessions_51 rfl xc_1 (by decide) rfl ?_
        exact r_sub [2, 3, 4, 5, 6, 0, 7] rfl (t_X6_goToSessions_54 (f_X6_goToSessions_6 n) ih a0 a1 a2 a3 a4 (a5 + (1 : Int32)) a6 ta0 h5)
def f_X6_goToSessions (a0 : Nat) (a1 : Int32) (a2 : Int32) (a3 : Int32) (a4 : Int32) (h : Mem) : Option (Int32 × Mem) :=
  f_X6_goToSessions_6 xFU a0 a1 a2 a3 a4 (0 : Int32) (0 : Int32) h
set_option maxRecDepth 20000 in
theorem c_X6_goToSessions {G : xG} (a0 : Nat) (ta0 : xTy a0 5) (a1 : Int32) (a2 : Int32) (a3 : Int32) (a4 : Int32) (h : Mem) : Sm G 4 yX6_goToSessions FX6_goToSessions xcI [.ref (G.1 a0), .int a1, .int a2, .int a3, .int a4] h (f_X6_goToSessions a0 a1 a2 a3 a4 h) := by
  refine Sm.of pn_X6 rfl (Nat.le_of_ble_eq_true rfl) (ls := [(0, .ref (G.1 a0)), (1, .int a1), (2, .int a2), (3, .int a3), (4, .int a4)]) rfl ?_
  unfold f_X6_goToSessions
  refine r_iconst dX6_goToSessions_0 xc_0 ?_
  refine r_istore (ls' := [(5, .int (0 : Int32)), (0, .ref (G.1 a0)), (1, .int a1), (2, .int a2), (3, .int a3), (4, .int a4)]) dX6_goToSessions_1 (by decide) rfl ?_
  refine r_iconst dX6_goToSessions_3 xc_0 ?_
  refine r_istore (ls' := [(6, .int (0 : Int32)), (5, .int (0 : Int32)), (0, .ref (G.1 a0)), (1, .int a1), (2, .int a2), (3, .int a3), (4, .int a4)]) dX6_goToSessions_4 (by decide) rfl ?_
  exact r_sub [2, 3, 4, 5, 6, 1, 0] rfl (t_X6_goToSessions_6 xFU a0 a1 a2 a3 a4 (0 : Int32) (0 : Int32) ta0 h)
def f_X6_shareBehind_83 (kk4 : Nat → Int32 → Int32 → Int32 → Mem → Option (Int32 × Mem)) (kk24 : Nat → Int32 → Int32 → Int32 → Nat → Int32 → Mem → Option (Int32 × Mem)) (a0 : Nat) (a1 : Int32) (a2 : Int32) (a3 : Int32) (a4 : Nat) (a5 : Int32) (h : Mem) : Option (Int32 × Mem) :=
  kk24 a0 a1 a2 a3 a4 (a5 + (1 : Int32)) h
set_option maxRecDepth 20000 in
theorem t_X6_shareBehind_83 {G : xG} (kk4 : Nat → Int32 → Int32 → Int32 → Mem → Option (Int32 × Mem)) (hk4 : ∀ (a0 : Nat) (a1 : Int32) (a2 : Int32) (a3 : Int32) (ta0 : xTy a0 5) (h : Mem), Rn G 1 FX6_shareBehind xcI 4 [(0, .ref (G.1 a0)), (1, .int a1), (2, .int a2), (3, .int a3)] [] h (kk4 a0 a1 a2 a3 h)) (kk24 : Nat → Int32 → Int32 → Int32 → Nat → Int32 → Mem → Option (Int32 × Mem)) (hk24 : ∀ (a0 : Nat) (a1 : Int32) (a2 : Int32) (a3 : Int32) (a4 : Nat) (a5 : Int32) (ta0 : xTy a0 5) (ta4 : xTy a4 2) (h : Mem), Rn G 1 FX6_shareBehind xcI 24 [(0, .ref (G.1 a0)), (1, .int a1), (2, .int a2), (3, .int a3), (4, .ref (G.1 a4)), (5, .int a5)] [] h (kk24 a0 a1 a2 a3 a4 a5 h)) (a0 : Nat) (a1 : Int32) (a2 : Int32) (a3 : Int32) (a4 : Nat) (a5 : Int32) (ta0 : xTy a0 5) (ta4 : xTy a4 2) (h : Mem) : Rn G 1 FX6_shareBehind xcI 83 [(0, .ref (G.1 a0)), (1, .int a1), (2, .int a2), (3, .int a3), (4, .ref (G.1 a4)), (5, .int a5)] [] h (f_X6_shareBehind_83 kk4 kk24 a0 a1 a2 a3 a4 a5 h) := by
  unfold f_X6_shareBehind_83
  refine r_iincC (place := 5) (ls' := [(5, .int (a5 + (1 : Int32))), (0, .ref (G.1 a0)), (1, .int a1), (2, .int a2), (3, .int a3), (4, .ref (G.1 a4))]) dX6_shareBehind_83 rfl xc_1 (by decide) rfl ?_
  refine r_goto (tgt := 24) dX6_shareBehind_86 (by decide) ?_
  exact r_sub [1, 2, 3, 4, 5, 0] rfl (hk24 a0 a1 a2 a3 a4 (a5 + (1 : Int32)) ta0 ta4 h)
def f_X6_shareBehind_80 (kk4 : Nat → Int32 → Int32 → Int32 → Mem → Option (Int32 × Mem)) (kk24 : Nat → Int32 → Int32 → Int32 → Nat → Int32 → Mem → Option (Int32 × Mem)) (a0 : Nat) (a1 : Int32) (a3 : Int32) (a4 : Nat) (a5 : Int32) (a7 : Int32) (h : Mem) : Option (Int32 × Mem) :=
  f_X6_shareBehind_83 kk4 kk24 a0 a1 a7 a3 a4 a5 h
set_option maxRecDepth 20000 in
theorem t_X6_shareBehind_80 {G : xG} (kk4 : Nat → Int32 → Int32 → Int32 → Mem → Option (Int32 × Mem)) (hk4 : ∀ (a0 : Nat) (a1 : Int32) (a2 : Int32) (a3 : Int32) (ta0 : xTy a0 5) (h : Mem), Rn G 1 FX6_shareBehind xcI 4 [(0, .ref (G.1 a0)), (1, .int a1), (2, .int a2), (3, .int a3)] [] h (kk4 a0 a1 a2 a3 h)) (kk24 : Nat → Int32 → Int32 → Int32 → Nat → Int32 → Mem → Option (Int32 × Mem)) (hk24 : ∀ (a0 : Nat) (a1 : Int32) (a2 : Int32) (a3 : Int32) (a4 : Nat) (a5 : Int32) (ta0 : xTy a0 5) (ta4 : xTy a4 2) (h : Mem), Rn G 1 FX6_shareBehind xcI 24 [(0, .ref (G.1 a0)), (1, .int a1), (2, .int a2), (3, .int a3), (4, .ref (G.1 a4)), (5, .int a5)] [] h (kk24 a0 a1 a2 a3 a4 a5 h)) (a0 : Nat) (a1 : Int32) (a3 : Int32) (a4 : Nat) (a5 : Int32) (a7 : Int32) (ta0 : xTy a0 5) (ta4 : xTy a4 2) (h : Mem) : Rn G 1 FX6_shareBehind xcI 80 [(0, .ref (G.1 a0)), (1, .int a1), (3, .int a3), (4, .ref (G.1 a4)), (5, .int a5), (7, .int a7)] [] h (f_X6_shareBehind_80 kk4 kk24 a0 a1 a3 a4 a5 a7 h) := by
  unfold f_X6_shareBehind_80
  refine r_iload (place := 5) dX6_shareBehind_80 rfl ?_
  refine r_istore_n (ls' := [(2, .int a7), (0, .ref (G.1 a0)), (1, .int a1), (3, .int a3), (4, .ref (G.1 a4)), (5, .int a5), (7, .int a7)]) dX6_shareBehind_82 rfl (by decide) rfl ?_
  exact r_sub [1, 2, 0, 3, 4, 5] rfl (t_X6_shareBehind_83 kk4 hk4 kk24 hk24 a0 a1 a7 a3 a4 a5 ta0 ta4 h)
def f_X6_shareBehind_24 (kk4 : Nat → Int32 → Int32 → Int32 → Mem → Option (Int32 × Mem)) : Nat → Nat → Int32 → Int32 → Int32 → Nat → Int32 → Mem → Option (Int32 × Mem)
  | 0, _, _, _, _, _, _, _ => none
  | n + 1, a0, a1, a2, a3, a4, a5, h =>
    if (h a4 3) ≤ a5 then
        kk4 a0 a1 a2 (a3 + (1 : Int32)) h
    else
        b2 (f_X3_cell a4 a5 (2 : Int32) h) fun v2 h1 =>
        b2 (f_X3_cell a4 a5 (0 : Int32) h1) fun v4 h3 =>
        b2 (f_X1_shareKey v2 v4 h3) fun v6 h5 =>
        if v2 ≤ 0 then
            f_X6_shareBehind_83 kk4 (f_X6_shareBehind_24 kk4 n) a0 a1 a2 a3 a4 a5 h5
        else
            if v6 ≤ a1 then
                f_X6_shareBehind_83 kk4 (f_X6_shareBehind_24 kk4 n) a0 a1 a2 a3 a4 a5 h5
            else
                if a2 = 0 then
                    f_X6_shareBehind_80 kk4 (f_X6_shareBehind_24 kk4 n) a0 a1 a3 a4 a5 v6 h5
                else
                    if a2 ≤ v6 then
                        f_X6_shareBehind_83 kk4 (f_X6_shareBehind_24 kk4 n) a0 a1 a2 a3 a4 a5 h5
                    else
                        f_X6_shareBehind_80 kk4 (f_X6_shareBehind_24 kk4 n) a0 a1 a3 a4 a5 v6 h5
set_option maxRecDepth 20000 in
theorem t_X6_shareBehind_24 {G : xG} (kk4 : Nat → Int32 → Int32 → Int32 → Mem → Option (Int32 × Mem)) (hk4 : ∀ (a0 : Nat) (a1 : Int32) (a2 : Int32) (a3 : Int32) (ta0 : xTy a0 5) (h : Mem), Rn G 1 FX6_shareBehind xcI 4 [(0, .ref (G.1 a0)), (1, .int a1), (2, .int a2), (3, .int a3)] [] h (kk4 a0 a1 a2 a3 h)) : ∀ (n : Nat) (a0 : Nat) (a1 : Int32) (a2 : Int32) (a3 : Int32) (a4 : Nat) (a5 : Int32) (ta0 : xTy a0 5) (ta4 : xTy a4 2) (h : Mem), Rn G 1 FX6_shareBehind xcI 24 [(0, .ref (G.1 a0)), (1, .int a1), (2, .int a2), (3, .int a3), (4, .ref (G.1 a4)), (5, .int a5)] [] h (f_X6_shareBehind_24 kk4 n a0 a1 a2 a3 a4 a5 h) := by
  intro n
  induction n with
  | zero => intros; intro r hr; cases hr
  | succ n ih =>
    intro a0 a1 a2 a3 a4 a5 ta0 ta4 h
    unfold f_X6_shareBehind_24
    refine r_iload (place := 5) dX6_shareBehind_24 rfl ?_
    refine r_aload (place := 4) dX6_shareBehind_26 rfl ?_
    refine r_getI dX6_shareBehind_28 fg_X6_174 ta4 ?_
    refine r_ic_ge (tgt := 89) dX6_shareBehind_31 (by decide) ?_ ?_
    · refine r_iincC (place := 3) (ls' := [(3, .int (a3 + (1 : Int32))), (0, .ref (G.1 a0)), (1, .int a1), (2, .int a2), (4, .ref (G.1 a4)), (5, .int a5)]) dX6_shareBehind_89 rfl xc_1 (by decide) rfl ?_
      refine r_goto (tgt := 4) dX6_shareBehind_92 (by decide) ?_
      exact r_sub [1, 2, 3, 0] rfl (hk4 a0 a1 a2 (a3 + (1 : Int32)) ta0 h)
    · refine r_aload (place := 4) dX6_shareBehind_34 rfl ?_
      refine r_iload (place := 5) dX6_shareBehind_36 rfl ?_
      refine r_iconst dX6_shareBehind_38 xc_2 ?_
      refine r_callVI (rest := []) dX6_shareBehind_39 m_X3_cell lk_X6_171 rfl (by decide) ta4 (c_X3_cell a4 ta4 a5 (2 : Int32) h) (by decide) rfl rfl (Nat.le_of_ble_eq_true rfl) (fun v2 h1 => ?_)
      refine r_istore (ls' := [(6, .int v2), (0, .ref (G.1 a0)), (1, .int a1), (2, .int a2), (3, .int a3), (4, .ref (G.1 a4)), (5, .int a5)]) dX6_shareBehind_42 (by decide) rfl ?_
      refine r_iload (place := 0) dX6_shareBehind_44 rfl ?_
      refine r_aload (place := 5) dX6_shareBehind_46 rfl ?_
      refine r_iload (place := 6) dX6_shareBehind_48 rfl ?_
      refine r_iconst dX6_shareBehind_50 xc_0 ?_
      refine r_callVI (rest := [.int v2]) dX6_shareBehind_51 m_X3_cell lk_X6_171 rfl (by decide) ta4 (c_X3_cell a4 ta4 a5 (0 : Int32) h1) (by decide) rfl rfl (Nat.le_of_ble_eq_true rfl) (fun v4 h3 => ?_)
      refine r_callSI (rest := []) dX6_shareBehind_54 m_X1_shareKey lk_X6_177 (c_X1_shareKey v2 v4 h3) (by decide) rfl rfl (Nat.le_of_ble_eq_true rfl) (fun v6 h5 => ?_)
      refine r_istore (ls' := [(7, .int v6), (6, .int v2), (0, .ref (G.1 a0)), (1, .int a1), (2, .int a2), (3, .int a3), (4, .ref (G.1 a4)), (5, .int a5)]) dX6_shareBehind_57 (by decide) rfl ?_
      refine r_iload (place := 1) dX6_shareBehind_59 rfl ?_
      refine r_if_le (tgt := 83) dX6_shareBehind_61 (by decide) ?_ ?_
      · exact r_sub [2, 3, 4, 5, 6, 7] rfl (t_X6_shareBehind_83 kk4 hk4 (f_X6_shareBehind_24 kk4 n) ih a0 a1 a2 a3 a4 a5 ta0 ta4 h5)
      · refine r_iload (place := 0) dX6_shareBehind_64 rfl ?_
        refine r_iload_n (place := 3) dX6_shareBehind_66 rfl rfl ?_
        refine r_ic_le (tgt := 83) dX6_shareBehind_67 (by decide) ?_ ?_
        · exact r_sub [2, 3, 4, 5, 6, 7] rfl (t_X6_shareBehind_83 kk4 hk4 (f_X6_shareBehind_24 kk4 n) ih a0 a1 a2 a3 a4 a5 ta0 ta4 h5)
        · refine r_iload_n (place := 4) dX6_shareBehind_70 rfl rfl ?_
          refine r_if_eq (tgt := 80) dX6_shareBehind_71 (by decide) ?_ ?_
          · exact r_sub [2, 3, 5, 6, 7, 0] rfl (t_X6_shareBehind_80 kk4 hk4 (f_X6_shareBehind_24 kk4 n) ih a0 a1 a3 a4 a5 v6 ta0 ta4 h5)
          · refine r_iload (place := 0) dX6_shareBehind_74 rfl ?_
            refine r_iload_n (place := 4) dX6_shareBehind_76 rfl rfl ?_
            refine r_ic_ge (tgt := 83) dX6_shareBehind_77 (by decide) ?_ ?_
            · exact r_sub [2, 3, 4, 5, 6, 7] rfl (t_X6_shareBehind_83 kk4 hk4 (f_X6_shareBehind_24 kk4 n) ih a0 a1 a2 a3 a4 a5 ta0 ta4 h5)
            · exact r_sub [2, 3, 5, 6, 7, 0] rfl (t_X6_shareBehind_80 kk4 hk4 (f_X6_shareBehind_24 kk4 n) ih a0 a1 a3 a4 a5 v6 ta0 ta4 h5)
def f_X6_shareBehind_4  : Nat → Nat → Int32 → Int32 → Int32 → Mem → Option (Int32 × Mem)
  | 0, _, _, _, _, _ => none
  | n + 1, a0, a1, a2, a3, h =>
    if (6 : Int32) ≤ a3 then
        some (a2, h)
    else
        aald (xrf a0 0) a3 fun q1 =>
        f_X6_shareBehind_24 (f_X6_shareBehind_4 n) xFU a0 a1 a2 a3 (xrf q1 0) (0 : Int32) h
set_option maxRecDepth 20000 in
theorem t_X6_shareBehind_4 {G : xG}  : ∀ (n : Nat) (a0 : Nat) (a1 : Int32) (a2 : Int32) (a3 : Int32) (ta0 : xTy a0 5) (h : Mem), Rn G 1 FX6_shareBehind xcI 4 [(0, .ref (G.1 a0)), (1, .int a1), (2, .int a2), (3, .int a3)] [] h (f_X6_shareBehind_4 n a0 a1 a2 a3 h) := by
  intro n
  induction n with
  | zero => intros; intro r hr; cases hr
  | succ n ih =>
    intro a0 a1 a2 a3 ta0 h
    unfold f_X6_shareBehind_4
    refine r_iload_n (place := 3) dX6_shareBehind_4 rfl rfl ?_
    refine r_bipush dX6_shareBehind_5 xb_6 ?_
    refine r_ic_ge (tgt := 95) dX6_shareBehind_7 (by decide) ?_ ?_
    · refine r_iload_n (place := 2) dX6_shareBehind_95 rfl rfl ?_
      exact r_iret dX6_shareBehind_96 rfl
    · refine r_aload_n (place := 0) dX6_shareBehind_10 rfl rfl ?_
      refine r_getR dX6_shareBehind_11 fg_X6_11 ta0 ?_
      refine r_iload_n (place := 3) dX6_shareBehind_14 rfl rfl ?_
      refine r_aald10 dX6_shareBehind_15 (xt_5_0 ta0) (fun q1 tq1 => ?_)
      refine r_getR dX6_shareBehind_16 fg_X6_165 tq1 ?_
      refine r_astore (ls' := [(4, .ref (G.1 (xrf q1 0))), (0, .ref (G.1 a0)), (1, .int a1), (2, .int a2), (3, .int a3)]) dX6_shareBehind_19 (by decide) rfl ?_
      refine r_iconst dX6_shareBehind_21 xc_0 ?_
      refine r_istore (ls' := [(5, .int (0 : Int32)), (4, .ref (G.1 (xrf q1 0))), (0, .ref (G.1 a0)), (1, .int a1), (2, .int a2), (3, .int a3)]) dX6_shareBehind_22 (by decide) rfl ?_
      exact r_sub [2, 3, 4, 5, 1, 0] rfl (t_X6_shareBehind_24 (f_X6_shareBehind_4 n) ih xFU a0 a1 a2 a3 (xrf q1 0) (0 : Int32) ta0 (xt_0_0 tq1) h)
def f_X6_shareBehind (a0 : Nat) (a1 : Int32) (h : Mem) : Option (Int32 × Mem) :=
  f_X6_shareBehind_4 xFU a0 a1 (0 : Int32) (0 : Int32) h
set_option maxRecDepth 20000 in
theorem c_X6_shareBehind {G : xG} (a0 : Nat) (ta0 : xTy a0 5) (a1 : Int32) (h : Mem) : Sm G 1 yX6_shareBehind FX6_shareBehind xcI [.ref (G.1 a0), .int a1] h (f_X6_shareBehind a0 a1 h) := by
  refine Sm.of pn_X6 rfl (Nat.le_of_ble_eq_true rfl) (ls := [(0, .ref (G.1 a0)), (1, .int a1)]) rfl ?_
  unfold f_X6_shareBehind
  refine r_iconst dX6_shareBehind_0 xc_0 ?_
  refine r_istore_n (ls' := [(2, .int (0 : Int32)), (0, .ref (G.1 a0)), (1, .int a1)]) dX6_shareBehind_1 rfl (by decide) rfl ?_
  refine r_iconst dX6_shareBehind_2 xc_0 ?_
  refine r_istore_n (ls' := [(3, .int (0 : Int32)), (2, .int (0 : Int32)), (0, .ref (G.1 a0)), (1, .int a1)]) dX6_shareBehind_3 rfl (by decide) rfl ?_
  exact r_sub [2, 3, 1, 0] rfl (t_X6_shareBehind_4 xFU a0 a1 (0 : Int32) (0 : Int32) ta0 h)
def f_X6_latestOf (a0 : Nat) (a1 : Int32) (h : Mem) : Option (Int32 × Mem) :=
  b2 (f_X3_find (xrf a0 2) (0 : Int32) a1 h) fun v2 h1 =>
  if 0 ≤ v2 then
      b2 (f_X3_cell (xrf a0 2) v2 (1 : Int32) h1) fun v4 h3 =>
      some (v4, h3)
  else
      some ((-4 : Int32), h1)
set_option maxRecDepth 20000 in
theorem c_X6_latestOf {G : xG} (a0 : Nat) (ta0 : xTy a0 5) (a1 : Int32) (h : Mem) : Sm G 1 yX6_latestOf FX6_latestOf xcI [.ref (G.1 a0), .int a1] h (f_X6_latestOf a0 a1 h) := by
  refine Sm.of pn_X6 rfl (Nat.le_of_ble_eq_true rfl) (ls := [(0, .ref (G.1 a0)), (1, .int a1)]) rfl ?_
  unfold f_X6_latestOf
  refine r_aload_n (place := 0) dX6_latestOf_0 rfl rfl ?_
  refine r_getR dX6_latestOf_1 fg_X6_26 ta0 ?_
  refine r_iconst dX6_latestOf_4 xc_0 ?_
  refine r_iload_n (place := 1) dX6_latestOf_5 rfl rfl ?_
  refine r_callVI (rest := []) dX6_latestOf_6 m_X3_find lk_X6_106 rfl (by decide) (xt_5_2 ta0) (c_X3_find (xrf a0 2) (xt_5_2 ta0) (0 : Int32) a1 h) (by decide) rfl rfl (Nat.le_of_ble_eq_true rfl) (fun v2 h1 => ?_)
  refine r_istore_n (ls' := [(2, .int v2), (0, .ref (G.1 a0)), (1, .int a1)]) dX6_latestOf_9 rfl (by decide) rfl ?_
  refine r_iload_n (place := 0) dX6_latestOf_10 rfl rfl ?_
  refine r_if_ge (tgt := 19) dX6_latestOf_11 (by decide) ?_ ?_
  · refine r_aload_n (place := 1) dX6_latestOf_19 rfl rfl ?_
    refine r_getR dX6_latestOf_20 fg_X6_26 ta0 ?_
    refine r_iload_n (place := 0) dX6_latestOf_23 rfl rfl ?_
    refine r_iconst dX6_latestOf_24 xc_1 ?_
    refine r_callVI (rest := []) dX6_latestOf_25 m_X3_cell lk_X6_171 rfl (by decide) (xt_5_2 ta0) (c_X3_cell (xrf a0 2) (xt_5_2 ta0) v2 (1 : Int32) h1) (by decide) rfl rfl (Nat.le_of_ble_eq_true rfl) (fun v4 h3 => ?_)
    exact r_iret dX6_latestOf_28 rfl
  · refine r_bipush dX6_latestOf_14 xb_m4 ?_
    refine r_goto (tgt := 28) dX6_latestOf_16 (by decide) ?_
    exact r_iret dX6_latestOf_28 rfl
def f_X6_memberBehind_86 (kk36 : Nat → Int32 → Int32 → Int32 → Int32 → Int32 → Mem → Option (Int32 × Mem)) (a0 : Nat) (a2 : Int32) (a3 : Int32) (a4 : Int32) (a6 : Int32) (a7 : Int32) (h : Mem) : Option (Int32 × Mem) :=
  kk36 a0 a2 a3 a4 a6 (a7 + (1 : Int32)) h
set_option maxRecDepth 20000 in
theorem t_X6_memberBehind_86 {G : xG} (kk36 : Nat → Int32 → Int32 → Int32 → Int32 → Int32 → Mem → Option (Int32 × Mem)) (hk36 : ∀ (a0 : Nat) (a2 : Int32) (a3 : Int32) (a4 : Int32) (a6 : Int32) (a7 : Int32) (ta0 : xTy a0 5) (h : Mem), Rn G 2 FX6_memberBehind xcI 36 [(0, .ref (G.1 a0)), (2, .int a2), (3, .int a3), (4, .int a4), (6, .int a6), (7, .int a7)] [] h (kk36 a0 a2 a3 a4 a6 a7 h)) (a0 : Nat) (a2 : Int32) (a3 : Int32) (a4 : Int32) (a6 : Int32) (a7 : Int32) (ta0 : xTy a0 5) (h : Mem) : Rn G 2 FX6_memberBehind xcI 86 [(0, .ref (G.1 a0)), (2, .int a2), (3, .int a3), (4, .int a4), (6, .int a6), (7, .int a7)] [] h (f_X6_memberBehind_86 kk36 a0 a2 a3 a4 a6 a7 h) := by
  unfold f_X6_memberBehind_86
  refine r_iincC (place := 5) (ls' := [(7, .int (a7 + (1 : Int32))), (0, .ref (G.1 a0)), (2, .int a2), (3, .int a3), (4, .int a4), (6, .int a6)]) dX6_memberBehind_86 rfl xc_1 (by decide) rfl ?_
  refine r_goto (tgt := 36) dX6_memberBehind_89 (by decide) ?_
  exact r_sub [1, 2, 3, 4, 5, 0] rfl (hk36 a0 a2 a3 a4 a6 (a7 + (1 : Int32)) ta0 h)
def f_X6_memberBehind_36  : Nat → Nat → Int32 → Int32 → Int32 → Int32 → Int32 → Mem → Option (Int32 × Mem)
  | 0, _, _, _, _, _, _, _ => none
  | n + 1, a0, a2, a3, a4, a6, a7, h =>
    if (6 : Int32) ≤ a7 then
        some ((-1 : Int32), h)
    else
        aald (xrf a0 0) ((a6 + a7) - (a6 + a7) / (6 : Int32) * (6 : Int32)) fun q1 =>
        if (h q1 8) = a2 then
            aald (xrf a0 0) ((a6 + a7) - (a6 + a7) / (6 : Int32) * (6 : Int32)) fun q2 =>
            b2 (f_X0_findSubscription q2 a3 a4 h) fun v4 h3 =>
            if v4 < 0 then
                f_X6_memberBehind_86 (f_X6_memberBehind_36 n) a0 a2 a3 a4 a6 a7 h3
            else
                some (((a6 + a7) - (a6 + a7) / (6 : Int32) * (6 : Int32)), h3)
        else
            f_X6_memberBehind_86 (f_X6_memberBehind_36 n) a0 a2 a3 a4 a6 a7 h
set_option maxRecDepth 20000 in
theorem t_X6_memberBehind_36 {G : xG}  : ∀ (n : Nat) (a0 : Nat) (a2 : Int32) (a3 : Int32) (a4 : Int32) (a6 : Int32) (a7 : Int32) (ta0 : xTy a0 5) (h : Mem), Rn G 2 FX6_memberBehind xcI 36 [(0, .ref (G.1 a0)), (2, .int a2), (3, .int a3), (4, .int a4), (6, .int a6), (7, .int a7)] [] h (f_X6_memberBehind_36 n a0 a2 a3 a4 a6 a7 h) := by
  intro n
  induction n with
  | zero => intros; intro r hr; cases hr
  | succ n ih =>
    intro a0 a2 a3 a4 a6 a7 ta0 h
    unfold f_X6_memberBehind_36
    refine r_iload (place := 5) dX6_memberBehind_36 rfl ?_
    refine r_bipush dX6_memberBehind_38 xb_6 ?_
    refine r_ic_ge (tgt := 92) dX6_memberBehind_40 (by decide) ?_ ?_
    · refine r_iconst dX6_memberBehind_92 xc_m1 ?_
      exact r_iret dX6_memberBehind_93 rfl
    · refine r_iload (place := 4) dX6_memberBehind_43 rfl ?_
      refine r_iload (place := 5) dX6_memberBehind_45 rfl ?_
      refine r_iadd dX6_memberBehind_47 ?_
      refine r_bipush dX6_memberBehind_48 xb_6 ?_
      refine r_irem dX6_memberBehind_50 (by decide) ?_
      refine r_istore (ls' := [(8, .int ((a6 + a7) - (a6 + a7) / (6 : Int32) * (6 : Int32))), (0, .ref (G.1 a0)), (2, .int a2), (3, .int a3), (4, .int a4), (6, .int a6), (7, .int a7)]) dX6_memberBehind_51 (by decide) rfl ?_
      refine r_aload_n (place := 1) dX6_memberBehind_53 rfl rfl ?_
      refine r_getR dX6_memberBehind_54 fg_X6_11 ta0 ?_
      refine r_iload (place := 0) dX6_memberBehind_57 rfl ?_
      refine r_aald10 dX6_memberBehind_59 (xt_5_0 ta0) (fun q1 tq1 => ?_)
      refine r_getI dX6_memberBehind_60 fg_X6_48 tq1 ?_
      refine r_iload_n (place := 2) dX6_memberBehind_63 rfl rfl ?_
      refine r_ic_ne (tgt := 86) dX6_memberBehind_64 (by decide) ?_ ?_
      · exact r_sub [1, 2, 3, 4, 5, 6] rfl (t_X6_memberBehind_86 (f_X6_memberBehind_36 n) ih a0 a2 a3 a4 a6 a7 ta0 h)
      · refine r_aload_n (place := 1) dX6_memberBehind_67 rfl rfl ?_
        refine r_getR dX6_memberBehind_68 fg_X6_11 ta0 ?_
        refine r_iload (place := 0) dX6_memberBehind_71 rfl ?_
        refine r_aald10 dX6_memberBehind_73 (xt_5_0 ta0) (fun q2 tq2 => ?_)
        refine r_iload_n (place := 3) dX6_memberBehind_74 rfl rfl ?_
        refine r_iload (place := 4) dX6_memberBehind_75 rfl ?_
        refine r_callVI (rest := []) dX6_memberBehind_77 m_X0_findSubscription lk_X6_192 rfl (by decide) tq2 (c_X0_findSubscription q2 tq2 a3 a4 h) (by decide) rfl rfl (Nat.le_of_ble_eq_true rfl) (fun v4 h3 => ?_)
        refine r_if_lt (tgt := 86) dX6_memberBehind_80 (by decide) ?_ ?_
        · exact r_sub [1, 2, 3, 4, 5, 6] rfl (t_X6_memberBehind_86 (f_X6_memberBehind_36 n) ih a0 a2 a3 a4 a6 a7 ta0 h3)
        · refine r_iload (place := 0) dX6_memberBehind_83 rfl ?_
          exact r_iret dX6_memberBehind_85 rfl
def f_X6_memberBehind_31  (a0 : Nat) (a2 : Int32) (a3 : Int32) (a4 : Int32) (s0 : Int32) (h : Mem) : Option (Int32 × Mem) :=
  f_X6_memberBehind_36 xFU a0 a2 a3 a4 s0 (0 : Int32) h
set_option maxRecDepth 20000 in
theorem t_X6_memberBehind_31 {G : xG}  (a0 : Nat) (a2 : Int32) (a3 : Int32) (a4 : Int32) (s0 : Int32) (ta0 : xTy a0 5) (h : Mem) : Rn G 2 FX6_memberBehind xcI 31 [(0, .ref (G.1 a0)), (2, .int a2), (3, .int a3), (4, .int a4)] [.int s0] h (f_X6_memberBehind_31 a0 a2 a3 a4 s0 h) := by
  unfold f_X6_memberBehind_31
  refine r_istore (ls' := [(6, .int s0), (0, .ref (G.1 a0)), (2, .int a2), (3, .int a3), (4, .int a4)]) dX6_memberBehind_31 (by decide) rfl ?_
  refine r_iconst dX6_memberBehind_33 xc_0 ?_
  refine r_istore (ls' := [(7, .int (0 : Int32)), (6, .int s0), (0, .ref (G.1 a0)), (2, .int a2), (3, .int a3), (4, .int a4)]) dX6_memberBehind_34 (by decide) rfl ?_
  exact r_sub [2, 3, 4, 5, 1, 0] rfl (t_X6_memberBehind_36 xFU a0 a2 a3 a4 s0 (0 : Int32) ta0 h)
def f_X6_memberBehind (a0 : Nat) (a1 : Int32) (a2 : Int32) (h : Mem) : Option (Int32 × Mem) :=
  b2 (f_X1_filterOf a1 h) fun v2 h1 =>
  b2 (f_X1_groupOf a1 h1) fun v4 h3 =>
  b2 (f_X6_latestOf a0 a1 h3) fun v6 h5 =>
  if 0 ≤ v6 then
      f_X6_memberBehind_31 a0 a2 v2 v4 (v6 + (1 : Int32)) h5
  else
      f_X6_memberBehind_31 a0 a2 v2 v4 (0 : Int32) h5
set_option maxRecDepth 20000 in
theorem c_X6_memberBehind {G : xG} (a0 : Nat) (ta0 : xTy a0 5) (a1 : Int32) (a2 : Int32) (h : Mem) : Sm G 2 yX6_memberBehind FX6_memberBehind xcI [.ref (G.1 a0), .int a1, .int a2] h (f_X6_memberBehind a0 a1 a2 h) := by
  refine Sm.of pn_X6 rfl (Nat.le_of_ble_eq_true rfl) (ls := [(0, .ref (G.1 a0)), (1, .int a1), (2, .int a2)]) rfl ?_
  unfold f_X6_memberBehind
  refine r_iload_n (place := 1) dX6_memberBehind_0 rfl rfl ?_
  refine r_callSI (rest := []) dX6_memberBehind_1 m_X1_filterOf lk_X6_152 (c_X1_filterOf a1 h) (by decide) rfl rfl (Nat.le_of_ble_eq_true rfl) (fun v2 h1 => ?_)
  refine r_istore_n (ls' := [(3, .int v2), (0, .ref (G.1 a0)), (1, .int a1), (2, .int a2)]) dX6_memberBehind_4 rfl (by decide) rfl ?_
  refine r_iload_n (place := 2) dX6_memberBehind_5 rfl rfl ?_
  refine r_callSI (rest := []) dX6_memberBehind_6 m_X1_groupOf lk_X6_186 (c_X1_groupOf a1 h1) (by decide) rfl rfl (Nat.le_of_ble_eq_true rfl) (fun v4 h3 => ?_)
  refine r_istore (ls' := [(4, .int v4), (3, .int v2), (0, .ref (G.1 a0)), (1, .int a1), (2, .int a2)]) dX6_memberBehind_9 (by decide) rfl ?_
  refine r_aload_n (place := 2) dX6_memberBehind_11 rfl rfl ?_
  refine r_iload_n (place := 3) dX6_memberBehind_12 rfl rfl ?_
  refine r_callVI (rest := []) dX6_memberBehind_13 m_X6_latestOf lk_X6_189 rfl (by decide) ta0 (c_X6_latestOf a0 ta0 a1 h3) (by decide) rfl rfl (Nat.le_of_ble_eq_true rfl) (fun v6 h5 => ?_)
  refine r_istore (ls' := [(5, .int v6), (4, .int v4), (3, .int v2), (0, .ref (G.1 a0)), (1, .int a1), (2, .int a2)]) dX6_memberBehind_16 (by decide) rfl ?_
  refine r_iload (place := 0) dX6_memberBehind_18 rfl ?_
  refine r_if_ge (tgt := 27) dX6_memberBehind_20 (by decide) ?_ ?_
  · refine r_iload (place := 0) dX6_memberBehind_27 rfl ?_
    refine r_iconst dX6_memberBehind_29 xc_1 ?_
    refine r_iadd dX6_memberBehind_30 ?_
    exact r_sub [3, 5, 2, 1] rfl (t_X6_memberBehind_31 a0 a2 v2 v4 (v6 + (1 : Int32)) ta0 h5)
  · refine r_iconst dX6_memberBehind_23 xc_0 ?_
    refine r_goto (tgt := 31) dX6_memberBehind_24 (by decide) ?_
    exact r_sub [3, 5, 2, 1] rfl (t_X6_memberBehind_31 a0 a2 v2 v4 (0 : Int32) ta0 h5)
def f_X6_nextMember_56  (a0 : Nat) (a2 : Int32) (a3 : Int32) (h : Mem) : Option (Nat × Mem) :=
  b2 (f_X3_put (xrf a0 2) a3 (1 : Int32) a2 h) fun _ h1 =>
  aald (xrf a0 0) a2 fun q2 =>
  some (q2, h1)
set_option maxRecDepth 20000 in
theorem t_X6_nextMember_56 {G : xG}  (a0 : Nat) (a2 : Int32) (a3 : Int32) (ta0 : xTy a0 5) (h : Mem) : Rn G 3 FX6_nextMember (xcR G) 56 [(0, .ref (G.1 a0)), (2, .int a2), (3, .int a3)] [] h (f_X6_nextMember_56 a0 a2 a3 h) := by
  unfold f_X6_nextMember_56
  refine r_aload_n (place := 0) dX6_nextMember_56 rfl rfl ?_
  refine r_getR dX6_nextMember_57 fg_X6_26 ta0 ?_
  refine r_iload_n (place := 2) dX6_nextMember_60 rfl rfl ?_
  refine r_iconst dX6_nextMember_61 xc_1 ?_
  refine r_iload_n (place := 1) dX6_nextMember_62 rfl rfl ?_
  refine r_callVV (rest := []) dX6_nextMember_63 m_X3_put lk_X6_132 rfl (by decide) (xt_5_2 ta0) (c_X3_put (xrf a0 2) (xt_5_2 ta0) a3 (1 : Int32) a2 h) (by decide) rfl rfl (Nat.le_of_ble_eq_true rfl) (fun h1 => ?_)
  refine r_aload_n (place := 0) dX6_nextMember_66 rfl rfl ?_
  refine r_getR dX6_nextMember_67 fg_X6_11 ta0 ?_
  refine r_iload_n (place := 1) dX6_nextMember_70 rfl rfl ?_
  refine r_aald10 dX6_nextMember_71 (xt_5_0 ta0) (fun q2 tq2 => ?_)
  exact r_aret dX6_nextMember_72 rfl
def f_X6_nextMember_18  (a0 : Nat) (a1 : Int32) (a2 : Int32) (h : Mem) : Option (Nat × Mem) :=
  b2 (f_X3_find (xrf a0 2) (0 : Int32) a1 h) fun v2 h1 =>
  if 0 ≤ v2 then
      f_X6_nextMember_56 a0 (xmax a2 (0 : Int32)) v2 h1
  else
      b2 (f_X3_open (xrf a0 2) h1) fun v4 h3 =>
      b2 (f_X3_put (xrf a0 2) v4 (0 : Int32) a1 h3) fun _ h5 =>
      f_X6_nextMember_56 a0 (xmax a2 (0 : Int32)) v4 h5
set_option maxRecDepth 20000 in
theorem t_X6_nextMember_18 {G : xG}  (a0 : Nat) (a1 : Int32) (a2 : Int32) (ta0 : xTy a0 5) (h : Mem) : Rn G 3 FX6_nextMember (xcR G) 18 [(0, .ref (G.1 a0)), (1, .int a1), (2, .int a2)] [] h (f_X6_nextMember_18 a0 a1 a2 h) := by
  unfold f_X6_nextMember_18
  refine r_iload_n (place := 2) dX6_nextMember_18 rfl rfl ?_
  refine r_iconst dX6_nextMember_19 xc_0 ?_
  refine r_mmax dX6_nextMember_20 sp_X6_183 (by decide) (Nat.le_of_ble_eq_true rfl) ?_
  refine r_istore_n (ls' := [(2, .int (xmax a2 (0 : Int32))), (0, .ref (G.1 a0)), (1, .int a1)]) dX6_nextMember_23 rfl (by decide) rfl ?_
  refine r_aload_n (place := 1) dX6_nextMember_24 rfl rfl ?_
  refine r_getR dX6_nextMember_25 fg_X6_26 ta0 ?_
  refine r_iconst dX6_nextMember_28 xc_0 ?_
  refine r_iload_n (place := 2) dX6_nextMember_29 rfl rfl ?_
  refine r_callVI (rest := []) dX6_nextMember_30 m_X3_find lk_X6_106 rfl (by decide) (xt_5_2 ta0) (c_X3_find (xrf a0 2) (xt_5_2 ta0) (0 : Int32) a1 h) (by decide) rfl rfl (Nat.le_of_ble_eq_true rfl) (fun v2 h1 => ?_)
  refine r_istore_n (ls' := [(3, .int v2), (2, .int (xmax a2 (0 : Int32))), (0, .ref (G.1 a0)), (1, .int a1)]) dX6_nextMember_33 rfl (by decide) rfl ?_
  refine r_iload_n (place := 0) dX6_nextMember_34 rfl rfl ?_
  refine r_if_ge (tgt := 56) dX6_nextMember_35 (by decide) ?_ ?_
  · exact r_sub [2, 1, 0] rfl (t_X6_nextMember_56 a0 (xmax a2 (0 : Int32)) v2 ta0 h1)
  · refine r_aload_n (place := 2) dX6_nextMember_38 rfl rfl ?_
    refine r_getR dX6_nextMember_39 fg_X6_26 ta0 ?_
    refine r_callVI (rest := []) dX6_nextMember_42 m_X3_open lk_X6_128 rfl (by decide) (xt_5_2 ta0) (c_X3_open (xrf a0 2) (xt_5_2 ta0) h1) (by decide) rfl rfl (Nat.le_of_ble_eq_true rfl) (fun v4 h3 => ?_)
    refine r_istore_n (ls' := [(3, .int v4), (2, .int (xmax a2 (0 : Int32))), (0, .ref (G.1 a0)), (1, .int a1)]) dX6_nextMember_45 rfl (by decide) rfl ?_
    refine r_aload_n (place := 2) dX6_nextMember_46 rfl rfl ?_
    refine r_getR dX6_nextMember_47 fg_X6_26 ta0 ?_
    refine r_iload_n (place := 0) dX6_nextMember_50 rfl rfl ?_
    refine r_iconst dX6_nextMember_51 xc_0 ?_
    refine r_iload_n (place := 3) dX6_nextMember_52 rfl rfl ?_
    refine r_callVV (rest := []) dX6_nextMember_53 m_X3_put lk_X6_132 rfl (by decide) (xt_5_2 ta0) (c_X3_put (xrf a0 2) (xt_5_2 ta0) v4 (0 : Int32) a1 h3) (by decide) rfl rfl (Nat.le_of_ble_eq_true rfl) (fun h5 => ?_)
    exact r_sub [2, 1, 0] rfl (t_X6_nextMember_56 a0 (xmax a2 (0 : Int32)) v4 ta0 h5)
def f_X6_nextMember (a0 : Nat) (a1 : Int32) (h : Mem) : Option (Nat × Mem) :=
  b2 (f_X6_memberBehind a0 a1 (1 : Int32) h) fun v2 h1 =>
  if 0 ≤ v2 then
      f_X6_nextMember_18 a0 a1 v2 h1
  else
      b2 (f_X6_memberBehind a0 a1 (2 : Int32) h1) fun v4 h3 =>
      f_X6_nextMember_18 a0 a1 v4 h3
set_option maxRecDepth 20000 in
theorem c_X6_nextMember {G : xG} (a0 : Nat) (ta0 : xTy a0 5) (a1 : Int32) (h : Mem) : Sm G 3 yX6_nextMember FX6_nextMember (xcR G) [.ref (G.1 a0), .int a1] h (f_X6_nextMember a0 a1 h) := by
  refine Sm.of pn_X6 rfl (Nat.le_of_ble_eq_true rfl) (ls := [(0, .ref (G.1 a0)), (1, .int a1)]) rfl ?_
  unfold f_X6_nextMember
  refine r_aload_n (place := 0) dX6_nextMember_0 rfl rfl ?_
  refine r_iload_n (place := 1) dX6_nextMember_1 rfl rfl ?_
  refine r_iconst dX6_nextMember_2 xc_1 ?_
  refine r_callVI (rest := []) dX6_nextMember_3 m_X6_memberBehind lk_X6_180 rfl (by decide) ta0 (c_X6_memberBehind a0 ta0 a1 (1 : Int32) h) (by decide) rfl rfl (Nat.le_of_ble_eq_true rfl) (fun v2 h1 => ?_)
  refine r_istore_n (ls' := [(2, .int v2), (0, .ref (G.1 a0)), (1, .int a1)]) dX6_nextMember_6 rfl (by decide) rfl ?_
  refine r_iload_n (place := 0) dX6_nextMember_7 rfl rfl ?_
  refine r_if_ge (tgt := 18) dX6_nextMember_8 (by decide) ?_ ?_
  · exact r_sub [1, 2, 0] rfl (t_X6_nextMember_18 a0 a1 v2 ta0 h1)
  · refine r_aload_n (place := 1) dX6_nextMember_11 rfl rfl ?_
    refine r_iload_n (place := 2) dX6_nextMember_12 rfl rfl ?_
    refine r_iconst dX6_nextMember_13 xc_2 ?_
    refine r_callVI (rest := []) dX6_nextMember_14 m_X6_memberBehind lk_X6_180 rfl (by decide) ta0 (c_X6_memberBehind a0 ta0 a1 (2 : Int32) h1) (by decide) rfl rfl (Nat.le_of_ble_eq_true rfl) (fun v4 h3 => ?_)
    refine r_istore_n (ls' := [(2, .int v4), (0, .ref (G.1 a0)), (1, .int a1)]) dX6_nextMember_17 rfl (by decide) rfl ?_
    exact r_sub [1, 2, 0] rfl (t_X6_nextMember_18 a0 a1 v4 ta0 h3)
def f_X6_goToShares_81 (kk13 : Nat → Int32 → Int32 → Int32 → Int32 → Int32 → Int32 → Int32 → Mem → Option (Int32 × Mem)) (a0 : Nat) (a1 : Int32) (a2 : Int32) (a3 : Int32) (a4 : Int32) (a5 : Int32) (a6 : Int32) (a7 : Int32) (h : Mem) : Option (Int32 × Mem) :=
  b2 (f_X6_shareBehind a0 a6 h) fun v2 h1 =>
  kk13 a0 a1 a2 a3 a4 a5 v2 (a7 + (1 : Int32)) h1
set_option maxRecDepth 20000 in
theorem t_X6_goToShares_81 {G : xG} (kk13 : Nat → Int32 → Int32 → Int32 → Int32 → Int32 → Int32 → Int32 → Mem → Option (Int32 × Mem)) (hk13 : ∀ (a0 : Nat) (a1 : Int32) (a2 : Int32) (a3 : Int32) (a4 : Int32) (a5 : Int32) (a6 : Int32) (a7 : Int32) (ta0 : xTy a0 5) (h : Mem), Rn G 4 FX6_goToShares xcI 13 [(0, .ref (G.1 a0)), (1, .int a1), (2, .int a2), (3, .int a3), (4, .int a4), (5, .int a5), (6, .int a6), (7, .int a7)] [] h (kk13 a0 a1 a2 a3 a4 a5 a6 a7 h)) (a0 : Nat) (a1 : Int32) (a2 : Int32) (a3 : Int32) (a4 : Int32) (a5 : Int32) (a6 : Int32) (a7 : Int32) (ta0 : xTy a0 5) (h : Mem) : Rn G 4 FX6_goToShares xcI 81 [(0, .ref (G.1 a0)), (1, .int a1), (2, .int a2), (3, .int a3), (4, .int a4), (5, .int a5), (6, .int a6), (7, .int a7)] [] h (f_X6_goToShares_81 kk13 a0 a1 a2 a3 a4 a5 a6 a7 h) := by
  unfold f_X6_goToShares_81
  refine r_aload_n (place := 0) dX6_goToShares_81 rfl rfl ?_
  refine r_iload (place := 6) dX6_goToShares_82 rfl ?_
  refine r_callVI (rest := []) dX6_goToShares_84 m_X6_shareBehind lk_X6_149 rfl (by decide) ta0 (c_X6_shareBehind a0 ta0 a6 h) (by decide) rfl rfl (Nat.le_of_ble_eq_true rfl) (fun v2 h1 => ?_)
  refine r_istore (ls' := [(6, .int v2), (0, .ref (G.1 a0)), (1, .int a1), (2, .int a2), (3, .int a3), (4, .int a4), (5, .int a5), (7, .int a7)]) dX6_goToShares_87 (by decide) rfl ?_
  refine r_iincC (place := 7) (ls' := [(7, .int (a7 + (1 : Int32))), (6, .int v2), (0, .ref (G.1 a0)), (1, .int a1), (2, .int a2), (3, .int a3), (4, .int a4), (5, .int a5)]) dX6_goToShares_89 rfl xc_1 (by decide) rfl ?_
  refine r_goto (tgt := 13) dX6_goToShares_92 (by decide) ?_
  exact r_sub [2, 3, 4, 5, 6, 7, 1, 0] rfl (hk13 a0 a1 a2 a3 a4 a5 v2 (a7 + (1 : Int32)) ta0 h1)
def f_X6_goToShares_13  : Nat → Nat → Int32 → Int32 → Int32 → Int32 → Int32 → Int32 → Int32 → Mem → Option (Int32 × Mem)
  | 0, _, _, _, _, _, _, _, _, _ => none
  | n + 1, a0, a1, a2, a3, a4, a5, a6, a7, h =>
    if (36 : Int32) ≤ a7 then
        some (a5, h)
    else
        if a6 ≤ 0 then
            some (a5, h)
        else
            b2 (f_X1_filterOf a6 h) fun v2 h1 =>
            b2 (f_X1_matches v2 a1 h1) fun v4 h3 =>
            if v4 = 0 then
                f_X6_goToShares_81 (f_X6_goToShares_13 n) a0 a1 a2 a3 a4 a5 a6 a7 h3
            else
                b2 (f_X6_nextMember a0 a6 h3) fun v6 h5 =>
                tg 0 v6 <|
                b2 (f_X0_findShare v6 a6 h5) fun v8 h7 =>
                b2 (f_X3_cell (xrf v6 0) v8 (1 : Int32) h7) fun v10 h9 =>
                b2 (f_X0_receive v6 a4 a2 (xmin a3 v10) (0 : Int32) h9) fun _ h11 =>
                f_X6_goToShares_81 (f_X6_goToShares_13 n) a0 a1 a2 a3 a4 (a5 + (1 : Int32)) a6 a7 h11
set_option maxRecDepth 20000 in
theorem t_X6_goToShares_13 {G : xG}  : ∀ (n : Nat) (a0 : Nat) (a1 : Int32) (a2 : Int32) (a3 : Int32) (a4 : Int32) (a5 : Int32) (a6 : Int32) (a7 : Int32) (ta0 : xTy a0 5) (h : Mem), Rn G 4 FX6_goToShares xcI 13 [(0, .ref (G.1 a0)), (1, .int a1), (2, .int a2), (3, .int a3), (4, .int a4), (5, .int a5), (6, .int a6), (7, .int a7)] [] h (f_X6_goToShares_13 n a0 a1 a2 a3 a4 a5 a6 a7 h) := by
  intro n
  induction n with
  | zero => intros; intro r hr; cases hr
  | succ n ih =>
    intro a0 a1 a2 a3 a4 a5 a6 a7 ta0 h
    unfold f_X6_goToShares_13
    refine r_iload (place := 7) dX6_goToShares_13 rfl ?_
    refine r_bipush dX6_goToShares_15 xb_36 ?_
    refine r_ic_ge (tgt := 95) dX6_goToShares_17 (by decide) ?_ ?_
    · refine r_iload (place := 5) dX6_goToShares_95 rfl ?_
      exact r_iret dX6_goToShares_97 rfl
    · refine r_iload (place := 6) dX6_goToShares_20 rfl ?_
      refine r_if_le (tgt := 95) dX6_goToShares_22 (by decide) ?_ ?_
      · refine r_iload (place := 5) dX6_goToShares_95 rfl ?_
        exact r_iret dX6_goToShares_97 rfl
      · refine r_iload (place := 6) dX6_goToShares_25 rfl ?_
        refine r_callSI (rest := []) dX6_goToShares_27 m_X1_filterOf lk_X6_152 (c_X1_filterOf a6 h) (by decide) rfl rfl (Nat.le_of_ble_eq_true rfl) (fun v2 h1 => ?_)
        refine r_iload_n (place := 1) dX6_goToShares_30 rfl rfl ?_
        refine r_callSI (rest := []) dX6_goToShares_31 m_X1_matches lk_X6_157 (c_X1_matches v2 a1 h1) (by decide) rfl rfl (Nat.le_of_ble_eq_true rfl) (fun v4 h3 => ?_)
        refine r_if_eq (tgt := 81) dX6_goToShares_34 (by decide) ?_ ?_
        · exact r_sub [0, 1, 2, 3, 4, 5, 6, 7] rfl (t_X6_goToShares_81 (f_X6_goToShares_13 n) ih a0 a1 a2 a3 a4 a5 a6 a7 ta0 h3)
        · refine r_aload_n (place := 0) dX6_goToShares_37 rfl rfl ?_
          refine r_iload (place := 6) dX6_goToShares_38 rfl ?_
          refine r_callVR (rest := []) dX6_goToShares_40 m_X6_nextMember lk_X6_161 rfl (by decide) ta0 (c_X6_nextMember a0 ta0 a6 h3) (by decide) rfl rfl (Nat.le_of_ble_eq_true rfl) (fun v6 h5 => ?_)
          refine r_tg (fun tv6 => ?_)
          refine r_astore (ls' := [(8, .ref (G.1 v6)), (0, .ref (G.1 a0)), (1, .int a1), (2, .int a2), (3, .int a3), (4, .int a4), (5, .int a5), (6, .int a6), (7, .int a7)]) dX6_goToShares_43 (by decide) rfl ?_
          refine r_aload (place := 0) dX6_goToShares_45 rfl ?_
          refine r_getR dX6_goToShares_47 fg_X6_165 tv6 ?_
          refine r_aload (place := 0) dX6_goToShares_50 rfl ?_
          refine r_iload (place := 7) dX6_goToShares_52 rfl ?_
          refine r_callVI (rest := [.ref (G.1 (xrf v6 0))]) dX6_goToShares_54 m_X0_findShare lk_X6_168 rfl (by decide) tv6 (c_X0_findShare v6 tv6 a6 h5) (by decide) rfl rfl (Nat.le_of_ble_eq_true rfl) (fun v8 h7 => ?_)
          refine r_iconst dX6_goToShares_57 xc_1 ?_
          refine r_callVI (rest := []) dX6_goToShares_58 m_X3_cell lk_X6_171 rfl (by decide) (xt_0_0 tv6) (c_X3_cell (xrf v6 0) (xt_0_0 tv6) v8 (1 : Int32) h7) (by decide) rfl rfl (Nat.le_of_ble_eq_true rfl) (fun v10 h9 => ?_)
          refine r_istore (ls' := [(9, .int v10), (8, .ref (G.1 v6)), (0, .ref (G.1 a0)), (1, .int a1), (2, .int a2), (3, .int a3), (4, .int a4), (5, .int a5), (6, .int a6), (7, .int a7)]) dX6_goToShares_61 (by decide) rfl ?_
          refine r_aload (place := 1) dX6_goToShares_63 rfl ?_
          refine r_iload (place := 6) dX6_goToShares_65 rfl ?_
          refine r_iload_n (place := 4) dX6_goToShares_67 rfl rfl ?_
          refine r_iload_n (place := 5) dX6_goToShares_68 rfl rfl ?_
          refine r_iload (place := 0) dX6_goToShares_69 rfl ?_
          refine r_mmin dX6_goToShares_71 sp_X6_140 (by decide) (Nat.le_of_ble_eq_true rfl) ?_
          refine r_iconst dX6_goToShares_74 xc_0 ?_
          refine r_callVV (rest := []) dX6_goToShares_75 m_X0_receive lk_X6_145 rfl (by decide) tv6 (c_X0_receive v6 tv6 a4 a2 (xmin a3 v10) (0 : Int32) h9) (by decide) rfl rfl (Nat.le_of_ble_eq_true rfl) (fun h11 => ?_)
          refine r_iincC (place := 7) (ls' := [(5, .int (a5 + (1 : Int32))), (9, .int v10), (8, .ref (G.1 v6)), (0, .ref (G.1 a0)), (1, .int a1), (2, .int a2), (3, .int a3), (4, .int a4), (6, .int a6), (7, .int a7)]) dX6_goToShares_78 rfl xc_1 (by decide) rfl ?_
          exact r_sub [3, 4, 5, 6, 7, 0, 8, 9] rfl (t_X6_goToShares_81 (f_X6_goToShares_13 n) ih a0 a1 a2 a3 a4 (a5 + (1 : Int32)) a6 a7 ta0 h11)
def f_X6_goToShares (a0 : Nat) (a1 : Int32) (a2 : Int32) (a3 : Int32) (a4 : Int32) (h : Mem) : Option (Int32 × Mem) :=
  b2 (f_X6_shareBehind a0 (0 : Int32) h) fun v2 h1 =>
  f_X6_goToShares_13 xFU a0 a1 a2 a3 a4 (0 : Int32) v2 (0 : Int32) h1
set_option maxRecDepth 20000 in
theorem c_X6_goToShares {G : xG} (a0 : Nat) (ta0 : xTy a0 5) (a1 : Int32) (a2 : Int32) (a3 : Int32) (a4 : Int32) (h : Mem) : Sm G 4 yX6_goToShares FX6_goToShares xcI [.ref (G.1 a0), .int a1, .int a2, .int a3, .int a4] h (f_X6_goToShares a0 a1 a2 a3 a4 h) := by
  refine Sm.of pn_X6 rfl (Nat.le_of_ble_eq_true rfl) (ls := [(0, .ref (G.1 a0)), (1, .int a1), (2, .int a2), (3, .int a3), (4, .int a4)]) rfl ?_
  unfold f_X6_goToShares
  refine r_iconst dX6_goToShares_0 xc_0 ?_
  refine r_istore (ls' := [(5, .int (0 : Int32)), (0, .ref (G.1 a0)), (1, .int a1), (2, .int a2), (3, .int a3), (4, .int a4)]) dX6_goToShares_1 (by decide) rfl ?_
  refine r_aload_n (place := 1) dX6_goToShares_3 rfl rfl ?_
  refine r_iconst dX6_goToShares_4 xc_0 ?_
  refine r_callVI (rest := []) dX6_goToShares_5 m_X6_shareBehind lk_X6_149 rfl (by decide) ta0 (c_X6_shareBehind a0 ta0 (0 : Int32) h) (by decide) rfl rfl (Nat.le_of_ble_eq_true rfl) (fun v2 h1 => ?_)
  refine r_istore (ls' := [(6, .int v2), (5, .int (0 : Int32)), (0, .ref (G.1 a0)), (1, .int a1), (2, .int a2), (3, .int a3), (4, .int a4)]) dX6_goToShares_8 (by decide) rfl ?_
  refine r_iconst dX6_goToShares_10 xc_0 ?_
  refine r_istore (ls' := [(7, .int (0 : Int32)), (6, .int v2), (5, .int (0 : Int32)), (0, .ref (G.1 a0)), (1, .int a1), (2, .int a2), (3, .int a3), (4, .int a4)]) dX6_goToShares_11 (by decide) rfl ?_
  exact r_sub [3, 4, 5, 6, 7, 2, 1, 0] rfl (t_X6_goToShares_13 xFU a0 a1 a2 a3 a4 (0 : Int32) v2 (0 : Int32) ta0 h1)
def f_X6_utter_55  (a0 : Nat) (a1 : Int32) (a2 : Int32) (a3 : Int32) (a5 : Int32) (h : Mem) : Option (Int32 × Mem) :=
  b2 (f_X6_goToSessions a0 a1 a2 a3 a5 h) fun v2 h1 =>
  b2 (f_X6_goToShares a0 a1 a2 a3 a5 h1) fun v4 h3 =>
  some ((v2 + v4), h3)
set_option maxRecDepth 20000 in
theorem t_X6_utter_55 {G : xG}  (a0 : Nat) (a1 : Int32) (a2 : Int32) (a3 : Int32) (a5 : Int32) (ta0 : xTy a0 5) (h : Mem) : Rn G 5 FX6_utter xcI 55 [(0, .ref (G.1 a0)), (1, .int a1), (2, .int a2), (3, .int a3), (5, .int a5)] [] h (f_X6_utter_55 a0 a1 a2 a3 a5 h) := by
  unfold f_X6_utter_55
  refine r_aload_n (place := 0) dX6_utter_55 rfl rfl ?_
  refine r_iload_n (place := 1) dX6_utter_56 rfl rfl ?_
  refine r_iload_n (place := 2) dX6_utter_57 rfl rfl ?_
  refine r_iload_n (place := 3) dX6_utter_58 rfl rfl ?_
  refine r_iload (place := 4) dX6_utter_59 rfl ?_
  refine r_callVI (rest := []) dX6_utter_61 m_X6_goToSessions lk_X6_117 rfl (by decide) ta0 (c_X6_goToSessions a0 ta0 a1 a2 a3 a5 h) (by decide) rfl rfl (Nat.le_of_ble_eq_true rfl) (fun v2 h1 => ?_)
  refine r_aload_n (place := 0) dX6_utter_64 rfl rfl ?_
  refine r_iload_n (place := 1) dX6_utter_65 rfl rfl ?_
  refine r_iload_n (place := 2) dX6_utter_66 rfl rfl ?_
  refine r_iload_n (place := 3) dX6_utter_67 rfl rfl ?_
  refine r_iload (place := 4) dX6_utter_68 rfl ?_
  refine r_callVI (rest := [.int v2]) dX6_utter_70 m_X6_goToShares lk_X6_121 rfl (by decide) ta0 (c_X6_goToShares a0 ta0 a1 a2 a3 a5 h1) (by decide) rfl rfl (Nat.le_of_ble_eq_true rfl) (fun v4 h3 => ?_)
  refine r_iadd dX6_utter_73 ?_
  exact r_iret dX6_utter_74 rfl
def f_X6_utter_37  (a0 : Nat) (a1 : Int32) (a2 : Int32) (a3 : Int32) (a4 : Int32) (a5 : Int32) (h : Mem) : Option (Int32 × Mem) :=
  if a4 = 0 then
      f_X6_utter_55 a0 a1 a2 a3 a5 h
  else
      if a2 ≤ 0 then
          f_X6_utter_55 a0 a1 a2 a3 a5 h
      else
          b2 (f_X6_addKept a0 a1 a2 a3 a5 h) fun _ h1 =>
          f_X6_utter_55 a0 a1 a2 a3 a5 h1
set_option maxRecDepth 20000 in
theorem t_X6_utter_37 {G : xG}  (a0 : Nat) (a1 : Int32) (a2 : Int32) (a3 : Int32) (a4 : Int32) (a5 : Int32) (ta0 : xTy a0 5) (h : Mem) : Rn G 5 FX6_utter xcI 37 [(0, .ref (G.1 a0)), (1, .int a1), (2, .int a2), (3, .int a3), (4, .int a4), (5, .int a5)] [] h (f_X6_utter_37 a0 a1 a2 a3 a4 a5 h) := by
  unfold f_X6_utter_37
  refine r_iload (place := 4) dX6_utter_37 rfl ?_
  refine r_if_eq (tgt := 55) dX6_utter_39 (by decide) ?_ ?_
  · exact r_sub [0, 1, 2, 3, 5] rfl (t_X6_utter_55 a0 a1 a2 a3 a5 ta0 h)
  · refine r_iload_n (place := 2) dX6_utter_42 rfl rfl ?_
    refine r_if_le (tgt := 55) dX6_utter_43 (by decide) ?_ ?_
    · exact r_sub [0, 1, 2, 3, 5] rfl (t_X6_utter_55 a0 a1 a2 a3 a5 ta0 h)
    · refine r_aload_n (place := 0) dX6_utter_46 rfl rfl ?_
      refine r_iload_n (place := 1) dX6_utter_47 rfl rfl ?_
      refine r_iload_n (place := 2) dX6_utter_48 rfl rfl ?_
      refine r_iload_n (place := 3) dX6_utter_49 rfl rfl ?_
      refine r_iload (place := 5) dX6_utter_50 rfl ?_
      refine r_callVV (rest := []) dX6_utter_52 m_X6_addKept lk_X6_113 rfl (by decide) ta0 (c_X6_addKept a0 ta0 a1 a2 a3 a5 h) (by decide) rfl rfl (Nat.le_of_ble_eq_true rfl) (fun h1 => ?_)
      exact r_sub [0, 1, 2, 3, 5] rfl (t_X6_utter_55 a0 a1 a2 a3 a5 ta0 h1)
def f_X6_utter (a0 : Nat) (a1 : Int32) (a2 : Int32) (a3 : Int32) (a4 : Int32) (h : Mem) : Option (Int32 × Mem) :=
  mlet (mu h a0 4 ((h a0 4) + (1 : Int32))) fun h1 =>
  if a4 = 0 then
      f_X6_utter_37 a0 a1 a2 a3 a4 (h a0 4) h1
  else
      b2 (f_X3_find (xrf a0 1) (0 : Int32) a1 h1) fun v3 h2 =>
      b2 (f_X3_remove (xrf a0 1) v3 h2) fun _ h4 =>
      f_X6_utter_37 a0 a1 a2 a3 a4 (h a0 4) h4
set_option maxRecDepth 20000 in
theorem c_X6_utter {G : xG} (a0 : Nat) (ta0 : xTy a0 5) (a1 : Int32) (a2 : Int32) (a3 : Int32) (a4 : Int32) (h : Mem) : Sm G 5 yX6_utter FX6_utter xcI [.ref (G.1 a0), .int a1, .int a2, .int a3, .int a4] h (f_X6_utter a0 a1 a2 a3 a4 h) := by
  refine Sm.of pn_X6 rfl (Nat.le_of_ble_eq_true rfl) (ls := [(0, .ref (G.1 a0)), (1, .int a1), (2, .int a2), (3, .int a3), (4, .int a4)]) rfl ?_
  unfold f_X6_utter
  refine r_aload_n (place := 0) dX6_utter_0 rfl rfl ?_
  refine r_getI dX6_utter_1 fg_X6_38 ta0 ?_
  refine r_istore (ls' := [(5, .int (h a0 4)), (0, .ref (G.1 a0)), (1, .int a1), (2, .int a2), (3, .int a3), (4, .int a4)]) dX6_utter_4 (by decide) rfl ?_
  refine r_aload_n (place := 1) dX6_utter_6 rfl rfl ?_
  refine r_dup dX6_utter_7 rfl ?_
  refine r_getI dX6_utter_8 fg_X6_38 ta0 ?_
  refine r_iconst dX6_utter_11 xc_1 ?_
  refine r_iadd dX6_utter_12 ?_
  refine r_putI dX6_utter_13 fp_X6_38 ta0 ?_
  refine r_mem (fun h1 => ?_)
  refine r_iload (place := 5) dX6_utter_16 rfl ?_
  refine r_if_eq (tgt := 37) dX6_utter_18 (by decide) ?_ ?_
  · exact r_sub [1, 2, 3, 4, 5, 0] rfl (t_X6_utter_37 a0 a1 a2 a3 a4 (h a0 4) ta0 h1)
  · refine r_aload_n (place := 1) dX6_utter_21 rfl rfl ?_
    refine r_getR dX6_utter_22 fg_X6_22 ta0 ?_
    refine r_aload_n (place := 1) dX6_utter_25 rfl rfl ?_
    refine r_getR dX6_utter_26 fg_X6_22 ta0 ?_
    refine r_iconst dX6_utter_29 xc_0 ?_
    refine r_iload_n (place := 2) dX6_utter_30 rfl rfl ?_
    refine r_callVI (rest := [.ref (G.1 (xrf a0 1))]) dX6_utter_31 m_X3_find lk_X6_106 rfl (by decide) (xt_5_1 ta0) (c_X3_find (xrf a0 1) (xt_5_1 ta0) (0 : Int32) a1 h1) (by decide) rfl rfl (Nat.le_of_ble_eq_true rfl) (fun v3 h2 => ?_)
    refine r_callVV (rest := []) dX6_utter_34 m_X3_remove lk_X6_110 rfl (by decide) (xt_5_1 ta0) (c_X3_remove (xrf a0 1) (xt_5_1 ta0) v3 h2) (by decide) rfl rfl (Nat.le_of_ble_eq_true rfl) (fun h4 => ?_)
    exact r_sub [1, 2, 3, 4, 5, 0] rfl (t_X6_utter_37 a0 a1 a2 a3 a4 (h a0 4) ta0 h4)
def f_X6_lull_83  (a0 : Nat) (a1 : Nat) (a3 : Int32) (h : Mem) : Option (Int32 × Mem) :=
  if (h a1 9) = 0 then
      b2 (f_X6_endSession a0 a1 h) fun _ h1 =>
      some (a3, h1)
  else
      some (a3, h)
set_option maxRecDepth 20000 in
theorem t_X6_lull_83 {G : xG}  (a0 : Nat) (a1 : Nat) (a3 : Int32) (ta0 : xTy a0 5) (ta1 : xTy a1 0) (h : Mem) : Rn G 6 FX6_lull xcI 83 [(0, .ref (G.1 a0)), (1, .ref (G.1 a1)), (3, .int a3)] [] h (f_X6_lull_83 a0 a1 a3 h) := by
  unfold f_X6_lull_83
  refine r_aload_n (place := 1) dX6_lull_83 rfl rfl ?_
  refine r_getI dX6_lull_84 fg_X6_70 ta1 ?_
  refine r_if_ne (tgt := 95) dX6_lull_87 (by decide) ?_ ?_
  · refine r_iload_n (place := 2) dX6_lull_95 rfl rfl ?_
    exact r_iret dX6_lull_96 rfl
  · refine r_aload_n (place := 0) dX6_lull_90 rfl rfl ?_
    refine r_aload_n (place := 1) dX6_lull_91 rfl rfl ?_
    refine r_callVV (rest := []) dX6_lull_92 m_X6_endSession lk_X6_51 rfl (by decide) ta0 (c_X6_endSession a0 ta0 a1 ta1 h) (by decide) rfl rfl (Nat.le_of_ble_eq_true rfl) (fun h1 => ?_)
    refine r_iload_n (place := 2) dX6_lull_95 rfl rfl ?_
    exact r_iret dX6_lull_96 rfl
def f_X6_lull_21  (a0 : Nat) (a1 : Nat) (a3 : Int32) (h : Mem) : Option (Int32 × Mem) :=
  b2 (f_X5_becomeDue (xrf a1 7) (h a0 3) (h a1 9) h) fun _ h1 =>
  b2 (f_X5_comesDue (xrf a1 7) (h1 a0 3) h1) fun v3 h2 =>
  if v3 = 0 then
      f_X6_lull_83 a0 a1 a3 h2
  else
      b2 (f_X6_utter a0 (h2 (xrf a1 7) 1) (h2 (xrf a1 7) 2) (h2 (xrf a1 7) 3) (h2 (xrf a1 7) 4) h2) fun v5 h4 =>
      f_X6_lull_83 a0 a1 v5 h4
set_option maxRecDepth 20000 in
theorem t_X6_lull_21 {G : xG}  (a0 : Nat) (a1 : Nat) (a3 : Int32) (ta0 : xTy a0 5) (ta1 : xTy a1 0) (h : Mem) : Rn G 6 FX6_lull xcI 21 [(0, .ref (G.1 a0)), (1, .ref (G.1 a1)), (3, .int a3)] [] h (f_X6_lull_21 a0 a1 a3 h) := by
  unfold f_X6_lull_21
  refine r_aload_n (place := 1) dX6_lull_21 rfl rfl ?_
  refine r_getR dX6_lull_22 fg_X6_61 ta1 ?_
  refine r_aload_n (place := 0) dX6_lull_25 rfl rfl ?_
  refine r_getI dX6_lull_26 fg_X6_34 ta0 ?_
  refine r_aload_n (place := 1) dX6_lull_29 rfl rfl ?_
  refine r_getI dX6_lull_30 fg_X6_70 ta1 ?_
  refine r_callVV (rest := []) dX6_lull_33 m_X5_becomeDue lk_X6_73 rfl (by decide) (xt_0_7 ta1) (c_X5_becomeDue (xrf a1 7) (xt_0_7 ta1) (h a0 3) (h a1 9) h) (by decide) rfl rfl (Nat.le_of_ble_eq_true rfl) (fun h1 => ?_)
  refine r_aload_n (place := 1) dX6_lull_36 rfl rfl ?_
  refine r_getR dX6_lull_37 fg_X6_61 ta1 ?_
  refine r_aload_n (place := 0) dX6_lull_40 rfl rfl ?_
  refine r_getI dX6_lull_41 fg_X6_34 ta0 ?_
  refine r_callVI (rest := []) dX6_lull_44 m_X5_comesDue lk_X6_76 rfl (by decide) (xt_0_7 ta1) (c_X5_comesDue (xrf a1 7) (xt_0_7 ta1) (h1 a0 3) h1) (by decide) rfl rfl (Nat.le_of_ble_eq_true rfl) (fun v3 h2 => ?_)
  refine r_if_eq (tgt := 83) dX6_lull_47 (by decide) ?_ ?_
  · exact r_sub [0, 1, 2] rfl (t_X6_lull_83 a0 a1 a3 ta0 ta1 h2)
  · refine r_aload_n (place := 0) dX6_lull_50 rfl rfl ?_
    refine r_aload_n (place := 1) dX6_lull_51 rfl rfl ?_
    refine r_getR dX6_lull_52 fg_X6_61 ta1 ?_
    refine r_getI dX6_lull_55 fg_X6_80 (xt_0_7 ta1) ?_
    refine r_aload_n (place := 1) dX6_lull_58 rfl rfl ?_
    refine r_getR dX6_lull_59 fg_X6_61 ta1 ?_
    refine r_getI dX6_lull_62 fg_X6_83 (xt_0_7 ta1) ?_
    refine r_aload_n (place := 1) dX6_lull_65 rfl rfl ?_
    refine r_getR dX6_lull_66 fg_X6_61 ta1 ?_
    refine r_getI dX6_lull_69 fg_X6_86 (xt_0_7 ta1) ?_
    refine r_aload_n (place := 1) dX6_lull_72 rfl rfl ?_
    refine r_getR dX6_lull_73 fg_X6_61 ta1 ?_
    refine r_getI dX6_lull_76 fg_X6_89 (xt_0_7 ta1) ?_
    refine r_callVI (rest := []) dX6_lull_79 m_X6_utter lk_X6_93 rfl (by decide) ta0 (c_X6_utter a0 ta0 (h2 (xrf a1 7) 1) (h2 (xrf a1 7) 2) (h2 (xrf a1 7) 3) (h2 (xrf a1 7) 4) h2) (by decide) rfl rfl (Nat.le_of_ble_eq_true rfl) (fun v5 h4 => ?_)
    refine r_istore_n (ls' := [(3, .int v5), (0, .ref (G.1 a0)), (1, .ref (G.1 a1))]) dX6_lull_82 rfl (by decide) rfl ?_
    exact r_sub [1, 2, 0] rfl (t_X6_lull_83 a0 a1 v5 ta0 ta1 h4)
def f_X6_lull (a0 : Nat) (a1 : Nat) (a2 : Int32) (h : Mem) : Option (Int32 × Mem) :=
  b2 (f_X0_fallAsleep a1 (h a0 3) h) fun _ h1 =>
  if a2 = 0 then
      b2 (f_X5_drop (xrf a1 7) h1) fun _ h2 =>
      f_X6_lull_21 a0 a1 (0 : Int32) h2
  else
      f_X6_lull_21 a0 a1 (0 : Int32) h1
set_option maxRecDepth 20000 in
theorem c_X6_lull {G : xG} (a0 : Nat) (ta0 : xTy a0 5) (a1 : Nat) (ta1 : xTy a1 0) (a2 : Int32) (h : Mem) : Sm G 6 yX6_lull FX6_lull xcI [.ref (G.1 a0), .ref (G.1 a1), .int a2] h (f_X6_lull a0 a1 a2 h) := by
  refine Sm.of pn_X6 rfl (Nat.le_of_ble_eq_true rfl) (ls := [(0, .ref (G.1 a0)), (1, .ref (G.1 a1)), (2, .int a2)]) rfl ?_
  unfold f_X6_lull
  refine r_aload_n (place := 1) dX6_lull_0 rfl rfl ?_
  refine r_aload_n (place := 0) dX6_lull_1 rfl rfl ?_
  refine r_getI dX6_lull_2 fg_X6_34 ta0 ?_
  refine r_callVV (rest := []) dX6_lull_5 m_X0_fallAsleep lk_X6_58 rfl (by decide) ta1 (c_X0_fallAsleep a1 ta1 (h a0 3) h) (by decide) rfl rfl (Nat.le_of_ble_eq_true rfl) (fun h1 => ?_)
  refine r_iconst dX6_lull_8 xc_0 ?_
  refine r_istore_n (ls' := [(3, .int (0 : Int32)), (0, .ref (G.1 a0)), (1, .ref (G.1 a1)), (2, .int a2)]) dX6_lull_9 rfl (by decide) rfl ?_
  refine r_iload_n (place := 3) dX6_lull_10 rfl rfl ?_
  refine r_if_ne (tgt := 21) dX6_lull_11 (by decide) ?_ ?_
  · exact r_sub [1, 2, 0] rfl (t_X6_lull_21 a0 a1 (0 : Int32) ta0 ta1 h1)
  · refine r_aload_n (place := 2) dX6_lull_14 rfl rfl ?_
    refine r_getR dX6_lull_15 fg_X6_61 ta1 ?_
    refine r_callVV (rest := []) dX6_lull_18 m_X5_drop lk_X6_65 rfl (by decide) (xt_0_7 ta1) (c_X5_drop (xrf a1 7) (xt_0_7 ta1) h1) (by decide) rfl rfl (Nat.le_of_ble_eq_true rfl) (fun h2 => ?_)
    exact r_sub [1, 2, 0] rfl (t_X6_lull_21 a0 a1 (0 : Int32) ta0 ta1 h2)
def f_X6_passTick_101 (kk14 : Nat → Int32 → Int32 → Mem → Option (Int32 × Mem)) (a0 : Nat) (a1 : Int32) (a2 : Int32) (h : Mem) : Option (Int32 × Mem) :=
  kk14 a0 a1 (a2 + (1 : Int32)) h
set_option maxRecDepth 20000 in
theorem t_X6_passTick_101 {G : xG} (kk14 : Nat → Int32 → Int32 → Mem → Option (Int32 × Mem)) (hk14 : ∀ (a0 : Nat) (a1 : Int32) (a2 : Int32) (ta0 : xTy a0 5) (h : Mem), Rn G 6 FX6_passTick xcI 14 [(0, .ref (G.1 a0)), (1, .int a1), (2, .int a2)] [] h (kk14 a0 a1 a2 h)) (a0 : Nat) (a1 : Int32) (a2 : Int32) (ta0 : xTy a0 5) (h : Mem) : Rn G 6 FX6_passTick xcI 101 [(0, .ref (G.1 a0)), (1, .int a1), (2, .int a2)] [] h (f_X6_passTick_101 kk14 a0 a1 a2 h) := by
  unfold f_X6_passTick_101
  refine r_iincC (place := 2) (ls' := [(2, .int (a2 + (1 : Int32))), (0, .ref (G.1 a0)), (1, .int a1)]) dX6_passTick_101 rfl xc_1 (by decide) rfl ?_
  refine r_goto (tgt := 14) dX6_passTick_104 (by decide) ?_
  exact r_sub [1, 2, 0] rfl (hk14 a0 a1 (a2 + (1 : Int32)) ta0 h)
def f_X6_passTick_77 (kk14 : Nat → Int32 → Int32 → Mem → Option (Int32 × Mem)) (a0 : Nat) (a1 : Int32) (a2 : Int32) (a3 : Nat) (h : Mem) : Option (Int32 × Mem) :=
  if (h a3 8) = (2 : Int32) then
      if (h a3 10) = (h a0 3) then
          b2 (f_X6_endSession a0 a3 h) fun _ h1 =>
          f_X6_passTick_101 kk14 a0 a1 a2 h1
      else
          f_X6_passTick_101 kk14 a0 a1 a2 h
  else
      f_X6_passTick_101 kk14 a0 a1 a2 h
set_option maxRecDepth 20000 in
theorem t_X6_passTick_77 {G : xG} (kk14 : Nat → Int32 → Int32 → Mem → Option (Int32 × Mem)) (hk14 : ∀ (a0 : Nat) (a1 : Int32) (a2 : Int32) (ta0 : xTy a0 5) (h : Mem), Rn G 6 FX6_passTick xcI 14 [(0, .ref (G.1 a0)), (1, .int a1), (2, .int a2)] [] h (kk14 a0 a1 a2 h)) (a0 : Nat) (a1 : Int32) (a2 : Int32) (a3 : Nat) (ta0 : xTy a0 5) (ta3 : xTy a3 0) (h : Mem) : Rn G 6 FX6_passTick xcI 77 [(0, .ref (G.1 a0)), (1, .int a1), (2, .int a2), (3, .ref (G.1 a3))] [] h (f_X6_passTick_77 kk14 a0 a1 a2 a3 h) := by
  unfold f_X6_passTick_77
  refine r_aload_n (place := 3) dX6_passTick_77 rfl rfl ?_
  refine r_getI dX6_passTick_78 fg_X6_48 ta3 ?_
  refine r_iconst dX6_passTick_81 xc_2 ?_
  refine r_ic_ne (tgt := 101) dX6_passTick_82 (by decide) ?_ ?_
  · exact r_sub [0, 1, 2] rfl (t_X6_passTick_101 kk14 hk14 a0 a1 a2 ta0 h)
  · refine r_aload_n (place := 3) dX6_passTick_85 rfl rfl ?_
    refine r_getI dX6_passTick_86 fg_X6_103 ta3 ?_
    refine r_aload_n (place := 0) dX6_passTick_89 rfl rfl ?_
    refine r_getI dX6_passTick_90 fg_X6_34 ta0 ?_
    refine r_ic_ne (tgt := 101) dX6_passTick_93 (by decide) ?_ ?_
    · exact r_sub [0, 1, 2] rfl (t_X6_passTick_101 kk14 hk14 a0 a1 a2 ta0 h)
    · refine r_aload_n (place := 0) dX6_passTick_96 rfl rfl ?_
      refine r_aload_n (place := 3) dX6_passTick_97 rfl rfl ?_
      refine r_callVV (rest := []) dX6_passTick_98 m_X6_endSession lk_X6_51 rfl (by decide) ta0 (c_X6_endSession a0 ta0 a3 ta3 h) (by decide) rfl rfl (Nat.le_of_ble_eq_true rfl) (fun h1 => ?_)
      exact r_sub [0, 1, 2] rfl (t_X6_passTick_101 kk14 hk14 a0 a1 a2 ta0 h1)
def f_X6_passTick_14  : Nat → Nat → Int32 → Int32 → Mem → Option (Int32 × Mem)
  | 0, _, _, _, _ => none
  | n + 1, a0, a1, a2, h =>
    if (6 : Int32) ≤ a2 then
        some (a1, h)
    else
        aald (xrf a0 0) a2 fun q1 =>
        b2 (f_X5_comesDue (xrf q1 7) (h a0 3) h) fun v3 h2 =>
        if v3 = 0 then
            f_X6_passTick_77 (f_X6_passTick_14 n) a0 a1 a2 q1 h2
        else
            b2 (f_X6_utter a0 (h2 (xrf q1 7) 1) (h2 (xrf q1 7) 2) (h2 (xrf q1 7) 3) (h2 (xrf q1 7) 4) h2) fun v5 h4 =>
            f_X6_passTick_77 (f_X6_passTick_14 n) a0 (a1 + (1 : Int32)) a2 q1 h4
set_option maxRecDepth 20000 in
theorem t_X6_passTick_14 {G : xG}  : ∀ (n : Nat) (a0 : Nat) (a1 : Int32) (a2 : Int32) (ta0 : xTy a0 5) (h : Mem), Rn G 6 FX6_passTick xcI 14 [(0, .ref (G.1 a0)), (1, .int a1), (2, .int a2)] [] h (f_X6_passTick_14 n a0 a1 a2 h) := by
  intro n
  induction n with
  | zero => intros; intro r hr; cases hr
  | succ n ih =>
    intro a0 a1 a2 ta0 h
    unfold f_X6_passTick_14
    refine r_iload_n (place := 2) dX6_passTick_14 rfl rfl ?_
    refine r_bipush dX6_passTick_15 xb_6 ?_
    refine r_ic_ge (tgt := 107) dX6_passTick_17 (by decide) ?_ ?_
    · refine r_iload_n (place := 1) dX6_passTick_107 rfl rfl ?_
      exact r_iret dX6_passTick_108 rfl
    · refine r_aload_n (place := 0) dX6_passTick_20 rfl rfl ?_
      refine r_getR dX6_passTick_21 fg_X6_11 ta0 ?_
      refine r_iload_n (place := 2) dX6_passTick_24 rfl rfl ?_
      refine r_aald10 dX6_passTick_25 (xt_5_0 ta0) (fun q1 tq1 => ?_)
      refine r_astore_n (ls' := [(3, .ref (G.1 q1)), (0, .ref (G.1 a0)), (1, .int a1), (2, .int a2)]) dX6_passTick_26 rfl (by decide) rfl ?_
      refine r_aload_n (place := 0) dX6_passTick_27 rfl rfl ?_
      refine r_getR dX6_passTick_28 fg_X6_61 tq1 ?_
      refine r_aload_n (place := 1) dX6_passTick_31 rfl rfl ?_
      refine r_getI dX6_passTick_32 fg_X6_34 ta0 ?_
      refine r_callVI (rest := []) dX6_passTick_35 m_X5_comesDue lk_X6_76 rfl (by decide) (xt_0_7 tq1) (c_X5_comesDue (xrf q1 7) (xt_0_7 tq1) (h a0 3) h) (by decide) rfl rfl (Nat.le_of_ble_eq_true rfl) (fun v3 h2 => ?_)
      refine r_if_eq (tgt := 77) dX6_passTick_38 (by decide) ?_ ?_
      · exact r_sub [1, 2, 3, 0] rfl (t_X6_passTick_77 (f_X6_passTick_14 n) ih a0 a1 a2 q1 ta0 tq1 h2)
      · refine r_aload_n (place := 1) dX6_passTick_41 rfl rfl ?_
        refine r_aload_n (place := 0) dX6_passTick_42 rfl rfl ?_
        refine r_getR dX6_passTick_43 fg_X6_61 tq1 ?_
        refine r_getI dX6_passTick_46 fg_X6_80 (xt_0_7 tq1) ?_
        refine r_aload_n (place := 0) dX6_passTick_49 rfl rfl ?_
        refine r_getR dX6_passTick_50 fg_X6_61 tq1 ?_
        refine r_getI dX6_passTick_53 fg_X6_83 (xt_0_7 tq1) ?_
        refine r_aload_n (place := 0) dX6_passTick_56 rfl rfl ?_
        refine r_getR dX6_passTick_57 fg_X6_61 tq1 ?_
        refine r_getI dX6_passTick_60 fg_X6_86 (xt_0_7 tq1) ?_
        refine r_aload_n (place := 0) dX6_passTick_63 rfl rfl ?_
        refine r_getR dX6_passTick_64 fg_X6_61 tq1 ?_
        refine r_getI dX6_passTick_67 fg_X6_89 (xt_0_7 tq1) ?_
        refine r_callVI (rest := []) dX6_passTick_70 m_X6_utter lk_X6_93 rfl (by decide) ta0 (c_X6_utter a0 ta0 (h2 (xrf q1 7) 1) (h2 (xrf q1 7) 2) (h2 (xrf q1 7) 3) (h2 (xrf q1 7) 4) h2) (by decide) rfl rfl (Nat.le_of_ble_eq_true rfl) (fun v5 h4 => ?_)
        refine r_pop dX6_passTick_73 rfl ?_
        refine r_iincC (place := 2) (ls' := [(1, .int (a1 + (1 : Int32))), (3, .ref (G.1 q1)), (0, .ref (G.1 a0)), (2, .int a2)]) dX6_passTick_74 rfl xc_1 (by decide) rfl ?_
        exact r_sub [2, 0, 3, 1] rfl (t_X6_passTick_77 (f_X6_passTick_14 n) ih a0 (a1 + (1 : Int32)) a2 q1 ta0 tq1 h4)
def f_X6_passTick (a0 : Nat) (h : Mem) : Option (Int32 × Mem) :=
  mlet (mu h a0 3 ((h a0 3) + (1 : Int32))) fun h1 =>
  f_X6_passTick_14 xFU a0 (0 : Int32) (0 : Int32) h1
set_option maxRecDepth 20000 in
theorem c_X6_passTick {G : xG} (a0 : Nat) (ta0 : xTy a0 5) (h : Mem) : Sm G 6 yX6_passTick FX6_passTick xcI [.ref (G.1 a0)] h (f_X6_passTick a0 h) := by
  refine Sm.of pn_X6 rfl (Nat.le_of_ble_eq_true rfl) (ls := [(0, .ref (G.1 a0))]) rfl ?_
  unfold f_X6_passTick
  refine r_aload_n (place := 0) dX6_passTick_0 rfl rfl ?_
  refine r_dup dX6_passTick_1 rfl ?_
  refine r_getI dX6_passTick_2 fg_X6_34 ta0 ?_
  refine r_iconst dX6_passTick_5 xc_1 ?_
  refine r_iadd dX6_passTick_6 ?_
  refine r_putI dX6_passTick_7 fp_X6_34 ta0 ?_
  refine r_mem (fun h1 => ?_)
  refine r_iconst dX6_passTick_10 xc_0 ?_
  refine r_istore_n (ls' := [(1, .int (0 : Int32)), (0, .ref (G.1 a0))]) dX6_passTick_11 rfl (by decide) rfl ?_
  refine r_iconst dX6_passTick_12 xc_0 ?_
  refine r_istore_n (ls' := [(2, .int (0 : Int32)), (1, .int (0 : Int32)), (0, .ref (G.1 a0))]) dX6_passTick_13 rfl (by decide) rfl ?_
  exact r_sub [2, 1, 0] rfl (t_X6_passTick_14 xFU a0 (0 : Int32) (0 : Int32) ta0 h1)
def f_X6_countShares_10  : Nat → Nat → Int32 → Int32 → Int32 → Mem → Option (Int32 × Mem)
  | 0, _, _, _, _, _ => none
  | n + 1, a0, a1, a2, a3, h =>
    if (36 : Int32) ≤ a3 then
        some (a1, h)
    else
        if a2 ≤ 0 then
            some (a1, h)
        else
            b2 (f_X6_shareBehind a0 a2 h) fun v2 h1 =>
            (f_X6_countShares_10 n) a0 (a1 + (1 : Int32)) v2 (a3 + (1 : Int32)) h1
set_option maxRecDepth 20000 in
theorem t_X6_countShares_10 {G : xG}  : ∀ (n : Nat) (a0 : Nat) (a1 : Int32) (a2 : Int32) (a3 : Int32) (ta0 : xTy a0 5) (h : Mem), Rn G 2 FX6_countShares xcI 10 [(0, .ref (G.1 a0)), (1, .int a1), (2, .int a2), (3, .int a3)] [] h (f_X6_countShares_10 n a0 a1 a2 a3 h) := by
  intro n
  induction n with
  | zero => intros; intro r hr; cases hr
  | succ n ih =>
    intro a0 a1 a2 a3 ta0 h
    unfold f_X6_countShares_10
    refine r_iload_n (place := 3) dX6_countShares_10 rfl rfl ?_
    refine r_bipush dX6_countShares_11 xb_36 ?_
    refine r_ic_ge (tgt := 35) dX6_countShares_13 (by decide) ?_ ?_
    · refine r_iload_n (place := 1) dX6_countShares_35 rfl rfl ?_
      exact r_iret dX6_countShares_36 rfl
    · refine r_iload_n (place := 2) dX6_countShares_16 rfl rfl ?_
      refine r_if_le (tgt := 35) dX6_countShares_17 (by decide) ?_ ?_
      · refine r_iload_n (place := 1) dX6_countShares_35 rfl rfl ?_
        exact r_iret dX6_countShares_36 rfl
      · refine r_iincC (place := 1) (ls' := [(1, .int (a1 + (1 : Int32))), (0, .ref (G.1 a0)), (2, .int a2), (3, .int a3)]) dX6_countShares_20 rfl xc_1 (by decide) rfl ?_
        refine r_aload_n (place := 1) dX6_countShares_23 rfl rfl ?_
        refine r_iload_n (place := 2) dX6_countShares_24 rfl rfl ?_
        refine r_callVI (rest := []) dX6_countShares_25 m_X6_shareBehind lk_X6_149 rfl (by decide) ta0 (c_X6_shareBehind a0 ta0 a2 h) (by decide) rfl rfl (Nat.le_of_ble_eq_true rfl) (fun v2 h1 => ?_)
        refine r_istore_n (ls' := [(2, .int v2), (1, .int (a1 + (1 : Int32))), (0, .ref (G.1 a0)), (3, .int a3)]) dX6_countShares_28 rfl (by decide) rfl ?_
        refine r_iincC (place := 3) (ls' := [(3, .int (a3 + (1 : Int32))), (2, .int v2), (1, .int (a1 + (1 : Int32))), (0, .ref (G.1 a0))]) dX6_countShares_29 rfl xc_1 (by decide) rfl ?_
        refine r_goto (tgt := 10) dX6_countShares_32 (by decide) ?_
        exact r_sub [3, 2, 1, 0] rfl (ih a0 (a1 + (1 : Int32)) v2 (a3 + (1 : Int32)) ta0 h1)
def f_X6_countShares (a0 : Nat) (h : Mem) : Option (Int32 × Mem) :=
  b2 (f_X6_shareBehind a0 (0 : Int32) h) fun v2 h1 =>
  f_X6_countShares_10 xFU a0 (0 : Int32) v2 (0 : Int32) h1
set_option maxRecDepth 20000 in
theorem c_X6_countShares {G : xG} (a0 : Nat) (ta0 : xTy a0 5) (h : Mem) : Sm G 2 yX6_countShares FX6_countShares xcI [.ref (G.1 a0)] h (f_X6_countShares a0 h) := by
  refine Sm.of pn_X6 rfl (Nat.le_of_ble_eq_true rfl) (ls := [(0, .ref (G.1 a0))]) rfl ?_
  unfold f_X6_countShares
  refine r_iconst dX6_countShares_0 xc_0 ?_
  refine r_istore_n (ls' := [(1, .int (0 : Int32)), (0, .ref (G.1 a0))]) dX6_countShares_1 rfl (by decide) rfl ?_
  refine r_aload_n (place := 1) dX6_countShares_2 rfl rfl ?_
  refine r_iconst dX6_countShares_3 xc_0 ?_
  refine r_callVI (rest := []) dX6_countShares_4 m_X6_shareBehind lk_X6_149 rfl (by decide) ta0 (c_X6_shareBehind a0 ta0 (0 : Int32) h) (by decide) rfl rfl (Nat.le_of_ble_eq_true rfl) (fun v2 h1 => ?_)
  refine r_istore_n (ls' := [(2, .int v2), (1, .int (0 : Int32)), (0, .ref (G.1 a0))]) dX6_countShares_7 rfl (by decide) rfl ?_
  refine r_iconst dX6_countShares_8 xc_0 ?_
  refine r_istore_n (ls' := [(3, .int (0 : Int32)), (2, .int v2), (1, .int (0 : Int32)), (0, .ref (G.1 a0))]) dX6_countShares_9 rfl (by decide) rfl ?_
  exact r_sub [3, 2, 1, 0] rfl (t_X6_countShares_10 xFU a0 (0 : Int32) v2 (0 : Int32) ta0 h1)
def f_X6_goKept_81 (kk6 : Nat → Nat → Int32 → Int32 → Int32 → Int32 → Mem → Option (Int32 × Mem)) (a0 : Nat) (a1 : Nat) (a2 : Int32) (a3 : Int32) (a4 : Int32) (a5 : Int32) (h : Mem) : Option (Int32 × Mem) :=
  kk6 a0 a1 a2 a3 a4 (a5 + (1 : Int32)) h
set_option maxRecDepth 20000 in
theorem t_X6_goKept_81 {G : xG} (kk6 : Nat → Nat → Int32 → Int32 → Int32 → Int32 → Mem → Option (Int32 × Mem)) (hk6 : ∀ (a0 : Nat) (a1 : Nat) (a2 : Int32) (a3 : Int32) (a4 : Int32) (a5 : Int32) (ta0 : xTy a0 5) (ta1 : xTy a1 0) (h : Mem), Rn G 4 FX6_goKept xcI 6 [(0, .ref (G.1 a0)), (1, .ref (G.1 a1)), (2, .int a2), (3, .int a3), (4, .int a4), (5, .int a5)] [] h (kk6 a0 a1 a2 a3 a4 a5 h)) (a0 : Nat) (a1 : Nat) (a2 : Int32) (a3 : Int32) (a4 : Int32) (a5 : Int32) (ta0 : xTy a0 5) (ta1 : xTy a1 0) (h : Mem) : Rn G 4 FX6_goKept xcI 81 [(0, .ref (G.1 a0)), (1, .ref (G.1 a1)), (2, .int a2), (3, .int a3), (4, .int a4), (5, .int a5)] [] h (f_X6_goKept_81 kk6 a0 a1 a2 a3 a4 a5 h) := by
  unfold f_X6_goKept_81
  refine r_iincC (place := 5) (ls' := [(5, .int (a5 + (1 : Int32))), (0, .ref (G.1 a0)), (1, .ref (G.1 a1)), (2, .int a2), (3, .int a3), (4, .int a4)]) dX6_goKept_81 rfl xc_1 (by decide) rfl ?_
  refine r_goto (tgt := 6) dX6_goKept_84 (by decide) ?_
  exact r_sub [1, 2, 3, 4, 5, 0] rfl (hk6 a0 a1 a2 a3 a4 (a5 + (1 : Int32)) ta0 ta1 h)
def f_X6_goKept_6  : Nat → Nat → Nat → Int32 → Int32 → Int32 → Int32 → Mem → Option (Int32 × Mem)
  | 0, _, _, _, _, _, _, _ => none
  | n + 1, a0, a1, a2, a3, a4, a5, h =>
    if (h (xrf a0 1) 3) ≤ a5 then
        some (a4, h)
    else
        b2 (f_X3_cell (xrf a0 1) a5 (0 : Int32) h) fun v2 h1 =>
        b2 (f_X1_matches a2 v2 h1) fun v4 h3 =>
        if v4 = 0 then
            f_X6_goKept_81 (f_X6_goKept_6 n) a0 a1 a2 a3 a4 a5 h3
        else
            b2 (f_X3_cell (xrf a0 1) a5 (2 : Int32) h3) fun v6 h5 =>
            b2 (f_X3_cell (xrf a0 1) a5 (3 : Int32) h5) fun v8 h7 =>
            b2 (f_X3_cell (xrf a0 1) a5 (1 : Int32) h7) fun v10 h9 =>
            b2 (f_X0_receive a1 v8 v10 (xmin a3 v6) (1 : Int32) h9) fun _ h11 =>
            f_X6_goKept_81 (f_X6_goKept_6 n) a0 a1 a2 a3 (a4 + (1 : Int32)) a5 h11
set_option maxRecDepth 20000 in
theorem t_X6_goKept_6 {G : xG}  : ∀ (n : Nat) (a0 : Nat) (a1 : Nat) (a2 : Int32) (a3 : Int32) (a4 : Int32) (a5 : Int32) (ta0 : xTy a0 5) (ta1 : xTy a1 0) (h : Mem), Rn G 4 FX6_goKept xcI 6 [(0, .ref (G.1 a0)), (1, .ref (G.1 a1)), (2, .int a2), (3, .int a3), (4, .int a4), (5, .int a5)] [] h (f_X6_goKept_6 n a0 a1 a2 a3 a4 a5 h) := by
  intro n
  induction n with
  | zero => intros; intro r hr; cases hr
  | succ n ih =>
    intro a0 a1 a2 a3 a4 a5 ta0 ta1 h
    unfold f_X6_goKept_6
    refine r_iload (place := 5) dX6_goKept_6 rfl ?_
    refine r_aload_n (place := 0) dX6_goKept_8 rfl rfl ?_
    refine r_getR dX6_goKept_9 fg_X6_22 ta0 ?_
    refine r_getI dX6_goKept_12 fg_X6_174 (xt_5_1 ta0) ?_
    refine r_ic_ge (tgt := 87) dX6_goKept_15 (by decide) ?_ ?_
    · refine r_iload (place := 4) dX6_goKept_87 rfl ?_
      exact r_iret dX6_goKept_89 rfl
    · refine r_iload_n (place := 2) dX6_goKept_18 rfl rfl ?_
      refine r_aload_n (place := 0) dX6_goKept_19 rfl rfl ?_
      refine r_getR dX6_goKept_20 fg_X6_22 ta0 ?_
      refine r_iload (place := 5) dX6_goKept_23 rfl ?_
      refine r_iconst dX6_goKept_25 xc_0 ?_
      refine r_callVI (rest := [.int a2]) dX6_goKept_26 m_X3_cell lk_X6_171 rfl (by decide) (xt_5_1 ta0) (c_X3_cell (xrf a0 1) (xt_5_1 ta0) a5 (0 : Int32) h) (by decide) rfl rfl (Nat.le_of_ble_eq_true rfl) (fun v2 h1 => ?_)
      refine r_callSI (rest := []) dX6_goKept_29 m_X1_matches lk_X6_157 (c_X1_matches a2 v2 h1) (by decide) rfl rfl (Nat.le_of_ble_eq_true rfl) (fun v4 h3 => ?_)
      refine r_if_eq (tgt := 81) dX6_goKept_32 (by decide) ?_ ?_
      · exact r_sub [0, 1, 2, 3, 4, 5] rfl (t_X6_goKept_81 (f_X6_goKept_6 n) ih a0 a1 a2 a3 a4 a5 ta0 ta1 h3)
      · refine r_iload_n (place := 3) dX6_goKept_35 rfl rfl ?_
        refine r_aload_n (place := 0) dX6_goKept_36 rfl rfl ?_
        refine r_getR dX6_goKept_37 fg_X6_22 ta0 ?_
        refine r_iload (place := 5) dX6_goKept_40 rfl ?_
        refine r_iconst dX6_goKept_42 xc_2 ?_
        refine r_callVI (rest := [.int a3]) dX6_goKept_43 m_X3_cell lk_X6_171 rfl (by decide) (xt_5_1 ta0) (c_X3_cell (xrf a0 1) (xt_5_1 ta0) a5 (2 : Int32) h3) (by decide) rfl rfl (Nat.le_of_ble_eq_true rfl) (fun v6 h5 => ?_)
        refine r_mmin dX6_goKept_46 sp_X6_140 (by decide) (Nat.le_of_ble_eq_true rfl) ?_
        refine r_istore (ls' := [(6, .int (xmin a3 v6)), (0, .ref (G.1 a0)), (1, .ref (G.1 a1)), (2, .int a2), (3, .int a3), (4, .int a4), (5, .int a5)]) dX6_goKept_49 (by decide) rfl ?_
        refine r_aload_n (place := 2) dX6_goKept_51 rfl rfl ?_
        refine r_aload_n (place := 1) dX6_goKept_52 rfl rfl ?_
        refine r_getR dX6_goKept_53 fg_X6_22 ta0 ?_
        refine r_iload (place := 6) dX6_goKept_56 rfl ?_
        refine r_iconst dX6_goKept_58 xc_3 ?_
        refine r_callVI (rest := [.ref (G.1 a1)]) dX6_goKept_59 m_X3_cell lk_X6_171 rfl (by decide) (xt_5_1 ta0) (c_X3_cell (xrf a0 1) (xt_5_1 ta0) a5 (3 : Int32) h5) (by decide) rfl rfl (Nat.le_of_ble_eq_true rfl) (fun v8 h7 => ?_)
        refine r_aload_n (place := 1) dX6_goKept_62 rfl rfl ?_
        refine r_getR dX6_goKept_63 fg_X6_22 ta0 ?_
        refine r_iload (place := 6) dX6_goKept_66 rfl ?_
        refine r_iconst dX6_goKept_68 xc_1 ?_
        refine r_callVI (rest := [.int v8, .ref (G.1 a1)]) dX6_goKept_69 m_X3_cell lk_X6_171 rfl (by decide) (xt_5_1 ta0) (c_X3_cell (xrf a0 1) (xt_5_1 ta0) a5 (1 : Int32) h7) (by decide) rfl rfl (Nat.le_of_ble_eq_true rfl) (fun v10 h9 => ?_)
        refine r_iload (place := 0) dX6_goKept_72 rfl ?_
        refine r_iconst dX6_goKept_74 xc_1 ?_
        refine r_callVV (rest := []) dX6_goKept_75 m_X0_receive lk_X6_145 rfl (by decide) ta1 (c_X0_receive a1 ta1 v8 v10 (xmin a3 v6) (1 : Int32) h9) (by decide) rfl rfl (Nat.le_of_ble_eq_true rfl) (fun h11 => ?_)
        refine r_iincC (place := 5) (ls' := [(4, .int (a4 + (1 : Int32))), (6, .int (xmin a3 v6)), (0, .ref (G.1 a0)), (1, .ref (G.1 a1)), (2, .int a2), (3, .int a3), (5, .int a5)]) dX6_goKept_78 rfl xc_1 (by decide) rfl ?_
        exact r_sub [2, 3, 4, 5, 0, 6] rfl (t_X6_goKept_81 (f_X6_goKept_6 n) ih a0 a1 a2 a3 (a4 + (1 : Int32)) a5 ta0 ta1 h11)
def f_X6_goKept (a0 : Nat) (a1 : Nat) (a2 : Int32) (a3 : Int32) (h : Mem) : Option (Int32 × Mem) :=
  f_X6_goKept_6 xFU a0 a1 a2 a3 (0 : Int32) (0 : Int32) h
set_option maxRecDepth 20000 in
theorem c_X6_goKept {G : xG} (a0 : Nat) (ta0 : xTy a0 5) (a1 : Nat) (ta1 : xTy a1 0) (a2 : Int32) (a3 : Int32) (h : Mem) : Sm G 4 yX6_goKept FX6_goKept xcI [.ref (G.1 a0), .ref (G.1 a1), .int a2, .int a3] h (f_X6_goKept a0 a1 a2 a3 h) := by
  refine Sm.of pn_X6 rfl (Nat.le_of_ble_eq_true rfl) (ls := [(0, .ref (G.1 a0)), (1, .ref (G.1 a1)), (2, .int a2), (3, .int a3)]) rfl ?_
  unfold f_X6_goKept
  refine r_iconst dX6_goKept_0 xc_0 ?_
  refine r_istore (ls' := [(4, .int (0 : Int32)), (0, .ref (G.1 a0)), (1, .ref (G.1 a1)), (2, .int a2), (3, .int a3)]) dX6_goKept_1 (by decide) rfl ?_
  refine r_iconst dX6_goKept_3 xc_0 ?_
  refine r_istore (ls' := [(5, .int (0 : Int32)), (4, .int (0 : Int32)), (0, .ref (G.1 a0)), (1, .ref (G.1 a1)), (2, .int a2), (3, .int a3)]) dX6_goKept_4 (by decide) rfl ?_
  exact r_sub [2, 3, 4, 5, 1, 0] rfl (t_X6_goKept_6 xFU a0 a1 a2 a3 (0 : Int32) (0 : Int32) ta0 ta1 h)
def f_X6_total_85 (kk4 : Nat → Int32 → Int32 → Int32 → Mem → Option (Int32 × Mem)) (a0 : Nat) (a1 : Int32) (a2 : Int32) (a3 : Int32) (h : Mem) : Option (Int32 × Mem) :=
  kk4 a0 a1 a2 (a3 + (1 : Int32)) h
set_option maxRecDepth 20000 in
theorem t_X6_total_85 {G : xG} (kk4 : Nat → Int32 → Int32 → Int32 → Mem → Option (Int32 × Mem)) (hk4 : ∀ (a0 : Nat) (a1 : Int32) (a2 : Int32) (a3 : Int32) (ta0 : xTy a0 5) (h : Mem), Rn G 0 FX6_total xcI 4 [(0, .ref (G.1 a0)), (1, .int a1), (2, .int a2), (3, .int a3)] [] h (kk4 a0 a1 a2 a3 h)) (a0 : Nat) (a1 : Int32) (a2 : Int32) (a3 : Int32) (ta0 : xTy a0 5) (h : Mem) : Rn G 0 FX6_total xcI 85 [(0, .ref (G.1 a0)), (1, .int a1), (2, .int a2), (3, .int a3)] [] h (f_X6_total_85 kk4 a0 a1 a2 a3 h) := by
  unfold f_X6_total_85
  refine r_iincC (place := 3) (ls' := [(3, .int (a3 + (1 : Int32))), (0, .ref (G.1 a0)), (1, .int a1), (2, .int a2)]) dX6_total_85 rfl xc_1 (by decide) rfl ?_
  refine r_goto (tgt := 4) dX6_total_88 (by decide) ?_
  exact r_sub [1, 2, 3, 0] rfl (hk4 a0 a1 a2 (a3 + (1 : Int32)) ta0 h)
def f_X6_total_4  : Nat → Nat → Int32 → Int32 → Int32 → Mem → Option (Int32 × Mem)
  | 0, _, _, _, _, _ => none
  | n + 1, a0, a1, a2, a3, h =>
    if (6 : Int32) ≤ a3 then
        some (a2, h)
    else
        aald (xrf a0 0) a3 fun q1 =>
        if a1 = (2 : Int32) then
            f_X6_total_85 (f_X6_total_4 n) a0 a1 (a2 + (h q1 13)) a3 h
        else
        if a1 = (3 : Int32) then
            f_X6_total_85 (f_X6_total_4 n) a0 a1 (a2 + (h q1 14)) a3 h
        else
        if a1 = (4 : Int32) then
            f_X6_total_85 (f_X6_total_4 n) a0 a1 (a2 + (h q1 15)) a3 h
        else
        f_X6_total_85 (f_X6_total_4 n) a0 a1 (a2 + (h q1 16)) a3 h
set_option maxRecDepth 20000 in
theorem t_X6_total_4 {G : xG}  : ∀ (n : Nat) (a0 : Nat) (a1 : Int32) (a2 : Int32) (a3 : Int32) (ta0 : xTy a0 5) (h : Mem), Rn G 0 FX6_total xcI 4 [(0, .ref (G.1 a0)), (1, .int a1), (2, .int a2), (3, .int a3)] [] h (f_X6_total_4 n a0 a1 a2 a3 h) := by
  intro n
  induction n with
  | zero => intros; intro r hr; cases hr
  | succ n ih =>
    intro a0 a1 a2 a3 ta0 h
    unfold f_X6_total_4
    refine r_iload_n (place := 3) dX6_total_4 rfl rfl ?_
    refine r_bipush dX6_total_5 xb_6 ?_
    refine r_ic_ge (tgt := 91) dX6_total_7 (by decide) ?_ ?_
    · refine r_iload_n (place := 2) dX6_total_91 rfl rfl ?_
      exact r_iret dX6_total_92 rfl
    · refine r_aload_n (place := 0) dX6_total_10 rfl rfl ?_
      refine r_getR dX6_total_11 fg_X6_11 ta0 ?_
      refine r_iload_n (place := 3) dX6_total_14 rfl rfl ?_
      refine r_aald10 dX6_total_15 (xt_5_0 ta0) (fun q1 tq1 => ?_)
      refine r_astore (ls' := [(4, .ref (G.1 q1)), (0, .ref (G.1 a0)), (1, .int a1), (2, .int a2), (3, .int a3)]) dX6_total_16 (by decide) rfl ?_
      refine r_iload_n (place := 2) dX6_total_18 rfl rfl ?_
      refine r_tabI (tgt := 44) (off := 25) (2 : Int32) dX6_total_19 (by decide +kernel) (by decide +kernel) (by decide +kernel) (by decide) ?_ (fun n19_2 => ?_)
      · refine r_iload_n (place := 3) dX6_total_44 rfl rfl ?_
        refine r_aload (place := 0) dX6_total_45 rfl ?_
        refine r_getI dX6_total_47 fg_X6_198 tq1 ?_
        refine r_iadd dX6_total_50 ?_
        refine r_istore_n (ls' := [(2, .int (a2 + (h q1 13))), (4, .ref (G.1 q1)), (0, .ref (G.1 a0)), (1, .int a1), (3, .int a3)]) dX6_total_51 rfl (by decide) rfl ?_
        refine r_goto (tgt := 85) dX6_total_52 (by decide) ?_
        exact r_sub [2, 3, 0, 4] rfl (t_X6_total_85 (f_X6_total_4 n) ih a0 a1 (a2 + (h q1 13)) a3 ta0 h)
      refine r_tabI (tgt := 55) (off := 36) (3 : Int32) dX6_total_19 (by decide +kernel) (by decide +kernel) (by decide +kernel) (by decide) ?_ (fun n19_3 => ?_)
      · refine r_iload_n (place := 3) dX6_total_55 rfl rfl ?_
        refine r_aload (place := 0) dX6_total_56 rfl ?_
        refine r_getI dX6_total_58 fg_X6_201 tq1 ?_
        refine r_iadd dX6_total_61 ?_
        refine r_istore_n (ls' := [(2, .int (a2 + (h q1 14))), (4, .ref (G.1 q1)), (0, .ref (G.1 a0)), (1, .int a1), (3, .int a3)]) dX6_total_62 rfl (by decide) rfl ?_
        refine r_goto (tgt := 85) dX6_total_63 (by decide) ?_
        exact r_sub [2, 3, 0, 4] rfl (t_X6_total_85 (f_X6_total_4 n) ih a0 a1 (a2 + (h q1 14)) a3 ta0 h)
      refine r_tabI (tgt := 66) (off := 47) (4 : Int32) dX6_total_19 (by decide +kernel) (by decide +kernel) (by decide +kernel) (by decide) ?_ (fun n19_4 => ?_)
      · refine r_iload_n (place := 3) dX6_total_66 rfl rfl ?_
        refine r_aload (place := 0) dX6_total_67 rfl ?_
        refine r_getI dX6_total_69 fg_X6_204 tq1 ?_
        refine r_iadd dX6_total_72 ?_
        refine r_istore_n (ls' := [(2, .int (a2 + (h q1 15))), (4, .ref (G.1 q1)), (0, .ref (G.1 a0)), (1, .int a1), (3, .int a3)]) dX6_total_73 rfl (by decide) rfl ?_
        refine r_goto (tgt := 85) dX6_total_74 (by decide) ?_
        exact r_sub [2, 3, 0, 4] rfl (t_X6_total_85 (f_X6_total_4 n) ih a0 a1 (a2 + (h q1 15)) a3 ta0 h)
      have hx_19 : a1.toInt < 2 ∨ 4 < a1.toInt := by
        have z_n19_2 := lv_neT (a := 2) n19_2 (by decide +kernel)
        have z_n19_3 := lv_neT (a := 3) n19_3 (by decide +kernel)
        have z_n19_4 := lv_neT (a := 4) n19_4 (by decide +kernel)
        omega
      refine r_tabD (tgt := 77) dX6_total_19 hx_19 (by decide) ?_
      refine r_iload_n (place := 3) dX6_total_77 rfl rfl ?_
      refine r_aload (place := 0) dX6_total_78 rfl ?_
      refine r_getI dX6_total_80 fg_X6_207 tq1 ?_
      refine r_iadd dX6_total_83 ?_
      refine r_istore_n (ls' := [(2, .int (a2 + (h q1 16))), (4, .ref (G.1 q1)), (0, .ref (G.1 a0)), (1, .int a1), (3, .int a3)]) dX6_total_84 rfl (by decide) rfl ?_
      exact r_sub [2, 3, 0, 4] rfl (t_X6_total_85 (f_X6_total_4 n) ih a0 a1 (a2 + (h q1 16)) a3 ta0 h)
def f_X6_total (a0 : Nat) (a1 : Int32) (h : Mem) : Option (Int32 × Mem) :=
  f_X6_total_4 xFU a0 a1 (0 : Int32) (0 : Int32) h
set_option maxRecDepth 20000 in
theorem c_X6_total {G : xG} (a0 : Nat) (ta0 : xTy a0 5) (a1 : Int32) (h : Mem) : Sm G 0 yX6_total FX6_total xcI [.ref (G.1 a0), .int a1] h (f_X6_total a0 a1 h) := by
  refine Sm.of pn_X6 rfl (Nat.le_of_ble_eq_true rfl) (ls := [(0, .ref (G.1 a0)), (1, .int a1)]) rfl ?_
  unfold f_X6_total
  refine r_iconst dX6_total_0 xc_0 ?_
  refine r_istore_n (ls' := [(2, .int (0 : Int32)), (0, .ref (G.1 a0)), (1, .int a1)]) dX6_total_1 rfl (by decide) rfl ?_
  refine r_iconst dX6_total_2 xc_0 ?_
  refine r_istore_n (ls' := [(3, .int (0 : Int32)), (2, .int (0 : Int32)), (0, .ref (G.1 a0)), (1, .int a1)]) dX6_total_3 rfl (by decide) rfl ?_
  exact r_sub [2, 3, 1, 0] rfl (t_X6_total_4 xFU a0 a1 (0 : Int32) (0 : Int32) ta0 h)
def f_X7_feed (a0 : Nat) (a1 : Int32) (h : Mem) : Option (Int32 × Mem) :=
  b2 (f_X7_outside a1 (0 : Int32) (127 : Int32) h) fun v2 h1 =>
  if v2 = 0 then
      b2 (f_X4_push (xrf a0 0) a1 h1) fun v4 h3 =>
      if v4 = 0 then
          some ((-3 : Int32), h3)
      else
          some ((h3 (xrf a0 0) 1), h3)
  else
      some ((-1 : Int32), h1)
set_option maxRecDepth 20000 in
theorem c_X7_feed {G : xG} (a0 : Nat) (ta0 : xTy a0 6) (a1 : Int32) (h : Mem) : Sm G 1 yX7_feed FX7_feed xcI [.ref (G.1 a0), .int a1] h (f_X7_feed a0 a1 h) := by
  refine Sm.of pn_X7 rfl (Nat.le_of_ble_eq_true rfl) (ls := [(0, .ref (G.1 a0)), (1, .int a1)]) rfl ?_
  unfold f_X7_feed
  refine r_iload_n (place := 1) dX7_feed_0 rfl rfl ?_
  refine r_iconst dX7_feed_1 xc_0 ?_
  refine r_bipush dX7_feed_2 xb_127 ?_
  refine r_callSI (rest := []) dX7_feed_4 m_X7_outside lk_X7_45 (c_X7_outside a1 (0 : Int32) (127 : Int32) h) (by decide) rfl rfl (Nat.le_of_ble_eq_true rfl) (fun v2 h1 => ?_)
  refine r_if_eq (tgt := 12) dX7_feed_7 (by decide) ?_ ?_
  · refine r_aload_n (place := 0) dX7_feed_12 rfl rfl ?_
    refine r_getR dX7_feed_13 fg_X7_20 ta0 ?_
    refine r_iload_n (place := 1) dX7_feed_16 rfl rfl ?_
    refine r_callVI (rest := []) dX7_feed_17 m_X4_push lk_X7_49 rfl (by decide) (xt_6_0 ta0) (c_X4_push (xrf a0 0) (xt_6_0 ta0) a1 h1) (by decide) rfl rfl (Nat.le_of_ble_eq_true rfl) (fun v4 h3 => ?_)
    refine r_if_eq (tgt := 33) dX7_feed_20 (by decide) ?_ ?_
    · refine r_bipush dX7_feed_33 xb_m3 ?_
      exact r_iret dX7_feed_35 rfl
    · refine r_aload_n (place := 0) dX7_feed_23 rfl rfl ?_
      refine r_getR dX7_feed_24 fg_X7_20 ta0 ?_
      refine r_getI dX7_feed_27 fg_X7_55 (xt_6_0 ta0) ?_
      refine r_goto (tgt := 35) dX7_feed_30 (by decide) ?_
      exact r_iret dX7_feed_35 rfl
  · refine r_iconst dX7_feed_10 xc_m1 ?_
    exact r_iret dX7_feed_11 rfl
def f_X7_end (a0 : Nat) (a1 : Int32) (h : Mem) : Option (Int32 × Mem) :=
  b2 (f_X7_outside a1 (0 : Int32) (h (xrf a0 0) 1) h) fun v2 h1 =>
  if v2 = 0 then
      mlet (mu h1 (xrf a0 0) 1 a1) fun h3 =>
      some ((h1 (xrf a0 0) 1), h3)
  else
      some ((-1 : Int32), h1)
set_option maxRecDepth 20000 in
theorem c_X7_end {G : xG} (a0 : Nat) (ta0 : xTy a0 6) (a1 : Int32) (h : Mem) : Sm G 1 yX7_end FX7_end xcI [.ref (G.1 a0), .int a1] h (f_X7_end a0 a1 h) := by
  refine Sm.of pn_X7 rfl (Nat.le_of_ble_eq_true rfl) (ls := [(0, .ref (G.1 a0)), (1, .int a1)]) rfl ?_
  unfold f_X7_end
  refine r_iload_n (place := 1) dX7_end_0 rfl rfl ?_
  refine r_iconst dX7_end_1 xc_0 ?_
  refine r_aload_n (place := 0) dX7_end_2 rfl rfl ?_
  refine r_getR dX7_end_3 fg_X7_20 ta0 ?_
  refine r_getI dX7_end_6 fg_X7_55 (xt_6_0 ta0) ?_
  refine r_callSI (rest := []) dX7_end_9 m_X7_outside lk_X7_45 (c_X7_outside a1 (0 : Int32) (h (xrf a0 0) 1) h) (by decide) rfl rfl (Nat.le_of_ble_eq_true rfl) (fun v2 h1 => ?_)
  refine r_if_eq (tgt := 17) dX7_end_12 (by decide) ?_ ?_
  · refine r_aload_n (place := 0) dX7_end_17 rfl rfl ?_
    refine r_getR dX7_end_18 fg_X7_20 ta0 ?_
    refine r_getI dX7_end_21 fg_X7_55 (xt_6_0 ta0) ?_
    refine r_istore_n (ls' := [(2, .int (h1 (xrf a0 0) 1)), (0, .ref (G.1 a0)), (1, .int a1)]) dX7_end_24 rfl (by decide) rfl ?_
    refine r_aload_n (place := 1) dX7_end_25 rfl rfl ?_
    refine r_getR dX7_end_26 fg_X7_20 ta0 ?_
    refine r_iload_n (place := 2) dX7_end_29 rfl rfl ?_
    refine r_putI dX7_end_30 fp_X7_55 (xt_6_0 ta0) ?_
    refine r_mem (fun h3 => ?_)
    refine r_iload_n (place := 0) dX7_end_33 rfl rfl ?_
    exact r_iret dX7_end_34 rfl
  · refine r_iconst dX7_end_15 xc_m1 ?_
    exact r_iret dX7_end_16 rfl
def f_X7_fault (a0 : Nat) (h : Mem) : Option (Int32 × Mem) :=
  some ((h a0 6), h)
set_option maxRecDepth 20000 in
theorem c_X7_fault {G : xG} (a0 : Nat) (ta0 : xTy a0 6) (h : Mem) : Sm G 0 yX7_fault FX7_fault xcI [.ref (G.1 a0)] h (f_X7_fault a0 h) := by
  refine Sm.of pn_X7 rfl (Nat.le_of_ble_eq_true rfl) (ls := [(0, .ref (G.1 a0))]) rfl ?_
  unfold f_X7_fault
  refine r_aload_n (place := 0) dX7_fault_0 rfl rfl ?_
  refine r_getI dX7_fault_1 fg_X7_42 ta0 ?_
  exact r_iret dX7_fault_4 rfl
def f_X7_level (a0 : Nat) (a1 : Int32) (h : Mem) : Option (Int32 × Mem) :=
  b2 (f_X7_outside a1 (1 : Int32) (28 : Int32) h) fun v2 h1 =>
  if v2 = 0 then
      b2 (f_X1_endsInRest (h1 a0 5) h1) fun v4 h3 =>
      if v4 = 0 then
          b2 (f_X1_count (h3 a0 5) h3) fun v6 h5 =>
          if v6 < (4 : Int32) then
              b2 (f_X1_with (h5 a0 5) a1 h5) fun v8 h7 =>
              mlet (mu h7 a0 5 v8) fun h9 =>
              some ((v6 + (1 : Int32)), h9)
          else
              some ((-3 : Int32), h5)
      else
          some ((-2 : Int32), h3)
  else
      some ((-1 : Int32), h1)
set_option maxRecDepth 20000 in
theorem c_X7_level {G : xG} (a0 : Nat) (ta0 : xTy a0 6) (a1 : Int32) (h : Mem) : Sm G 4 yX7_level FX7_level xcI [.ref (G.1 a0), .int a1] h (f_X7_level a0 a1 h) := by
  refine Sm.of pn_X7 rfl (Nat.le_of_ble_eq_true rfl) (ls := [(0, .ref (G.1 a0)), (1, .int a1)]) rfl ?_
  unfold f_X7_level
  refine r_iload_n (place := 1) dX7_level_0 rfl rfl ?_
  refine r_iconst dX7_level_1 xc_1 ?_
  refine r_bipush dX7_level_2 xb_28 ?_
  refine r_callSI (rest := []) dX7_level_4 m_X7_outside lk_X7_45 (c_X7_outside a1 (1 : Int32) (28 : Int32) h) (by decide) rfl rfl (Nat.le_of_ble_eq_true rfl) (fun v2 h1 => ?_)
  refine r_if_eq (tgt := 12) dX7_level_7 (by decide) ?_ ?_
  · refine r_aload_n (place := 0) dX7_level_12 rfl rfl ?_
    refine r_getI dX7_level_13 fg_X7_38 ta0 ?_
    refine r_callSI (rest := []) dX7_level_16 m_X1_endsInRest lk_X7_70 (c_X1_endsInRest (h1 a0 5) h1) (by decide) rfl rfl (Nat.le_of_ble_eq_true rfl) (fun v4 h3 => ?_)
    refine r_if_eq (tgt := 25) dX7_level_19 (by decide) ?_ ?_
    · refine r_aload_n (place := 0) dX7_level_25 rfl rfl ?_
      refine r_getI dX7_level_26 fg_X7_38 ta0 ?_
      refine r_callSI (rest := []) dX7_level_29 m_X1_count lk_X7_73 (c_X1_count (h3 a0 5) h3) (by decide) rfl rfl (Nat.le_of_ble_eq_true rfl) (fun v6 h5 => ?_)
      refine r_istore_n (ls' := [(2, .int v6), (0, .ref (G.1 a0)), (1, .int a1)]) dX7_level_32 rfl (by decide) rfl ?_
      refine r_iload_n (place := 0) dX7_level_33 rfl rfl ?_
      refine r_iconst dX7_level_34 xc_4 ?_
      refine r_ic_lt (tgt := 41) dX7_level_35 (by decide) ?_ ?_
      · refine r_aload_n (place := 1) dX7_level_41 rfl rfl ?_
        refine r_aload_n (place := 1) dX7_level_42 rfl rfl ?_
        refine r_getI dX7_level_43 fg_X7_38 ta0 ?_
        refine r_iload_n (place := 2) dX7_level_46 rfl rfl ?_
        refine r_callSI (rest := [.ref (G.1 a0)]) dX7_level_47 m_X1_with lk_X7_77 (c_X1_with (h5 a0 5) a1 h5) (by decide) rfl rfl (Nat.le_of_ble_eq_true rfl) (fun v8 h7 => ?_)
        refine r_putI dX7_level_50 fp_X7_38 ta0 ?_
        refine r_mem (fun h9 => ?_)
        refine r_iload_n (place := 0) dX7_level_53 rfl rfl ?_
        refine r_iconst dX7_level_54 xc_1 ?_
        refine r_iadd dX7_level_55 ?_
        exact r_iret dX7_level_56 rfl
      · refine r_bipush dX7_level_38 xb_m3 ?_
        exact r_iret dX7_level_40 rfl
    · refine r_bipush dX7_level_22 xb_m2 ?_
      exact r_iret dX7_level_24 rfl
  · refine r_iconst dX7_level_10 xc_m1 ?_
    exact r_iret dX7_level_11 rfl
def f_X7_top (a0 : Nat) (h : Mem) : Option (Int32 × Mem) :=
  b2 (f_X1_count (h a0 5) h) fun v2 h1 =>
  mlet (mu h1 a0 5 (0 : Int32)) fun h3 =>
  some (v2, h3)
set_option maxRecDepth 20000 in
theorem c_X7_top {G : xG} (a0 : Nat) (ta0 : xTy a0 6) (h : Mem) : Sm G 3 yX7_top FX7_top xcI [.ref (G.1 a0)] h (f_X7_top a0 h) := by
  refine Sm.of pn_X7 rfl (Nat.le_of_ble_eq_true rfl) (ls := [(0, .ref (G.1 a0))]) rfl ?_
  unfold f_X7_top
  refine r_aload_n (place := 0) dX7_top_0 rfl rfl ?_
  refine r_getI dX7_top_1 fg_X7_38 ta0 ?_
  refine r_callSI (rest := []) dX7_top_4 m_X1_count lk_X7_73 (c_X1_count (h a0 5) h) (by decide) rfl rfl (Nat.le_of_ble_eq_true rfl) (fun v2 h1 => ?_)
  refine r_istore_n (ls' := [(1, .int v2), (0, .ref (G.1 a0))]) dX7_top_7 rfl (by decide) rfl ?_
  refine r_aload_n (place := 1) dX7_top_8 rfl rfl ?_
  refine r_iconst dX7_top_9 xc_0 ?_
  refine r_putI dX7_top_10 fp_X7_38 ta0 ?_
  refine r_mem (fun h3 => ?_)
  refine r_iload_n (place := 0) dX7_top_13 rfl rfl ?_
  exact r_iret dX7_top_14 rfl
def f_X7_isAwake (a0 : Nat) (a1 : Int32) (h : Mem) : Option (Int32 × Mem) :=
  b2 (f_X7_noClient a1 h) fun v2 h1 =>
  if v2 = 0 then
      aald (xrf (xrf a0 2) 0) a1 fun q3 =>
      if (h1 q3 8) = (1 : Int32) then
          some ((1 : Int32), h1)
      else
          some ((0 : Int32), h1)
  else
      some ((0 : Int32), h1)
set_option maxRecDepth 20000 in
theorem c_X7_isAwake {G : xG} (a0 : Nat) (ta0 : xTy a0 6) (a1 : Int32) (h : Mem) : Sm G 2 yX7_isAwake FX7_isAwake xcI [.ref (G.1 a0), .int a1] h (f_X7_isAwake a0 a1 h) := by
  refine Sm.of pn_X7 rfl (Nat.le_of_ble_eq_true rfl) (ls := [(0, .ref (G.1 a0)), (1, .int a1)]) rfl ?_
  unfold f_X7_isAwake
  refine r_iload_n (place := 1) dX7_isAwake_0 rfl rfl ?_
  refine r_callSI (rest := []) dX7_isAwake_1 m_X7_noClient lk_X7_81 (c_X7_noClient a1 h) (by decide) rfl rfl (Nat.le_of_ble_eq_true rfl) (fun v2 h1 => ?_)
  refine r_if_ne (tgt := 27) dX7_isAwake_4 (by decide) ?_ ?_
  · refine r_iconst dX7_isAwake_27 xc_0 ?_
    exact r_zret1 dX7_isAwake_28 rfl (by decide)
  · refine r_aload_n (place := 0) dX7_isAwake_7 rfl rfl ?_
    refine r_getR dX7_isAwake_8 fg_X7_24 ta0 ?_
    refine r_getR dX7_isAwake_11 fg_X7_87 (xt_6_2 ta0) ?_
    refine r_iload_n (place := 1) dX7_isAwake_14 rfl rfl ?_
    refine r_aald10 dX7_isAwake_15 (xt_5_0 (xt_6_2 ta0)) (fun q3 tq3 => ?_)
    refine r_getI dX7_isAwake_16 fg_X7_189 tq3 ?_
    refine r_iconst dX7_isAwake_19 xc_1 ?_
    refine r_ic_ne (tgt := 27) dX7_isAwake_20 (by decide) ?_ ?_
    · refine r_iconst dX7_isAwake_27 xc_0 ?_
      exact r_zret1 dX7_isAwake_28 rfl (by decide)
    · refine r_iconst dX7_isAwake_23 xc_1 ?_
      refine r_goto (tgt := 28) dX7_isAwake_24 (by decide) ?_
      exact r_zret1 dX7_isAwake_28 rfl (by decide)
def f_X7_wake_62  (a3 : Int32) (s0 : Nat) (s1 : Nat) (s2 : Int32) (h : Mem) : Option (Int32 × Mem) :=
  b2 (f_X6_rouse s0 s1 s2 a3 h) fun v2 h1 =>
  if v2 = 0 then
      some ((0 : Int32), h1)
  else
      some ((1 : Int32), h1)
set_option maxRecDepth 20000 in
theorem t_X7_wake_62 {G : xG}  (a3 : Int32) (s0 : Nat) (s1 : Nat) (s2 : Int32) (ts0 : xTy s0 5) (ts1 : xTy s1 0) (h : Mem) : Rn G 7 FX7_wake xcI 62 [(3, .int a3)] [.int s2, .ref (G.1 s1), .ref (G.1 s0)] h (f_X7_wake_62 a3 s0 s1 s2 h) := by
  unfold f_X7_wake_62
  refine r_iload_n (place := 0) dX7_wake_62 rfl rfl ?_
  refine r_callVI (rest := []) dX7_wake_63 m_X6_rouse lk_X7_91 rfl (by decide) ts0 (c_X6_rouse s0 ts0 s1 ts1 s2 a3 h) (by decide) rfl rfl (Nat.le_of_ble_eq_true rfl) (fun v2 h1 => ?_)
  refine r_if_eq (tgt := 73) dX7_wake_66 (by decide) ?_ ?_
  · refine r_iconst dX7_wake_73 xc_0 ?_
    exact r_iret dX7_wake_74 rfl
  · refine r_iconst dX7_wake_69 xc_1 ?_
    refine r_goto (tgt := 74) dX7_wake_70 (by decide) ?_
    exact r_iret dX7_wake_74 rfl
def f_X7_wake (a0 : Nat) (a1 : Int32) (a2 : Int32) (a3 : Int32) (h : Mem) : Option (Int32 × Mem) :=
  b2 (f_X7_noClient a1 h) fun v2 h1 =>
  if v2 = 0 then
      b2 (f_X7_outside a2 (0 : Int32) (1 : Int32) h1) fun v4 h3 =>
      if v4 = 0 then
          b2 (f_X7_outside a3 (0 : Int32) (99 : Int32) h3) fun v6 h5 =>
          if v6 = 0 then
              b2 (f_X7_isAwake a0 a1 h5) fun v8 h7 =>
              if v8 = 0 then
                  aald (xrf (xrf a0 2) 0) a1 fun q9 =>
                  if a2 = (1 : Int32) then
                      f_X7_wake_62 a3 (xrf a0 2) q9 (1 : Int32) h7
                  else
                      f_X7_wake_62 a3 (xrf a0 2) q9 (0 : Int32) h7
              else
                  some ((-2 : Int32), h7)
          else
              some ((-1 : Int32), h5)
      else
          some ((-1 : Int32), h3)
  else
      some ((-1 : Int32), h1)
set_option maxRecDepth 20000 in
theorem c_X7_wake {G : xG} (a0 : Nat) (ta0 : xTy a0 6) (a1 : Int32) (a2 : Int32) (a3 : Int32) (h : Mem) : Sm G 7 yX7_wake FX7_wake xcI [.ref (G.1 a0), .int a1, .int a2, .int a3] h (f_X7_wake a0 a1 a2 a3 h) := by
  refine Sm.of pn_X7 rfl (Nat.le_of_ble_eq_true rfl) (ls := [(0, .ref (G.1 a0)), (1, .int a1), (2, .int a2), (3, .int a3)]) rfl ?_
  unfold f_X7_wake
  refine r_iload_n (place := 1) dX7_wake_0 rfl rfl ?_
  refine r_callSI (rest := []) dX7_wake_1 m_X7_noClient lk_X7_81 (c_X7_noClient a1 h) (by decide) rfl rfl (Nat.le_of_ble_eq_true rfl) (fun v2 h1 => ?_)
  refine r_if_ne (tgt := 26) dX7_wake_4 (by decide) ?_ ?_
  · refine r_iconst dX7_wake_26 xc_m1 ?_
    exact r_iret dX7_wake_27 rfl
  · refine r_iload_n (place := 2) dX7_wake_7 rfl rfl ?_
    refine r_iconst dX7_wake_8 xc_0 ?_
    refine r_iconst dX7_wake_9 xc_1 ?_
    refine r_callSI (rest := []) dX7_wake_10 m_X7_outside lk_X7_45 (c_X7_outside a2 (0 : Int32) (1 : Int32) h1) (by decide) rfl rfl (Nat.le_of_ble_eq_true rfl) (fun v4 h3 => ?_)
    refine r_if_ne (tgt := 26) dX7_wake_13 (by decide) ?_ ?_
    · refine r_iconst dX7_wake_26 xc_m1 ?_
      exact r_iret dX7_wake_27 rfl
    · refine r_iload_n (place := 3) dX7_wake_16 rfl rfl ?_
      refine r_iconst dX7_wake_17 xc_0 ?_
      refine r_bipush dX7_wake_18 xb_99 ?_
      refine r_callSI (rest := []) dX7_wake_20 m_X7_outside lk_X7_45 (c_X7_outside a3 (0 : Int32) (99 : Int32) h3) (by decide) rfl rfl (Nat.le_of_ble_eq_true rfl) (fun v6 h5 => ?_)
      refine r_if_eq (tgt := 28) dX7_wake_23 (by decide) ?_ ?_
      · refine r_aload_n (place := 0) dX7_wake_28 rfl rfl ?_
        refine r_iload_n (place := 1) dX7_wake_29 rfl rfl ?_
        refine r_callVI (rest := []) dX7_wake_30 m_X7_isAwake lk_X7_84 rfl (by decide) ta0 (c_X7_isAwake a0 ta0 a1 h5) (by decide) rfl rfl (Nat.le_of_ble_eq_true rfl) (fun v8 h7 => ?_)
        refine r_if_eq (tgt := 39) dX7_wake_33 (by decide) ?_ ?_
        · refine r_aload_n (place := 0) dX7_wake_39 rfl rfl ?_
          refine r_getR dX7_wake_40 fg_X7_24 ta0 ?_
          refine r_aload_n (place := 0) dX7_wake_43 rfl rfl ?_
          refine r_getR dX7_wake_44 fg_X7_24 ta0 ?_
          refine r_getR dX7_wake_47 fg_X7_87 (xt_6_2 ta0) ?_
          refine r_iload_n (place := 1) dX7_wake_50 rfl rfl ?_
          refine r_aald10 dX7_wake_51 (xt_5_0 (xt_6_2 ta0)) (fun q9 tq9 => ?_)
          refine r_iload_n (place := 2) dX7_wake_52 rfl rfl ?_
          refine r_iconst dX7_wake_53 xc_1 ?_
          refine r_ic_ne (tgt := 61) dX7_wake_54 (by decide) ?_ ?_
          · refine r_iconst dX7_wake_61 xc_0 ?_
            exact r_sub [3] rfl (t_X7_wake_62 a3 (xrf a0 2) q9 (0 : Int32) (xt_6_2 ta0) tq9 h7)
          · refine r_iconst dX7_wake_57 xc_1 ?_
            refine r_goto (tgt := 62) dX7_wake_58 (by decide) ?_
            exact r_sub [3] rfl (t_X7_wake_62 a3 (xrf a0 2) q9 (1 : Int32) (xt_6_2 ta0) tq9 h7)
        · refine r_bipush dX7_wake_36 xb_m2 ?_
          exact r_iret dX7_wake_38 rfl
      · refine r_iconst dX7_wake_26 xc_m1 ?_
        exact r_iret dX7_wake_27 rfl
def f_X7_sleep_52  (s0 : Nat) (s1 : Nat) (s2 : Int32) (h : Mem) : Option (Int32 × Mem) :=
  b2 (f_X6_lull s0 s1 s2 h) fun v2 h1 =>
  some (v2, h1)
set_option maxRecDepth 20000 in
theorem t_X7_sleep_52 {G : xG}  (s0 : Nat) (s1 : Nat) (s2 : Int32) (ts0 : xTy s0 5) (ts1 : xTy s1 0) (h : Mem) : Rn G 7 FX7_sleep xcI 52 [] [.int s2, .ref (G.1 s1), .ref (G.1 s0)] h (f_X7_sleep_52 s0 s1 s2 h) := by
  unfold f_X7_sleep_52
  refine r_callVI (rest := []) dX7_sleep_52 m_X6_lull lk_X7_95 rfl (by decide) ts0 (c_X6_lull s0 ts0 s1 ts1 s2 h) (by decide) rfl rfl (Nat.le_of_ble_eq_true rfl) (fun v2 h1 => ?_)
  exact r_iret dX7_sleep_55 rfl
def f_X7_sleep (a0 : Nat) (a1 : Int32) (a2 : Int32) (h : Mem) : Option (Int32 × Mem) :=
  b2 (f_X7_noClient a1 h) fun v2 h1 =>
  if v2 = 0 then
      b2 (f_X7_outside a2 (0 : Int32) (1 : Int32) h1) fun v4 h3 =>
      if v4 = 0 then
          b2 (f_X7_isAwake a0 a1 h3) fun v6 h5 =>
          if v6 = 0 then
              some ((-2 : Int32), h5)
          else
              aald (xrf (xrf a0 2) 0) a1 fun q7 =>
              if a2 = (1 : Int32) then
                  f_X7_sleep_52 (xrf a0 2) q7 (1 : Int32) h5
              else
                  f_X7_sleep_52 (xrf a0 2) q7 (0 : Int32) h5
      else
          some ((-1 : Int32), h3)
  else
      some ((-1 : Int32), h1)
set_option maxRecDepth 20000 in
theorem c_X7_sleep {G : xG} (a0 : Nat) (ta0 : xTy a0 6) (a1 : Int32) (a2 : Int32) (h : Mem) : Sm G 7 yX7_sleep FX7_sleep xcI [.ref (G.1 a0), .int a1, .int a2] h (f_X7_sleep a0 a1 a2 h) := by
  refine Sm.of pn_X7 rfl (Nat.le_of_ble_eq_true rfl) (ls := [(0, .ref (G.1 a0)), (1, .int a1), (2, .int a2)]) rfl ?_
  unfold f_X7_sleep
  refine r_iload_n (place := 1) dX7_sleep_0 rfl rfl ?_
  refine r_callSI (rest := []) dX7_sleep_1 m_X7_noClient lk_X7_81 (c_X7_noClient a1 h) (by decide) rfl rfl (Nat.le_of_ble_eq_true rfl) (fun v2 h1 => ?_)
  refine r_if_ne (tgt := 16) dX7_sleep_4 (by decide) ?_ ?_
  · refine r_iconst dX7_sleep_16 xc_m1 ?_
    exact r_iret dX7_sleep_17 rfl
  · refine r_iload_n (place := 2) dX7_sleep_7 rfl rfl ?_
    refine r_iconst dX7_sleep_8 xc_0 ?_
    refine r_iconst dX7_sleep_9 xc_1 ?_
    refine r_callSI (rest := []) dX7_sleep_10 m_X7_outside lk_X7_45 (c_X7_outside a2 (0 : Int32) (1 : Int32) h1) (by decide) rfl rfl (Nat.le_of_ble_eq_true rfl) (fun v4 h3 => ?_)
    refine r_if_eq (tgt := 18) dX7_sleep_13 (by decide) ?_ ?_
    · refine r_aload_n (place := 0) dX7_sleep_18 rfl rfl ?_
      refine r_iload_n (place := 1) dX7_sleep_19 rfl rfl ?_
      refine r_callVI (rest := []) dX7_sleep_20 m_X7_isAwake lk_X7_84 rfl (by decide) ta0 (c_X7_isAwake a0 ta0 a1 h3) (by decide) rfl rfl (Nat.le_of_ble_eq_true rfl) (fun v6 h5 => ?_)
      refine r_if_ne (tgt := 29) dX7_sleep_23 (by decide) ?_ ?_
      · refine r_aload_n (place := 0) dX7_sleep_29 rfl rfl ?_
        refine r_getR dX7_sleep_30 fg_X7_24 ta0 ?_
        refine r_aload_n (place := 0) dX7_sleep_33 rfl rfl ?_
        refine r_getR dX7_sleep_34 fg_X7_24 ta0 ?_
        refine r_getR dX7_sleep_37 fg_X7_87 (xt_6_2 ta0) ?_
        refine r_iload_n (place := 1) dX7_sleep_40 rfl rfl ?_
        refine r_aald10 dX7_sleep_41 (xt_5_0 (xt_6_2 ta0)) (fun q7 tq7 => ?_)
        refine r_iload_n (place := 2) dX7_sleep_42 rfl rfl ?_
        refine r_iconst dX7_sleep_43 xc_1 ?_
        refine r_ic_ne (tgt := 51) dX7_sleep_44 (by decide) ?_ ?_
        · refine r_iconst dX7_sleep_51 xc_0 ?_
          exact r_sub [] rfl (t_X7_sleep_52 (xrf a0 2) q7 (0 : Int32) (xt_6_2 ta0) tq7 h5)
        · refine r_iconst dX7_sleep_47 xc_1 ?_
          refine r_goto (tgt := 52) dX7_sleep_48 (by decide) ?_
          exact r_sub [] rfl (t_X7_sleep_52 (xrf a0 2) q7 (1 : Int32) (xt_6_2 ta0) tq7 h5)
      · refine r_bipush dX7_sleep_26 xb_m2 ?_
        exact r_iret dX7_sleep_28 rfl
    · refine r_iconst dX7_sleep_16 xc_m1 ?_
      exact r_iret dX7_sleep_17 rfl
def f_X7_badLetter_28   (h : Mem) : Option (Int32 × Mem) :=
  some ((1 : Int32), h)
set_option maxRecDepth 20000 in
theorem t_X7_badLetter_28 {G : xG}    (h : Mem) : Rn G 1 FX7_badLetter xcI 28 [] [] h (f_X7_badLetter_28  h) := by
  unfold f_X7_badLetter_28
  refine r_iconst dX7_badLetter_28 xc_1 ?_
  refine r_goto (tgt := 33) dX7_badLetter_29 (by decide) ?_
  exact r_zret1 dX7_badLetter_33 rfl (by decide)
def f_X7_badLetter (a0 : Int32) (a1 : Int32) (a2 : Int32) (h : Mem) : Option (Int32 × Mem) :=
  b2 (f_X7_outside a0 (0 : Int32) (99 : Int32) h) fun v2 h1 =>
  if v2 = 0 then
      b2 (f_X7_outside a1 (0 : Int32) (2 : Int32) h1) fun v4 h3 =>
      if v4 = 0 then
          b2 (f_X7_outside a2 (0 : Int32) (1 : Int32) h3) fun v6 h5 =>
          if v6 = 0 then
              some ((0 : Int32), h5)
          else
              f_X7_badLetter_28 h5
      else
          f_X7_badLetter_28 h3
  else
      f_X7_badLetter_28 h1
set_option maxRecDepth 20000 in
theorem c_X7_badLetter {G : xG} (a0 : Int32) (a1 : Int32) (a2 : Int32) (h : Mem) : Sm G 1 yX7_badLetter FX7_badLetter xcI [.int a0, .int a1, .int a2] h (f_X7_badLetter a0 a1 a2 h) := by
  refine Sm.of pn_X7 rfl (Nat.le_of_ble_eq_true rfl) (ls := [(0, .int a0), (1, .int a1), (2, .int a2)]) rfl ?_
  unfold f_X7_badLetter
  refine r_iload_n (place := 0) dX7_badLetter_0 rfl rfl ?_
  refine r_iconst dX7_badLetter_1 xc_0 ?_
  refine r_bipush dX7_badLetter_2 xb_99 ?_
  refine r_callSI (rest := []) dX7_badLetter_4 m_X7_outside lk_X7_45 (c_X7_outside a0 (0 : Int32) (99 : Int32) h) (by decide) rfl rfl (Nat.le_of_ble_eq_true rfl) (fun v2 h1 => ?_)
  refine r_if_ne (tgt := 28) dX7_badLetter_7 (by decide) ?_ ?_
  · exact r_sub [] rfl (t_X7_badLetter_28 h1)
  · refine r_iload_n (place := 1) dX7_badLetter_10 rfl rfl ?_
    refine r_iconst dX7_badLetter_11 xc_0 ?_
    refine r_iconst dX7_badLetter_12 xc_2 ?_
    refine r_callSI (rest := []) dX7_badLetter_13 m_X7_outside lk_X7_45 (c_X7_outside a1 (0 : Int32) (2 : Int32) h1) (by decide) rfl rfl (Nat.le_of_ble_eq_true rfl) (fun v4 h3 => ?_)
    refine r_if_ne (tgt := 28) dX7_badLetter_16 (by decide) ?_ ?_
    · exact r_sub [] rfl (t_X7_badLetter_28 h3)
    · refine r_iload_n (place := 2) dX7_badLetter_19 rfl rfl ?_
      refine r_iconst dX7_badLetter_20 xc_0 ?_
      refine r_iconst dX7_badLetter_21 xc_1 ?_
      refine r_callSI (rest := []) dX7_badLetter_22 m_X7_outside lk_X7_45 (c_X7_outside a2 (0 : Int32) (1 : Int32) h3) (by decide) rfl rfl (Nat.le_of_ble_eq_true rfl) (fun v6 h5 => ?_)
      refine r_if_eq (tgt := 32) dX7_badLetter_25 (by decide) ?_ ?_
      · refine r_iconst dX7_badLetter_32 xc_0 ?_
        exact r_zret1 dX7_badLetter_33 rfl (by decide)
      · exact r_sub [] rfl (t_X7_badLetter_28 h5)
def f_X7_will_99  (a5 : Int32) (a7 : Int32) (s0 : Nat) (s1 : Int32) (s2 : Int32) (s3 : Int32) (s4 : Int32) (h : Mem) : Option (Int32 × Mem) :=
  b2 (f_X5_write s0 s1 s2 s3 s4 a5 h) fun _ h1 =>
  some (a7, h1)
set_option maxRecDepth 20000 in
theorem t_X7_will_99 {G : xG}  (a5 : Int32) (a7 : Int32) (s0 : Nat) (s1 : Int32) (s2 : Int32) (s3 : Int32) (s4 : Int32) (ts0 : xTy s0 4) (h : Mem) : Rn G 3 FX7_will xcI 99 [(5, .int a5), (7, .int a7)] [.int s4, .int s3, .int s2, .int s1, .ref (G.1 s0)] h (f_X7_will_99 a5 a7 s0 s1 s2 s3 s4 h) := by
  unfold f_X7_will_99
  refine r_iload (place := 0) dX7_will_99 rfl ?_
  refine r_callVV (rest := []) dX7_will_101 m_X5_write lk_X7_117 rfl (by decide) ts0 (c_X5_write s0 ts0 s1 s2 s3 s4 a5 h) (by decide) rfl rfl (Nat.le_of_ble_eq_true rfl) (fun h1 => ?_)
  refine r_iload (place := 1) dX7_will_104 rfl ?_
  exact r_iret dX7_will_106 rfl
def f_X7_will_78  (a0 : Nat) (a2 : Int32) (a3 : Int32) (a4 : Int32) (a5 : Int32) (a6 : Nat) (s0 : Int32) (h : Mem) : Option (Int32 × Mem) :=
  if a4 = (1 : Int32) then
      f_X7_will_99 a5 s0 a6 (h a0 5) a2 a3 (1 : Int32) h
  else
      f_X7_will_99 a5 s0 a6 (h a0 5) a2 a3 (0 : Int32) h
set_option maxRecDepth 20000 in
theorem t_X7_will_78 {G : xG}  (a0 : Nat) (a2 : Int32) (a3 : Int32) (a4 : Int32) (a5 : Int32) (a6 : Nat) (s0 : Int32) (ta0 : xTy a0 6) (ta6 : xTy a6 4) (h : Mem) : Rn G 3 FX7_will xcI 78 [(0, .ref (G.1 a0)), (2, .int a2), (3, .int a3), (4, .int a4), (5, .int a5), (6, .ref (G.1 a6))] [.int s0] h (f_X7_will_78 a0 a2 a3 a4 a5 a6 s0 h) := by
  unfold f_X7_will_78
  refine r_istore (ls' := [(7, .int s0), (0, .ref (G.1 a0)), (2, .int a2), (3, .int a3), (4, .int a4), (5, .int a5), (6, .ref (G.1 a6))]) dX7_will_78 (by decide) rfl ?_
  refine r_aload (place := 6) dX7_will_80 rfl ?_
  refine r_aload_n (place := 1) dX7_will_82 rfl rfl ?_
  refine r_getI dX7_will_83 fg_X7_38 ta0 ?_
  refine r_iload_n (place := 2) dX7_will_86 rfl rfl ?_
  refine r_iload_n (place := 3) dX7_will_87 rfl rfl ?_
  refine r_iload (place := 4) dX7_will_88 rfl ?_
  refine r_iconst dX7_will_90 xc_1 ?_
  refine r_ic_ne (tgt := 98) dX7_will_91 (by decide) ?_ ?_
  · refine r_iconst dX7_will_98 xc_0 ?_
    exact r_sub [5, 0] rfl (t_X7_will_99 a5 s0 a6 (h a0 5) a2 a3 (0 : Int32) ta6 h)
  · refine r_iconst dX7_will_94 xc_1 ?_
    refine r_goto (tgt := 99) dX7_will_95 (by decide) ?_
    exact r_sub [5, 0] rfl (t_X7_will_99 a5 s0 a6 (h a0 5) a2 a3 (1 : Int32) ta6 h)
def f_X7_will (a0 : Nat) (a1 : Int32) (a2 : Int32) (a3 : Int32) (a4 : Int32) (a5 : Int32) (h : Mem) : Option (Int32 × Mem) :=
  b2 (f_X7_noClient a1 h) fun v2 h1 =>
  if v2 = 0 then
      b2 (f_X7_badLetter a2 a3 a4 h1) fun v4 h3 =>
      if v4 = 0 then
          b2 (f_X7_outside a5 (0 : Int32) (50 : Int32) h3) fun v6 h5 =>
          if v6 = 0 then
              b2 (f_X7_isAwake a0 a1 h5) fun v8 h7 =>
              if v8 = 0 then
                  some ((-2 : Int32), h7)
              else
                  b2 (f_X1_isTopic (h7 a0 5) h7) fun v10 h9 =>
                  if v10 = 0 then
                      some ((-2 : Int32), h9)
                  else
                      aald (xrf (xrf a0 2) 0) a1 fun q11 =>
                      b2 (f_X5_isHeld (xrf q11 7) h9) fun v13 h12 =>
                      if v13 = 0 then
                          f_X7_will_78 a0 a2 a3 a4 a5 (xrf q11 7) (0 : Int32) h12
                      else
                          f_X7_will_78 a0 a2 a3 a4 a5 (xrf q11 7) (1 : Int32) h12
          else
              some ((-1 : Int32), h5)
      else
          some ((-1 : Int32), h3)
  else
      some ((-1 : Int32), h1)
set_option maxRecDepth 20000 in
theorem c_X7_will {G : xG} (a0 : Nat) (ta0 : xTy a0 6) (a1 : Int32) (a2 : Int32) (a3 : Int32) (a4 : Int32) (a5 : Int32) (h : Mem) : Sm G 3 yX7_will FX7_will xcI [.ref (G.1 a0), .int a1, .int a2, .int a3, .int a4, .int a5] h (f_X7_will a0 a1 a2 a3 a4 a5 h) := by
  refine Sm.of pn_X7 rfl (Nat.le_of_ble_eq_true rfl) (ls := [(0, .ref (G.1 a0)), (1, .int a1), (2, .int a2), (3, .int a3), (4, .int a4), (5, .int a5)]) rfl ?_
  unfold f_X7_will
  refine r_iload_n (place := 1) dX7_will_0 rfl rfl ?_
  refine r_callSI (rest := []) dX7_will_1 m_X7_noClient lk_X7_81 (c_X7_noClient a1 h) (by decide) rfl rfl (Nat.le_of_ble_eq_true rfl) (fun v2 h1 => ?_)
  refine r_if_ne (tgt := 28) dX7_will_4 (by decide) ?_ ?_
  · refine r_iconst dX7_will_28 xc_m1 ?_
    exact r_iret dX7_will_29 rfl
  · refine r_iload_n (place := 2) dX7_will_7 rfl rfl ?_
    refine r_iload_n (place := 3) dX7_will_8 rfl rfl ?_
    refine r_iload (place := 4) dX7_will_9 rfl ?_
    refine r_callSI (rest := []) dX7_will_11 m_X7_badLetter lk_X7_99 (c_X7_badLetter a2 a3 a4 h1) (by decide) rfl rfl (Nat.le_of_ble_eq_true rfl) (fun v4 h3 => ?_)
    refine r_if_ne (tgt := 28) dX7_will_14 (by decide) ?_ ?_
    · refine r_iconst dX7_will_28 xc_m1 ?_
      exact r_iret dX7_will_29 rfl
    · refine r_iload (place := 5) dX7_will_17 rfl ?_
      refine r_iconst dX7_will_19 xc_0 ?_
      refine r_bipush dX7_will_20 xb_50 ?_
      refine r_callSI (rest := []) dX7_will_22 m_X7_outside lk_X7_45 (c_X7_outside a5 (0 : Int32) (50 : Int32) h3) (by decide) rfl rfl (Nat.le_of_ble_eq_true rfl) (fun v6 h5 => ?_)
      refine r_if_eq (tgt := 30) dX7_will_25 (by decide) ?_ ?_
      · refine r_aload_n (place := 0) dX7_will_30 rfl rfl ?_
        refine r_iload_n (place := 1) dX7_will_31 rfl rfl ?_
        refine r_callVI (rest := []) dX7_will_32 m_X7_isAwake lk_X7_84 rfl (by decide) ta0 (c_X7_isAwake a0 ta0 a1 h5) (by decide) rfl rfl (Nat.le_of_ble_eq_true rfl) (fun v8 h7 => ?_)
        refine r_if_eq (tgt := 48) dX7_will_35 (by decide) ?_ ?_
        · refine r_bipush dX7_will_48 xb_m2 ?_
          exact r_iret dX7_will_50 rfl
        · refine r_aload_n (place := 0) dX7_will_38 rfl rfl ?_
          refine r_getI dX7_will_39 fg_X7_38 ta0 ?_
          refine r_callSI (rest := []) dX7_will_42 m_X1_isTopic lk_X7_102 (c_X1_isTopic (h7 a0 5) h7) (by decide) rfl rfl (Nat.le_of_ble_eq_true rfl) (fun v10 h9 => ?_)
          refine r_if_ne (tgt := 51) dX7_will_45 (by decide) ?_ ?_
          · refine r_aload_n (place := 0) dX7_will_51 rfl rfl ?_
            refine r_getR dX7_will_52 fg_X7_24 ta0 ?_
            refine r_getR dX7_will_55 fg_X7_87 (xt_6_2 ta0) ?_
            refine r_iload_n (place := 1) dX7_will_58 rfl rfl ?_
            refine r_aald10 dX7_will_59 (xt_5_0 (xt_6_2 ta0)) (fun q11 tq11 => ?_)
            refine r_getR dX7_will_60 fg_X7_105 tq11 ?_
            refine r_astore (ls' := [(6, .ref (G.1 (xrf q11 7))), (0, .ref (G.1 a0)), (1, .int a1), (2, .int a2), (3, .int a3), (4, .int a4), (5, .int a5)]) dX7_will_63 (by decide) rfl ?_
            refine r_aload (place := 0) dX7_will_65 rfl ?_
            refine r_callVI (rest := []) dX7_will_67 m_X5_isHeld lk_X7_111 rfl (by decide) (xt_0_7 tq11) (c_X5_isHeld (xrf q11 7) (xt_0_7 tq11) h9) (by decide) rfl rfl (Nat.le_of_ble_eq_true rfl) (fun v13 h12 => ?_)
            refine r_if_eq (tgt := 77) dX7_will_70 (by decide) ?_ ?_
            · refine r_iconst dX7_will_77 xc_0 ?_
              exact r_sub [1, 3, 4, 5, 6, 0] rfl (t_X7_will_78 a0 a2 a3 a4 a5 (xrf q11 7) (0 : Int32) ta0 (xt_0_7 tq11) h12)
            · refine r_iconst dX7_will_73 xc_1 ?_
              refine r_goto (tgt := 78) dX7_will_74 (by decide) ?_
              exact r_sub [1, 3, 4, 5, 6, 0] rfl (t_X7_will_78 a0 a2 a3 a4 a5 (xrf q11 7) (1 : Int32) ta0 (xt_0_7 tq11) h12)
          · refine r_bipush dX7_will_48 xb_m2 ?_
            exact r_iret dX7_will_50 rfl
      · refine r_iconst dX7_will_28 xc_m1 ?_
        exact r_iret dX7_will_29 rfl
def f_X7_subscribe (a0 : Nat) (a1 : Int32) (a2 : Int32) (a3 : Int32) (h : Mem) : Option (Int32 × Mem) :=
  b2 (f_X7_noClient a1 h) fun v2 h1 =>
  if v2 = 0 then
      b2 (f_X7_outside a2 (0 : Int32) (2 : Int32) h1) fun v4 h3 =>
      if v4 = 0 then
          b2 (f_X7_outside a3 (0 : Int32) (3 : Int32) h3) fun v6 h5 =>
          if v6 = 0 then
              b2 (f_X7_isAwake a0 a1 h5) fun v8 h7 =>
              if v8 = 0 then
                  some ((-2 : Int32), h7)
              else
                  if (h7 a0 5) = 0 then
                      some ((-2 : Int32), h7)
                  else
                      aald (xrf (xrf a0 2) 0) a1 fun q9 =>
                      b2 (f_X0_addSubscription q9 (h7 a0 5) a2 a3 h7) fun v11 h10 =>
                      if v11 = 0 then
                          some ((-3 : Int32), h10)
                      else
                          if a3 = 0 then
                              b2 (f_X6_goKept (xrf a0 2) q9 (h10 a0 5) a2 h10) fun v13 h12 =>
                              some (v13, h12)
                          else
                              some ((0 : Int32), h10)
          else
              some ((-1 : Int32), h5)
      else
          some ((-1 : Int32), h3)
  else
      some ((-1 : Int32), h1)
set_option maxRecDepth 20000 in
theorem c_X7_subscribe {G : xG} (a0 : Nat) (ta0 : xTy a0 6) (a1 : Int32) (a2 : Int32) (a3 : Int32) (h : Mem) : Sm G 5 yX7_subscribe FX7_subscribe xcI [.ref (G.1 a0), .int a1, .int a2, .int a3] h (f_X7_subscribe a0 a1 a2 a3 h) := by
  refine Sm.of pn_X7 rfl (Nat.le_of_ble_eq_true rfl) (ls := [(0, .ref (G.1 a0)), (1, .int a1), (2, .int a2), (3, .int a3)]) rfl ?_
  unfold f_X7_subscribe
  refine r_iload_n (place := 1) dX7_subscribe_0 rfl rfl ?_
  refine r_callSI (rest := []) dX7_subscribe_1 m_X7_noClient lk_X7_81 (c_X7_noClient a1 h) (by decide) rfl rfl (Nat.le_of_ble_eq_true rfl) (fun v2 h1 => ?_)
  refine r_if_ne (tgt := 25) dX7_subscribe_4 (by decide) ?_ ?_
  · refine r_iconst dX7_subscribe_25 xc_m1 ?_
    exact r_iret dX7_subscribe_26 rfl
  · refine r_iload_n (place := 2) dX7_subscribe_7 rfl rfl ?_
    refine r_iconst dX7_subscribe_8 xc_0 ?_
    refine r_iconst dX7_subscribe_9 xc_2 ?_
    refine r_callSI (rest := []) dX7_subscribe_10 m_X7_outside lk_X7_45 (c_X7_outside a2 (0 : Int32) (2 : Int32) h1) (by decide) rfl rfl (Nat.le_of_ble_eq_true rfl) (fun v4 h3 => ?_)
    refine r_if_ne (tgt := 25) dX7_subscribe_13 (by decide) ?_ ?_
    · refine r_iconst dX7_subscribe_25 xc_m1 ?_
      exact r_iret dX7_subscribe_26 rfl
    · refine r_iload_n (place := 3) dX7_subscribe_16 rfl rfl ?_
      refine r_iconst dX7_subscribe_17 xc_0 ?_
      refine r_iconst dX7_subscribe_18 xc_3 ?_
      refine r_callSI (rest := []) dX7_subscribe_19 m_X7_outside lk_X7_45 (c_X7_outside a3 (0 : Int32) (3 : Int32) h3) (by decide) rfl rfl (Nat.le_of_ble_eq_true rfl) (fun v6 h5 => ?_)
      refine r_if_eq (tgt := 27) dX7_subscribe_22 (by decide) ?_ ?_
      · refine r_aload_n (place := 0) dX7_subscribe_27 rfl rfl ?_
        refine r_iload_n (place := 1) dX7_subscribe_28 rfl rfl ?_
        refine r_callVI (rest := []) dX7_subscribe_29 m_X7_isAwake lk_X7_84 rfl (by decide) ta0 (c_X7_isAwake a0 ta0 a1 h5) (by decide) rfl rfl (Nat.le_of_ble_eq_true rfl) (fun v8 h7 => ?_)
        refine r_if_eq (tgt := 42) dX7_subscribe_32 (by decide) ?_ ?_
        · refine r_bipush dX7_subscribe_42 xb_m2 ?_
          exact r_iret dX7_subscribe_44 rfl
        · refine r_aload_n (place := 0) dX7_subscribe_35 rfl rfl ?_
          refine r_getI dX7_subscribe_36 fg_X7_38 ta0 ?_
          refine r_if_ne (tgt := 45) dX7_subscribe_39 (by decide) ?_ ?_
          · refine r_aload_n (place := 0) dX7_subscribe_45 rfl rfl ?_
            refine r_getR dX7_subscribe_46 fg_X7_24 ta0 ?_
            refine r_getR dX7_subscribe_49 fg_X7_87 (xt_6_2 ta0) ?_
            refine r_iload_n (place := 1) dX7_subscribe_52 rfl rfl ?_
            refine r_aald10 dX7_subscribe_53 (xt_5_0 (xt_6_2 ta0)) (fun q9 tq9 => ?_)
            refine r_astore (ls' := [(4, .ref (G.1 q9)), (0, .ref (G.1 a0)), (1, .int a1), (2, .int a2), (3, .int a3)]) dX7_subscribe_54 (by decide) rfl ?_
            refine r_aload (place := 0) dX7_subscribe_56 rfl ?_
            refine r_aload_n (place := 1) dX7_subscribe_58 rfl rfl ?_
            refine r_getI dX7_subscribe_59 fg_X7_38 ta0 ?_
            refine r_iload_n (place := 3) dX7_subscribe_62 rfl rfl ?_
            refine r_iload_n (place := 4) dX7_subscribe_63 rfl rfl ?_
            refine r_callVI (rest := []) dX7_subscribe_64 m_X0_addSubscription lk_X7_121 rfl (by decide) tq9 (c_X0_addSubscription q9 tq9 (h7 a0 5) a2 a3 h7) (by decide) rfl rfl (Nat.le_of_ble_eq_true rfl) (fun v11 h10 => ?_)
            refine r_if_ne (tgt := 73) dX7_subscribe_67 (by decide) ?_ ?_
            · refine r_iload_n (place := 4) dX7_subscribe_73 rfl rfl ?_
              refine r_if_ne (tgt := 94) dX7_subscribe_74 (by decide) ?_ ?_
              · refine r_iconst dX7_subscribe_94 xc_0 ?_
                exact r_iret dX7_subscribe_95 rfl
              · refine r_aload_n (place := 1) dX7_subscribe_77 rfl rfl ?_
                refine r_getR dX7_subscribe_78 fg_X7_24 ta0 ?_
                refine r_aload (place := 0) dX7_subscribe_81 rfl ?_
                refine r_aload_n (place := 1) dX7_subscribe_83 rfl rfl ?_
                refine r_getI dX7_subscribe_84 fg_X7_38 ta0 ?_
                refine r_iload_n (place := 3) dX7_subscribe_87 rfl rfl ?_
                refine r_callVI (rest := []) dX7_subscribe_88 m_X6_goKept lk_X7_124 rfl (by decide) (xt_6_2 ta0) (c_X6_goKept (xrf a0 2) (xt_6_2 ta0) q9 tq9 (h10 a0 5) a2 h10) (by decide) rfl rfl (Nat.le_of_ble_eq_true rfl) (fun v13 h12 => ?_)
                refine r_goto (tgt := 95) dX7_subscribe_91 (by decide) ?_
                exact r_iret dX7_subscribe_95 rfl
            · refine r_bipush dX7_subscribe_70 xb_m3 ?_
              exact r_iret dX7_subscribe_72 rfl
          · refine r_bipush dX7_subscribe_42 xb_m2 ?_
            exact r_iret dX7_subscribe_44 rfl
      · refine r_iconst dX7_subscribe_25 xc_m1 ?_
        exact r_iret dX7_subscribe_26 rfl
def f_X7_leave (a0 : Nat) (a1 : Int32) (a2 : Int32) (h : Mem) : Option (Int32 × Mem) :=
  b2 (f_X7_noClient a1 h) fun v2 h1 =>
  if v2 = 0 then
      b2 (f_X7_outside a2 (0 : Int32) (3 : Int32) h1) fun v4 h3 =>
      if v4 = 0 then
          b2 (f_X7_isAwake a0 a1 h3) fun v6 h5 =>
          if v6 = 0 then
              some ((-2 : Int32), h5)
          else
              aald (xrf (xrf a0 2) 0) a1 fun q7 =>
              b2 (f_X0_findSubscription q7 (h5 a0 5) a2 h5) fun v9 h8 =>
              if 0 ≤ v9 then
                  b2 (f_X3_remove (xrf q7 0) v9 h8) fun _ h10 =>
                  b2 (f_X6_forgetEmptyShares (xrf a0 2) h10) fun _ h11 =>
                  some ((h11 (xrf q7 0) 3), h11)
              else
                  some ((-4 : Int32), h8)
      else
          some ((-1 : Int32), h3)
  else
      some ((-1 : Int32), h1)
set_option maxRecDepth 20000 in
theorem c_X7_leave {G : xG} (a0 : Nat) (ta0 : xTy a0 6) (a1 : Int32) (a2 : Int32) (h : Mem) : Sm G 5 yX7_leave FX7_leave xcI [.ref (G.1 a0), .int a1, .int a2] h (f_X7_leave a0 a1 a2 h) := by
  refine Sm.of pn_X7 rfl (Nat.le_of_ble_eq_true rfl) (ls := [(0, .ref (G.1 a0)), (1, .int a1), (2, .int a2)]) rfl ?_
  unfold f_X7_leave
  refine r_iload_n (place := 1) dX7_leave_0 rfl rfl ?_
  refine r_callSI (rest := []) dX7_leave_1 m_X7_noClient lk_X7_81 (c_X7_noClient a1 h) (by decide) rfl rfl (Nat.le_of_ble_eq_true rfl) (fun v2 h1 => ?_)
  refine r_if_ne (tgt := 16) dX7_leave_4 (by decide) ?_ ?_
  · refine r_iconst dX7_leave_16 xc_m1 ?_
    exact r_iret dX7_leave_17 rfl
  · refine r_iload_n (place := 2) dX7_leave_7 rfl rfl ?_
    refine r_iconst dX7_leave_8 xc_0 ?_
    refine r_iconst dX7_leave_9 xc_3 ?_
    refine r_callSI (rest := []) dX7_leave_10 m_X7_outside lk_X7_45 (c_X7_outside a2 (0 : Int32) (3 : Int32) h1) (by decide) rfl rfl (Nat.le_of_ble_eq_true rfl) (fun v4 h3 => ?_)
    refine r_if_eq (tgt := 18) dX7_leave_13 (by decide) ?_ ?_
    · refine r_aload_n (place := 0) dX7_leave_18 rfl rfl ?_
      refine r_iload_n (place := 1) dX7_leave_19 rfl rfl ?_
      refine r_callVI (rest := []) dX7_leave_20 m_X7_isAwake lk_X7_84 rfl (by decide) ta0 (c_X7_isAwake a0 ta0 a1 h3) (by decide) rfl rfl (Nat.le_of_ble_eq_true rfl) (fun v6 h5 => ?_)
      refine r_if_ne (tgt := 29) dX7_leave_23 (by decide) ?_ ?_
      · refine r_aload_n (place := 0) dX7_leave_29 rfl rfl ?_
        refine r_getR dX7_leave_30 fg_X7_24 ta0 ?_
        refine r_getR dX7_leave_33 fg_X7_87 (xt_6_2 ta0) ?_
        refine r_iload_n (place := 1) dX7_leave_36 rfl rfl ?_
        refine r_aald10 dX7_leave_37 (xt_5_0 (xt_6_2 ta0)) (fun q7 tq7 => ?_)
        refine r_astore_n (ls' := [(3, .ref (G.1 q7)), (0, .ref (G.1 a0)), (1, .int a1), (2, .int a2)]) dX7_leave_38 rfl (by decide) rfl ?_
        refine r_aload_n (place := 0) dX7_leave_39 rfl rfl ?_
        refine r_aload_n (place := 1) dX7_leave_40 rfl rfl ?_
        refine r_getI dX7_leave_41 fg_X7_38 ta0 ?_
        refine r_iload_n (place := 3) dX7_leave_44 rfl rfl ?_
        refine r_callVI (rest := []) dX7_leave_45 m_X0_findSubscription lk_X7_128 rfl (by decide) tq7 (c_X0_findSubscription q7 tq7 (h5 a0 5) a2 h5) (by decide) rfl rfl (Nat.le_of_ble_eq_true rfl) (fun v9 h8 => ?_)
        refine r_istore (ls' := [(4, .int v9), (3, .ref (G.1 q7)), (0, .ref (G.1 a0)), (1, .int a1), (2, .int a2)]) dX7_leave_48 (by decide) rfl ?_
        refine r_iload (place := 0) dX7_leave_50 rfl ?_
        refine r_if_ge (tgt := 58) dX7_leave_52 (by decide) ?_ ?_
        · refine r_aload_n (place := 1) dX7_leave_58 rfl rfl ?_
          refine r_getR dX7_leave_59 fg_X7_131 tq7 ?_
          refine r_iload (place := 0) dX7_leave_62 rfl ?_
          refine r_callVV (rest := []) dX7_leave_64 m_X3_remove lk_X7_135 rfl (by decide) (xt_0_0 tq7) (c_X3_remove (xrf q7 0) (xt_0_0 tq7) v9 h8) (by decide) rfl rfl (Nat.le_of_ble_eq_true rfl) (fun h10 => ?_)
          refine r_aload_n (place := 2) dX7_leave_67 rfl rfl ?_
          refine r_getR dX7_leave_68 fg_X7_24 ta0 ?_
          refine r_callVV (rest := []) dX7_leave_71 m_X6_forgetEmptyShares lk_X7_141 rfl (by decide) (xt_6_2 ta0) (c_X6_forgetEmptyShares (xrf a0 2) (xt_6_2 ta0) h10) (by decide) rfl rfl (Nat.le_of_ble_eq_true rfl) (fun h11 => ?_)
          refine r_aload_n (place := 1) dX7_leave_74 rfl rfl ?_
          refine r_getR dX7_leave_75 fg_X7_131 tq7 ?_
          refine r_getI dX7_leave_78 fg_X7_144 (xt_0_0 tq7) ?_
          exact r_iret dX7_leave_81 rfl
        · refine r_bipush dX7_leave_55 xb_m4 ?_
          exact r_iret dX7_leave_57 rfl
      · refine r_bipush dX7_leave_26 xb_m2 ?_
        exact r_iret dX7_leave_28 rfl
    · refine r_iconst dX7_leave_16 xc_m1 ?_
      exact r_iret dX7_leave_17 rfl
def f_X7_alias_65  (a0 : Nat) (a2 : Int32) (a3 : Nat) (s0 : Int32) (h : Mem) : Option (Int32 × Mem) :=
  ast h a3 (a2 - (1 : Int32)) (h a0 5) fun h1 =>
  some (s0, h1)
set_option maxRecDepth 20000 in
theorem t_X7_alias_65 {G : xG}  (a0 : Nat) (a2 : Int32) (a3 : Nat) (s0 : Int32) (ta0 : xTy a0 6) (ta3 : xTy a3 8) (h : Mem) : Rn G 3 FX7_alias xcI 65 [(0, .ref (G.1 a0)), (2, .int a2), (3, .ref (G.1 a3))] [.int s0] h (f_X7_alias_65 a0 a2 a3 s0 h) := by
  unfold f_X7_alias_65
  refine r_istore (ls' := [(4, .int s0), (0, .ref (G.1 a0)), (2, .int a2), (3, .ref (G.1 a3))]) dX7_alias_65 (by decide) rfl ?_
  refine r_aload_n (place := 3) dX7_alias_67 rfl rfl ?_
  refine r_iload_n (place := 2) dX7_alias_68 rfl rfl ?_
  refine r_iconst dX7_alias_69 xc_1 ?_
  refine r_isub dX7_alias_70 ?_
  refine r_aload_n (place := 1) dX7_alias_71 rfl rfl ?_
  refine r_getI dX7_alias_72 fg_X7_38 ta0 ?_
  refine r_iast dX7_alias_75 ta3 (fun h1 => ?_)
  refine r_iload (place := 0) dX7_alias_76 rfl ?_
  exact r_iret dX7_alias_78 rfl
def f_X7_alias (a0 : Nat) (a1 : Int32) (a2 : Int32) (h : Mem) : Option (Int32 × Mem) :=
  b2 (f_X7_noClient a1 h) fun v2 h1 =>
  if v2 = 0 then
      b2 (f_X7_outside a2 (1 : Int32) (4 : Int32) h1) fun v4 h3 =>
      if v4 = 0 then
          b2 (f_X7_isAwake a0 a1 h3) fun v6 h5 =>
          if v6 = 0 then
              some ((-2 : Int32), h5)
          else
              b2 (f_X1_isTopic (h5 a0 5) h5) fun v8 h7 =>
              if v8 = 0 then
                  some ((-2 : Int32), h7)
              else
                  aald (xrf (xrf a0 2) 0) a1 fun q9 =>
                  ald h7 (xrf q9 1) (a2 - (1 : Int32)) fun v10 =>
                  if v10 = 0 then
                      f_X7_alias_65 a0 a2 (xrf q9 1) (0 : Int32) h7
                  else
                      f_X7_alias_65 a0 a2 (xrf q9 1) (1 : Int32) h7
      else
          some ((-1 : Int32), h3)
  else
      some ((-1 : Int32), h1)
set_option maxRecDepth 20000 in
theorem c_X7_alias {G : xG} (a0 : Nat) (ta0 : xTy a0 6) (a1 : Int32) (a2 : Int32) (h : Mem) : Sm G 3 yX7_alias FX7_alias xcI [.ref (G.1 a0), .int a1, .int a2] h (f_X7_alias a0 a1 a2 h) := by
  refine Sm.of pn_X7 rfl (Nat.le_of_ble_eq_true rfl) (ls := [(0, .ref (G.1 a0)), (1, .int a1), (2, .int a2)]) rfl ?_
  unfold f_X7_alias
  refine r_iload_n (place := 1) dX7_alias_0 rfl rfl ?_
  refine r_callSI (rest := []) dX7_alias_1 m_X7_noClient lk_X7_81 (c_X7_noClient a1 h) (by decide) rfl rfl (Nat.le_of_ble_eq_true rfl) (fun v2 h1 => ?_)
  refine r_if_ne (tgt := 16) dX7_alias_4 (by decide) ?_ ?_
  · refine r_iconst dX7_alias_16 xc_m1 ?_
    exact r_iret dX7_alias_17 rfl
  · refine r_iload_n (place := 2) dX7_alias_7 rfl rfl ?_
    refine r_iconst dX7_alias_8 xc_1 ?_
    refine r_iconst dX7_alias_9 xc_4 ?_
    refine r_callSI (rest := []) dX7_alias_10 m_X7_outside lk_X7_45 (c_X7_outside a2 (1 : Int32) (4 : Int32) h1) (by decide) rfl rfl (Nat.le_of_ble_eq_true rfl) (fun v4 h3 => ?_)
    refine r_if_eq (tgt := 18) dX7_alias_13 (by decide) ?_ ?_
    · refine r_aload_n (place := 0) dX7_alias_18 rfl rfl ?_
      refine r_iload_n (place := 1) dX7_alias_19 rfl rfl ?_
      refine r_callVI (rest := []) dX7_alias_20 m_X7_isAwake lk_X7_84 rfl (by decide) ta0 (c_X7_isAwake a0 ta0 a1 h3) (by decide) rfl rfl (Nat.le_of_ble_eq_true rfl) (fun v6 h5 => ?_)
      refine r_if_eq (tgt := 36) dX7_alias_23 (by decide) ?_ ?_
      · refine r_bipush dX7_alias_36 xb_m2 ?_
        exact r_iret dX7_alias_38 rfl
      · refine r_aload_n (place := 0) dX7_alias_26 rfl rfl ?_
        refine r_getI dX7_alias_27 fg_X7_38 ta0 ?_
        refine r_callSI (rest := []) dX7_alias_30 m_X1_isTopic lk_X7_102 (c_X1_isTopic (h5 a0 5) h5) (by decide) rfl rfl (Nat.le_of_ble_eq_true rfl) (fun v8 h7 => ?_)
        refine r_if_ne (tgt := 39) dX7_alias_33 (by decide) ?_ ?_
        · refine r_aload_n (place := 0) dX7_alias_39 rfl rfl ?_
          refine r_getR dX7_alias_40 fg_X7_24 ta0 ?_
          refine r_getR dX7_alias_43 fg_X7_87 (xt_6_2 ta0) ?_
          refine r_iload_n (place := 1) dX7_alias_46 rfl rfl ?_
          refine r_aald10 dX7_alias_47 (xt_5_0 (xt_6_2 ta0)) (fun q9 tq9 => ?_)
          refine r_getR dX7_alias_48 fg_X7_147 tq9 ?_
          refine r_astore_n (ls' := [(3, .ref (G.1 (xrf q9 1))), (0, .ref (G.1 a0)), (1, .int a1), (2, .int a2)]) dX7_alias_51 rfl (by decide) rfl ?_
          refine r_aload_n (place := 0) dX7_alias_52 rfl rfl ?_
          refine r_iload_n (place := 3) dX7_alias_53 rfl rfl ?_
          refine r_iconst dX7_alias_54 xc_1 ?_
          refine r_isub dX7_alias_55 ?_
          refine r_iald dX7_alias_56 (xt_0_1 tq9) (fun v10 => ?_)
          refine r_if_ne (tgt := 64) dX7_alias_57 (by decide) ?_ ?_
          · refine r_iconst dX7_alias_64 xc_1 ?_
            exact r_sub [1, 3, 0] rfl (t_X7_alias_65 a0 a2 (xrf q9 1) (1 : Int32) ta0 (xt_0_1 tq9) h7)
          · refine r_iconst dX7_alias_60 xc_0 ?_
            refine r_goto (tgt := 65) dX7_alias_61 (by decide) ?_
            exact r_sub [1, 3, 0] rfl (t_X7_alias_65 a0 a2 (xrf q9 1) (0 : Int32) ta0 (xt_0_1 tq9) h7)
        · refine r_bipush dX7_alias_36 xb_m2 ?_
          exact r_iret dX7_alias_38 rfl
    · refine r_iconst dX7_alias_16 xc_m1 ?_
      exact r_iret dX7_alias_17 rfl
def f_X7_say_97  (s0 : Nat) (s1 : Int32) (s2 : Int32) (s3 : Int32) (s4 : Int32) (h : Mem) : Option (Int32 × Mem) :=
  b2 (f_X6_utter s0 s1 s2 s3 s4 h) fun v2 h1 =>
  some (v2, h1)
set_option maxRecDepth 20000 in
theorem t_X7_say_97 {G : xG}  (s0 : Nat) (s1 : Int32) (s2 : Int32) (s3 : Int32) (s4 : Int32) (ts0 : xTy s0 5) (h : Mem) : Rn G 6 FX7_say xcI 97 [] [.int s4, .int s3, .int s2, .int s1, .ref (G.1 s0)] h (f_X7_say_97 s0 s1 s2 s3 s4 h) := by
  unfold f_X7_say_97
  refine r_callVI (rest := []) dX7_say_97 m_X6_utter lk_X7_151 rfl (by decide) ts0 (c_X6_utter s0 ts0 s1 s2 s3 s4 h) (by decide) rfl rfl (Nat.le_of_ble_eq_true rfl) (fun v2 h1 => ?_)
  exact r_iret dX7_say_100 rfl
def f_X7_say_56  (a0 : Nat) (a1 : Int32) (a3 : Int32) (a4 : Int32) (a5 : Int32) (s0 : Int32) (h : Mem) : Option (Int32 × Mem) :=
  b2 (f_X7_isAwake a0 a1 h) fun v2 h1 =>
  if v2 = 0 then
      some ((-2 : Int32), h1)
  else
      b2 (f_X1_isTopic s0 h1) fun v4 h3 =>
      if v4 = 0 then
          some ((-2 : Int32), h3)
      else
          if a5 = (1 : Int32) then
              f_X7_say_97 (xrf a0 2) s0 a3 a4 (1 : Int32) h3
          else
              f_X7_say_97 (xrf a0 2) s0 a3 a4 (0 : Int32) h3
set_option maxRecDepth 20000 in
theorem t_X7_say_56 {G : xG}  (a0 : Nat) (a1 : Int32) (a3 : Int32) (a4 : Int32) (a5 : Int32) (s0 : Int32) (ta0 : xTy a0 6) (h : Mem) : Rn G 6 FX7_say xcI 56 [(0, .ref (G.1 a0)), (1, .int a1), (3, .int a3), (4, .int a4), (5, .int a5)] [.int s0] h (f_X7_say_56 a0 a1 a3 a4 a5 s0 h) := by
  unfold f_X7_say_56
  refine r_istore (ls' := [(6, .int s0), (0, .ref (G.1 a0)), (1, .int a1), (3, .int a3), (4, .int a4), (5, .int a5)]) dX7_say_56 (by decide) rfl ?_
  refine r_aload_n (place := 1) dX7_say_58 rfl rfl ?_
  refine r_iload_n (place := 2) dX7_say_59 rfl rfl ?_
  refine r_callVI (rest := []) dX7_say_60 m_X7_isAwake lk_X7_84 rfl (by decide) ta0 (c_X7_isAwake a0 ta0 a1 h) (by decide) rfl rfl (Nat.le_of_ble_eq_true rfl) (fun v2 h1 => ?_)
  refine r_if_eq (tgt := 74) dX7_say_63 (by decide) ?_ ?_
  · refine r_bipush dX7_say_74 xb_m2 ?_
    exact r_iret dX7_say_76 rfl
  · refine r_iload (place := 0) dX7_say_66 rfl ?_
    refine r_callSI (rest := []) dX7_say_68 m_X1_isTopic lk_X7_102 (c_X1_isTopic s0 h1) (by decide) rfl rfl (Nat.le_of_ble_eq_true rfl) (fun v4 h3 => ?_)
    refine r_if_ne (tgt := 77) dX7_say_71 (by decide) ?_ ?_
    · refine r_aload_n (place := 1) dX7_say_77 rfl rfl ?_
      refine r_getR dX7_say_78 fg_X7_24 ta0 ?_
      refine r_iload (place := 0) dX7_say_81 rfl ?_
      refine r_iload_n (place := 3) dX7_say_83 rfl rfl ?_
      refine r_iload (place := 4) dX7_say_84 rfl ?_
      refine r_iload (place := 5) dX7_say_86 rfl ?_
      refine r_iconst dX7_say_88 xc_1 ?_
      refine r_ic_ne (tgt := 96) dX7_say_89 (by decide) ?_ ?_
      · refine r_iconst dX7_say_96 xc_0 ?_
        exact r_sub [] rfl (t_X7_say_97 (xrf a0 2) s0 a3 a4 (0 : Int32) (xt_6_2 ta0) h3)
      · refine r_iconst dX7_say_92 xc_1 ?_
        refine r_goto (tgt := 97) dX7_say_93 (by decide) ?_
        exact r_sub [] rfl (t_X7_say_97 (xrf a0 2) s0 a3 a4 (1 : Int32) (xt_6_2 ta0) h3)
    · refine r_bipush dX7_say_74 xb_m2 ?_
      exact r_iret dX7_say_76 rfl
def f_X7_say (a0 : Nat) (a1 : Int32) (a2 : Int32) (a3 : Int32) (a4 : Int32) (a5 : Int32) (h : Mem) : Option (Int32 × Mem) :=
  b2 (f_X7_noClient a1 h) fun v2 h1 =>
  if v2 = 0 then
      b2 (f_X7_outside a2 (0 : Int32) (4 : Int32) h1) fun v4 h3 =>
      if v4 = 0 then
          b2 (f_X7_badLetter a3 a4 a5 h3) fun v6 h5 =>
          if v6 = 0 then
              if a2 = 0 then
                  f_X7_say_56 a0 a1 a3 a4 a5 (h5 a0 5) h5
              else
                  aald (xrf (xrf a0 2) 0) a1 fun q7 =>
                  ald h5 (xrf q7 1) (a2 - (1 : Int32)) fun v8 =>
                  f_X7_say_56 a0 a1 a3 a4 a5 v8 h5
          else
              some ((-1 : Int32), h5)
      else
          some ((-1 : Int32), h3)
  else
      some ((-1 : Int32), h1)
set_option maxRecDepth 20000 in
theorem c_X7_say {G : xG} (a0 : Nat) (ta0 : xTy a0 6) (a1 : Int32) (a2 : Int32) (a3 : Int32) (a4 : Int32) (a5 : Int32) (h : Mem) : Sm G 6 yX7_say FX7_say xcI [.ref (G.1 a0), .int a1, .int a2, .int a3, .int a4, .int a5] h (f_X7_say a0 a1 a2 a3 a4 a5 h) := by
  refine Sm.of pn_X7 rfl (Nat.le_of_ble_eq_true rfl) (ls := [(0, .ref (G.1 a0)), (1, .int a1), (2, .int a2), (3, .int a3), (4, .int a4), (5, .int a5)]) rfl ?_
  unfold f_X7_say
  refine r_iload_n (place := 1) dX7_say_0 rfl rfl ?_
  refine r_callSI (rest := []) dX7_say_1 m_X7_noClient lk_X7_81 (c_X7_noClient a1 h) (by decide) rfl rfl (Nat.le_of_ble_eq_true rfl) (fun v2 h1 => ?_)
  refine r_if_ne (tgt := 27) dX7_say_4 (by decide) ?_ ?_
  · refine r_iconst dX7_say_27 xc_m1 ?_
    exact r_iret dX7_say_28 rfl
  · refine r_iload_n (place := 2) dX7_say_7 rfl rfl ?_
    refine r_iconst dX7_say_8 xc_0 ?_
    refine r_iconst dX7_say_9 xc_4 ?_
    refine r_callSI (rest := []) dX7_say_10 m_X7_outside lk_X7_45 (c_X7_outside a2 (0 : Int32) (4 : Int32) h1) (by decide) rfl rfl (Nat.le_of_ble_eq_true rfl) (fun v4 h3 => ?_)
    refine r_if_ne (tgt := 27) dX7_say_13 (by decide) ?_ ?_
    · refine r_iconst dX7_say_27 xc_m1 ?_
      exact r_iret dX7_say_28 rfl
    · refine r_iload_n (place := 3) dX7_say_16 rfl rfl ?_
      refine r_iload (place := 4) dX7_say_17 rfl ?_
      refine r_iload (place := 5) dX7_say_19 rfl ?_
      refine r_callSI (rest := []) dX7_say_21 m_X7_badLetter lk_X7_99 (c_X7_badLetter a3 a4 a5 h3) (by decide) rfl rfl (Nat.le_of_ble_eq_true rfl) (fun v6 h5 => ?_)
      refine r_if_eq (tgt := 29) dX7_say_24 (by decide) ?_ ?_
      · refine r_iload_n (place := 2) dX7_say_29 rfl rfl ?_
        refine r_if_ne (tgt := 40) dX7_say_30 (by decide) ?_ ?_
        · refine r_aload_n (place := 0) dX7_say_40 rfl rfl ?_
          refine r_getR dX7_say_41 fg_X7_24 ta0 ?_
          refine r_getR dX7_say_44 fg_X7_87 (xt_6_2 ta0) ?_
          refine r_iload_n (place := 1) dX7_say_47 rfl rfl ?_
          refine r_aald10 dX7_say_48 (xt_5_0 (xt_6_2 ta0)) (fun q7 tq7 => ?_)
          refine r_getR dX7_say_49 fg_X7_147 tq7 ?_
          refine r_iload_n (place := 2) dX7_say_52 rfl rfl ?_
          refine r_iconst dX7_say_53 xc_1 ?_
          refine r_isub dX7_say_54 ?_
          refine r_iald dX7_say_55 (xt_0_1 tq7) (fun v8 => ?_)
          exact r_sub [0, 1, 3, 4, 5] rfl (t_X7_say_56 a0 a1 a3 a4 a5 v8 ta0 h5)
        · refine r_aload_n (place := 0) dX7_say_33 rfl rfl ?_
          refine r_getI dX7_say_34 fg_X7_38 ta0 ?_
          refine r_goto (tgt := 56) dX7_say_37 (by decide) ?_
          exact r_sub [0, 1, 3, 4, 5] rfl (t_X7_say_56 a0 a1 a3 a4 a5 (h5 a0 5) ta0 h5)
      · refine r_iconst dX7_say_27 xc_m1 ?_
        exact r_iret dX7_say_28 rfl
def f_X7_carry_88  (a3 : Int32) (a5 : Nat) (a6 : Int32) (h : Mem) : Option (Int32 × Mem) :=
  if a3 = (2 : Int32) then
      some (a6, h)
  else
      b2 (f_X3_remove a5 (0 : Int32) h) fun _ h1 =>
      some (a6, h1)
set_option maxRecDepth 20000 in
theorem t_X7_carry_88 {G : xG}  (a3 : Int32) (a5 : Nat) (a6 : Int32) (ta5 : xTy a5 2) (h : Mem) : Rn G 5 FX7_carry xcI 88 [(3, .int a3), (5, .ref (G.1 a5)), (6, .int a6)] [] h (f_X7_carry_88 a3 a5 a6 h) := by
  unfold f_X7_carry_88
  refine r_iload_n (place := 0) dX7_carry_88 rfl rfl ?_
  refine r_iconst dX7_carry_89 xc_2 ?_
  refine r_ic_eq (tgt := 99) dX7_carry_90 (by decide) ?_ ?_
  · refine r_iload (place := 2) dX7_carry_99 rfl ?_
    exact r_iret dX7_carry_101 rfl
  · refine r_aload (place := 1) dX7_carry_93 rfl ?_
    refine r_iconst dX7_carry_95 xc_0 ?_
    refine r_callVV (rest := []) dX7_carry_96 m_X3_remove lk_X7_135 rfl (by decide) ta5 (c_X3_remove a5 ta5 (0 : Int32) h) (by decide) rfl rfl (Nat.le_of_ble_eq_true rfl) (fun h1 => ?_)
    refine r_iload (place := 2) dX7_carry_99 rfl ?_
    exact r_iret dX7_carry_101 rfl
def f_X7_carry (a0 : Nat) (a1 : Int32) (a2 : Int32) (a3 : Int32) (h : Mem) : Option (Int32 × Mem) :=
  b2 (f_X7_noClient a1 h) fun v2 h1 =>
  if v2 = 0 then
      b2 (f_X7_outside a2 (0 : Int32) (1 : Int32) h1) fun v4 h3 =>
      if v4 = 0 then
          b2 (f_X7_outside a3 (0 : Int32) (2 : Int32) h3) fun v6 h5 =>
          if v6 = 0 then
              b2 (f_X7_isAwake a0 a1 h5) fun v8 h7 =>
              if v8 = 0 then
                  some ((-2 : Int32), h7)
              else
                  aald (xrf (xrf a0 2) 0) a1 fun q9 =>
                  b2 (f_X0_packets q9 a2 h7) fun v11 h10 =>
                  tg 2 v11 <|
                  if (h10 v11 3) = 0 then
                      some ((-4 : Int32), h10)
                  else
                      b2 (f_X3_cell v11 (0 : Int32) (0 : Int32) h10) fun v13 h12 =>
                      if a3 = (1 : Int32) then
                          f_X7_carry_88 a3 v11 v13 h12
                      else
                          b2 (f_X0_carryFirst q9 a2 h12) fun _ h14 =>
                          f_X7_carry_88 a3 v11 v13 h14
          else
              some ((-1 : Int32), h5)
      else
          some ((-1 : Int32), h3)
  else
      some ((-1 : Int32), h1)
set_option maxRecDepth 20000 in
theorem c_X7_carry {G : xG} (a0 : Nat) (ta0 : xTy a0 6) (a1 : Int32) (a2 : Int32) (a3 : Int32) (h : Mem) : Sm G 5 yX7_carry FX7_carry xcI [.ref (G.1 a0), .int a1, .int a2, .int a3] h (f_X7_carry a0 a1 a2 a3 h) := by
  refine Sm.of pn_X7 rfl (Nat.le_of_ble_eq_true rfl) (ls := [(0, .ref (G.1 a0)), (1, .int a1), (2, .int a2), (3, .int a3)]) rfl ?_
  unfold f_X7_carry
  refine r_iload_n (place := 1) dX7_carry_0 rfl rfl ?_
  refine r_callSI (rest := []) dX7_carry_1 m_X7_noClient lk_X7_81 (c_X7_noClient a1 h) (by decide) rfl rfl (Nat.le_of_ble_eq_true rfl) (fun v2 h1 => ?_)
  refine r_if_ne (tgt := 25) dX7_carry_4 (by decide) ?_ ?_
  · refine r_iconst dX7_carry_25 xc_m1 ?_
    exact r_iret dX7_carry_26 rfl
  · refine r_iload_n (place := 2) dX7_carry_7 rfl rfl ?_
    refine r_iconst dX7_carry_8 xc_0 ?_
    refine r_iconst dX7_carry_9 xc_1 ?_
    refine r_callSI (rest := []) dX7_carry_10 m_X7_outside lk_X7_45 (c_X7_outside a2 (0 : Int32) (1 : Int32) h1) (by decide) rfl rfl (Nat.le_of_ble_eq_true rfl) (fun v4 h3 => ?_)
    refine r_if_ne (tgt := 25) dX7_carry_13 (by decide) ?_ ?_
    · refine r_iconst dX7_carry_25 xc_m1 ?_
      exact r_iret dX7_carry_26 rfl
    · refine r_iload_n (place := 3) dX7_carry_16 rfl rfl ?_
      refine r_iconst dX7_carry_17 xc_0 ?_
      refine r_iconst dX7_carry_18 xc_2 ?_
      refine r_callSI (rest := []) dX7_carry_19 m_X7_outside lk_X7_45 (c_X7_outside a3 (0 : Int32) (2 : Int32) h3) (by decide) rfl rfl (Nat.le_of_ble_eq_true rfl) (fun v6 h5 => ?_)
      refine r_if_eq (tgt := 27) dX7_carry_22 (by decide) ?_ ?_
      · refine r_aload_n (place := 0) dX7_carry_27 rfl rfl ?_
        refine r_iload_n (place := 1) dX7_carry_28 rfl rfl ?_
        refine r_callVI (rest := []) dX7_carry_29 m_X7_isAwake lk_X7_84 rfl (by decide) ta0 (c_X7_isAwake a0 ta0 a1 h5) (by decide) rfl rfl (Nat.le_of_ble_eq_true rfl) (fun v8 h7 => ?_)
        refine r_if_ne (tgt := 38) dX7_carry_32 (by decide) ?_ ?_
        · refine r_aload_n (place := 0) dX7_carry_38 rfl rfl ?_
          refine r_getR dX7_carry_39 fg_X7_24 ta0 ?_
          refine r_getR dX7_carry_42 fg_X7_87 (xt_6_2 ta0) ?_
          refine r_iload_n (place := 1) dX7_carry_45 rfl rfl ?_
          refine r_aald10 dX7_carry_46 (xt_5_0 (xt_6_2 ta0)) (fun q9 tq9 => ?_)
          refine r_astore (ls' := [(4, .ref (G.1 q9)), (0, .ref (G.1 a0)), (1, .int a1), (2, .int a2), (3, .int a3)]) dX7_carry_47 (by decide) rfl ?_
          refine r_aload (place := 0) dX7_carry_49 rfl ?_
          refine r_iload_n (place := 3) dX7_carry_51 rfl rfl ?_
          refine r_callVR (rest := []) dX7_carry_52 m_X0_packets lk_X7_155 rfl (by decide) tq9 (c_X0_packets q9 tq9 a2 h7) (by decide) rfl rfl (Nat.le_of_ble_eq_true rfl) (fun v11 h10 => ?_)
          refine r_tg (fun tv11 => ?_)
          refine r_astore (ls' := [(5, .ref (G.1 v11)), (4, .ref (G.1 q9)), (0, .ref (G.1 a0)), (1, .int a1), (2, .int a2), (3, .int a3)]) dX7_carry_55 (by decide) rfl ?_
          refine r_aload (place := 0) dX7_carry_57 rfl ?_
          refine r_getI dX7_carry_59 fg_X7_144 tv11 ?_
          refine r_if_ne (tgt := 68) dX7_carry_62 (by decide) ?_ ?_
          · refine r_aload (place := 0) dX7_carry_68 rfl ?_
            refine r_iconst dX7_carry_70 xc_0 ?_
            refine r_iconst dX7_carry_71 xc_0 ?_
            refine r_callVI (rest := []) dX7_carry_72 m_X3_cell lk_X7_159 rfl (by decide) tv11 (c_X3_cell v11 tv11 (0 : Int32) (0 : Int32) h10) (by decide) rfl rfl (Nat.le_of_ble_eq_true rfl) (fun v13 h12 => ?_)
            refine r_istore (ls' := [(6, .int v13), (5, .ref (G.1 v11)), (4, .ref (G.1 q9)), (0, .ref (G.1 a0)), (1, .int a1), (2, .int a2), (3, .int a3)]) dX7_carry_75 (by decide) rfl ?_
            refine r_iload_n (place := 6) dX7_carry_77 rfl rfl ?_
            refine r_iconst dX7_carry_78 xc_1 ?_
            refine r_ic_eq (tgt := 88) dX7_carry_79 (by decide) ?_ ?_
            · exact r_sub [6, 1, 0] rfl (t_X7_carry_88 a3 v11 v13 tv11 h12)
            · refine r_aload (place := 2) dX7_carry_82 rfl ?_
              refine r_iload_n (place := 5) dX7_carry_84 rfl rfl ?_
              refine r_callVV (rest := []) dX7_carry_85 m_X0_carryFirst lk_X7_162 rfl (by decide) tq9 (c_X0_carryFirst q9 tq9 a2 h12) (by decide) rfl rfl (Nat.le_of_ble_eq_true rfl) (fun h14 => ?_)
              exact r_sub [6, 1, 0] rfl (t_X7_carry_88 a3 v11 v13 tv11 h14)
          · refine r_bipush dX7_carry_65 xb_m4 ?_
            exact r_iret dX7_carry_67 rfl
        · refine r_bipush dX7_carry_35 xb_m2 ?_
          exact r_iret dX7_carry_37 rfl
      · refine r_iconst dX7_carry_25 xc_m1 ?_
        exact r_iret dX7_carry_26 rfl
def f_X7_again (a0 : Nat) (a1 : Int32) (h : Mem) : Option (Int32 × Mem) :=
  b2 (f_X7_noClient a1 h) fun v2 h1 =>
  if v2 = 0 then
      b2 (f_X7_isAwake a0 a1 h1) fun v4 h3 =>
      if v4 = 0 then
          some ((-2 : Int32), h3)
      else
          aald (xrf (xrf a0 2) 0) a1 fun q5 =>
          b2 (f_X0_sendAgain q5 h3) fun v7 h6 =>
          some (v7, h6)
  else
      some ((-1 : Int32), h1)
set_option maxRecDepth 20000 in
theorem c_X7_again {G : xG} (a0 : Nat) (ta0 : xTy a0 6) (a1 : Int32) (h : Mem) : Sm G 3 yX7_again FX7_again xcI [.ref (G.1 a0), .int a1] h (f_X7_again a0 a1 h) := by
  refine Sm.of pn_X7 rfl (Nat.le_of_ble_eq_true rfl) (ls := [(0, .ref (G.1 a0)), (1, .int a1)]) rfl ?_
  unfold f_X7_again
  refine r_iload_n (place := 1) dX7_again_0 rfl rfl ?_
  refine r_callSI (rest := []) dX7_again_1 m_X7_noClient lk_X7_81 (c_X7_noClient a1 h) (by decide) rfl rfl (Nat.le_of_ble_eq_true rfl) (fun v2 h1 => ?_)
  refine r_if_eq (tgt := 9) dX7_again_4 (by decide) ?_ ?_
  · refine r_aload_n (place := 0) dX7_again_9 rfl rfl ?_
    refine r_iload_n (place := 1) dX7_again_10 rfl rfl ?_
    refine r_callVI (rest := []) dX7_again_11 m_X7_isAwake lk_X7_84 rfl (by decide) ta0 (c_X7_isAwake a0 ta0 a1 h1) (by decide) rfl rfl (Nat.le_of_ble_eq_true rfl) (fun v4 h3 => ?_)
    refine r_if_ne (tgt := 20) dX7_again_14 (by decide) ?_ ?_
    · refine r_aload_n (place := 0) dX7_again_20 rfl rfl ?_
      refine r_getR dX7_again_21 fg_X7_24 ta0 ?_
      refine r_getR dX7_again_24 fg_X7_87 (xt_6_2 ta0) ?_
      refine r_iload_n (place := 1) dX7_again_27 rfl rfl ?_
      refine r_aald10 dX7_again_28 (xt_5_0 (xt_6_2 ta0)) (fun q5 tq5 => ?_)
      refine r_callVI (rest := []) dX7_again_29 m_X0_sendAgain lk_X7_165 rfl (by decide) tq5 (c_X0_sendAgain q5 tq5 h3) (by decide) rfl rfl (Nat.le_of_ble_eq_true rfl) (fun v7 h6 => ?_)
      exact r_iret dX7_again_32 rfl
    · refine r_bipush dX7_again_17 xb_m2 ?_
      exact r_iret dX7_again_19 rfl
  · refine r_iconst dX7_again_7 xc_m1 ?_
    exact r_iret dX7_again_8 rfl
def f_X7_tick_16  : Nat → Nat → Int32 → Int32 → Int32 → Mem → Option (Int32 × Mem)
  | 0, _, _, _, _, _ => none
  | n + 1, a0, a1, a2, a3, h =>
    if a1 ≤ a3 then
        some (a2, h)
    else
        b2 (f_X6_passTick (xrf a0 2) h) fun v2 h1 =>
        (f_X7_tick_16 n) a0 a1 (a2 + v2) (a3 + (1 : Int32)) h1
set_option maxRecDepth 20000 in
theorem t_X7_tick_16 {G : xG}  : ∀ (n : Nat) (a0 : Nat) (a1 : Int32) (a2 : Int32) (a3 : Int32) (ta0 : xTy a0 6) (h : Mem), Rn G 7 FX7_tick xcI 16 [(0, .ref (G.1 a0)), (1, .int a1), (2, .int a2), (3, .int a3)] [] h (f_X7_tick_16 n a0 a1 a2 a3 h) := by
  intro n
  induction n with
  | zero => intros; intro r hr; cases hr
  | succ n ih =>
    intro a0 a1 a2 a3 ta0 h
    unfold f_X7_tick_16
    refine r_iload_n (place := 3) dX7_tick_16 rfl rfl ?_
    refine r_iload_n (place := 1) dX7_tick_17 rfl rfl ?_
    refine r_ic_ge (tgt := 37) dX7_tick_18 (by decide) ?_ ?_
    · refine r_iload_n (place := 2) dX7_tick_37 rfl rfl ?_
      exact r_iret dX7_tick_38 rfl
    · refine r_iload_n (place := 2) dX7_tick_21 rfl rfl ?_
      refine r_aload_n (place := 0) dX7_tick_22 rfl rfl ?_
      refine r_getR dX7_tick_23 fg_X7_24 ta0 ?_
      refine r_callVI (rest := [.int a2]) dX7_tick_26 m_X6_passTick lk_X7_168 rfl (by decide) (xt_6_2 ta0) (c_X6_passTick (xrf a0 2) (xt_6_2 ta0) h) (by decide) rfl rfl (Nat.le_of_ble_eq_true rfl) (fun v2 h1 => ?_)
      refine r_iadd dX7_tick_29 ?_
      refine r_istore_n (ls' := [(2, .int (a2 + v2)), (0, .ref (G.1 a0)), (1, .int a1), (3, .int a3)]) dX7_tick_30 rfl (by decide) rfl ?_
      refine r_iincC (place := 3) (ls' := [(3, .int (a3 + (1 : Int32))), (2, .int (a2 + v2)), (0, .ref (G.1 a0)), (1, .int a1)]) dX7_tick_31 rfl xc_1 (by decide) rfl ?_
      refine r_goto (tgt := 16) dX7_tick_34 (by decide) ?_
      exact r_sub [2, 3, 1, 0] rfl (ih a0 a1 (a2 + v2) (a3 + (1 : Int32)) ta0 h1)
def f_X7_tick (a0 : Nat) (a1 : Int32) (h : Mem) : Option (Int32 × Mem) :=
  b2 (f_X7_outside a1 (1 : Int32) (50 : Int32) h) fun v2 h1 =>
  if v2 = 0 then
      f_X7_tick_16 xFU a0 a1 (0 : Int32) (0 : Int32) h1
  else
      some ((-1 : Int32), h1)
set_option maxRecDepth 20000 in
theorem c_X7_tick {G : xG} (a0 : Nat) (ta0 : xTy a0 6) (a1 : Int32) (h : Mem) : Sm G 7 yX7_tick FX7_tick xcI [.ref (G.1 a0), .int a1] h (f_X7_tick a0 a1 h) := by
  refine Sm.of pn_X7 rfl (Nat.le_of_ble_eq_true rfl) (ls := [(0, .ref (G.1 a0)), (1, .int a1)]) rfl ?_
  unfold f_X7_tick
  refine r_iload_n (place := 1) dX7_tick_0 rfl rfl ?_
  refine r_iconst dX7_tick_1 xc_1 ?_
  refine r_bipush dX7_tick_2 xb_50 ?_
  refine r_callSI (rest := []) dX7_tick_4 m_X7_outside lk_X7_45 (c_X7_outside a1 (1 : Int32) (50 : Int32) h) (by decide) rfl rfl (Nat.le_of_ble_eq_true rfl) (fun v2 h1 => ?_)
  refine r_if_eq (tgt := 12) dX7_tick_7 (by decide) ?_ ?_
  · refine r_iconst dX7_tick_12 xc_0 ?_
    refine r_istore_n (ls' := [(2, .int (0 : Int32)), (0, .ref (G.1 a0)), (1, .int a1)]) dX7_tick_13 rfl (by decide) rfl ?_
    refine r_iconst dX7_tick_14 xc_0 ?_
    refine r_istore_n (ls' := [(3, .int (0 : Int32)), (2, .int (0 : Int32)), (0, .ref (G.1 a0)), (1, .int a1)]) dX7_tick_15 rfl (by decide) rfl ?_
    exact r_sub [2, 3, 1, 0] rfl (t_X7_tick_16 xFU a0 a1 (0 : Int32) (0 : Int32) ta0 h1)
  · refine r_iconst dX7_tick_10 xc_m1 ?_
    exact r_iret dX7_tick_11 rfl
def f_X7_countImages_4  : Nat → Nat → Int32 → Int32 → Mem → Option (Int32 × Mem)
  | 0, _, _, _, _ => none
  | n + 1, a0, a1, a2, h =>
    if (2 : Int32) ≤ a2 then
        some (a1, h)
    else
        ald h (xrf a0 4) a2 fun v1 =>
        b2 (f_X7_flag v1 h) fun v3 h2 =>
        (f_X7_countImages_4 n) a0 (a1 + v3) (a2 + (1 : Int32)) h2
set_option maxRecDepth 20000 in
theorem t_X7_countImages_4 {G : xG}  : ∀ (n : Nat) (a0 : Nat) (a1 : Int32) (a2 : Int32) (ta0 : xTy a0 6) (h : Mem), Rn G 1 FX7_countImages xcI 4 [(0, .ref (G.1 a0)), (1, .int a1), (2, .int a2)] [] h (f_X7_countImages_4 n a0 a1 a2 h) := by
  intro n
  induction n with
  | zero => intros; intro r hr; cases hr
  | succ n ih =>
    intro a0 a1 a2 ta0 h
    unfold f_X7_countImages_4
    refine r_iload_n (place := 2) dX7_countImages_4 rfl rfl ?_
    refine r_iconst dX7_countImages_5 xc_2 ?_
    refine r_ic_ge (tgt := 27) dX7_countImages_6 (by decide) ?_ ?_
    · refine r_iload_n (place := 1) dX7_countImages_27 rfl rfl ?_
      exact r_iret dX7_countImages_28 rfl
    · refine r_iload_n (place := 1) dX7_countImages_9 rfl rfl ?_
      refine r_aload_n (place := 0) dX7_countImages_10 rfl rfl ?_
      refine r_getR dX7_countImages_11 fg_X7_32 ta0 ?_
      refine r_iload_n (place := 2) dX7_countImages_14 rfl rfl ?_
      refine r_zald dX7_countImages_15 (xt_6_4 ta0) (fun v1 => ?_)
      refine r_callSI (rest := [.int a1]) dX7_countImages_16 m_X7_flag lk_X7_205 (c_X7_flag v1 h) (by decide) rfl rfl (Nat.le_of_ble_eq_true rfl) (fun v3 h2 => ?_)
      refine r_iadd dX7_countImages_19 ?_
      refine r_istore_n (ls' := [(1, .int (a1 + v3)), (0, .ref (G.1 a0)), (2, .int a2)]) dX7_countImages_20 rfl (by decide) rfl ?_
      refine r_iincC (place := 2) (ls' := [(2, .int (a2 + (1 : Int32))), (1, .int (a1 + v3)), (0, .ref (G.1 a0))]) dX7_countImages_21 rfl xc_1 (by decide) rfl ?_
      refine r_goto (tgt := 4) dX7_countImages_24 (by decide) ?_
      exact r_sub [2, 1, 0] rfl (ih a0 (a1 + v3) (a2 + (1 : Int32)) ta0 h2)
def f_X7_countImages (a0 : Nat) (h : Mem) : Option (Int32 × Mem) :=
  f_X7_countImages_4 xFU a0 (0 : Int32) (0 : Int32) h
set_option maxRecDepth 20000 in
theorem c_X7_countImages {G : xG} (a0 : Nat) (ta0 : xTy a0 6) (h : Mem) : Sm G 1 yX7_countImages FX7_countImages xcI [.ref (G.1 a0)] h (f_X7_countImages a0 h) := by
  refine Sm.of pn_X7 rfl (Nat.le_of_ble_eq_true rfl) (ls := [(0, .ref (G.1 a0))]) rfl ?_
  unfold f_X7_countImages
  refine r_iconst dX7_countImages_0 xc_0 ?_
  refine r_istore_n (ls' := [(1, .int (0 : Int32)), (0, .ref (G.1 a0))]) dX7_countImages_1 rfl (by decide) rfl ?_
  refine r_iconst dX7_countImages_2 xc_0 ?_
  refine r_istore_n (ls' := [(2, .int (0 : Int32)), (1, .int (0 : Int32)), (0, .ref (G.1 a0))]) dX7_countImages_3 rfl (by decide) rfl ?_
  exact r_sub [2, 1, 0] rfl (t_X7_countImages_4 xFU a0 (0 : Int32) (0 : Int32) ta0 h)
def f_X7_rule_76  (a0 : Nat) (a1 : Int32) (h : Mem) : Option (Int32 × Mem) :=
  b2 (f_X6_total (xrf a0 2) a1 h) fun v2 h1 =>
  some (v2, h1)
set_option maxRecDepth 20000 in
theorem t_X7_rule_76 {G : xG}  (a0 : Nat) (a1 : Int32) (ta0 : xTy a0 6) (h : Mem) : Rn G 3 FX7_rule xcI 76 [(0, .ref (G.1 a0)), (1, .int a1)] [] h (f_X7_rule_76 a0 a1 h) := by
  unfold f_X7_rule_76
  refine r_aload_n (place := 0) dX7_rule_76 rfl rfl ?_
  refine r_getR dX7_rule_77 fg_X7_24 ta0 ?_
  refine r_iload_n (place := 1) dX7_rule_80 rfl rfl ?_
  refine r_callVI (rest := []) dX7_rule_81 m_X6_total lk_X7_177 rfl (by decide) (xt_6_2 ta0) (c_X6_total (xrf a0 2) (xt_6_2 ta0) a1 h) (by decide) rfl rfl (Nat.le_of_ble_eq_true rfl) (fun v2 h1 => ?_)
  exact r_iret dX7_rule_84 rfl
def f_X7_rule (a0 : Nat) (a1 : Int32) (h : Mem) : Option (Int32 × Mem) :=
  if a1 = (0 : Int32) then
      some ((h (xrf a0 2) 3), h)
  else
  if a1 = (1 : Int32) then
      some ((h (xrf a0 2) 4), h)
  else
  if a1 = (2 : Int32) then
      f_X7_rule_76 a0 a1 h
  else
  if a1 = (3 : Int32) then
      f_X7_rule_76 a0 a1 h
  else
  if a1 = (4 : Int32) then
      f_X7_rule_76 a0 a1 h
  else
  if a1 = (5 : Int32) then
      f_X7_rule_76 a0 a1 h
  else
  if a1 = (6 : Int32) then
      some ((h (xrf (xrf a0 2) 1) 3), h)
  else
  if a1 = (7 : Int32) then
      b2 (f_X6_countShares (xrf a0 2) h) fun v2 h1 =>
      some (v2, h1)
  else
  if a1 = (8 : Int32) then
      b2 (f_X1_count (h a0 5) h) fun v4 h3 =>
      some (v4, h3)
  else
  if a1 = (9 : Int32) then
      some ((h (xrf a0 0) 1), h)
  else
  if a1 = (10 : Int32) then
      b2 (f_X7_countImages a0 h) fun v6 h5 =>
      some (v6, h5)
  else
  some ((-1 : Int32), h)
set_option maxRecDepth 20000 in
theorem c_X7_rule {G : xG} (a0 : Nat) (ta0 : xTy a0 6) (a1 : Int32) (h : Mem) : Sm G 3 yX7_rule FX7_rule xcI [.ref (G.1 a0), .int a1] h (f_X7_rule a0 a1 h) := by
  refine Sm.of pn_X7 rfl (Nat.le_of_ble_eq_true rfl) (ls := [(0, .ref (G.1 a0)), (1, .int a1)]) rfl ?_
  unfold f_X7_rule
  refine r_iload_n (place := 1) dX7_rule_0 rfl rfl ?_
  refine r_tabI (tgt := 60) (off := 59) (0 : Int32) dX7_rule_1 (by decide +kernel) (by decide +kernel) (by decide +kernel) (by decide) ?_ (fun n1_0 => ?_)
  · refine r_aload_n (place := 0) dX7_rule_60 rfl rfl ?_
    refine r_getR dX7_rule_61 fg_X7_24 ta0 ?_
    refine r_getI dX7_rule_64 fg_X7_171 (xt_6_2 ta0) ?_
    exact r_iret dX7_rule_67 rfl
  refine r_tabI (tgt := 68) (off := 67) (1 : Int32) dX7_rule_1 (by decide +kernel) (by decide +kernel) (by decide +kernel) (by decide) ?_ (fun n1_1 => ?_)
  · refine r_aload_n (place := 0) dX7_rule_68 rfl rfl ?_
    refine r_getR dX7_rule_69 fg_X7_24 ta0 ?_
    refine r_getI dX7_rule_72 fg_X7_174 (xt_6_2 ta0) ?_
    exact r_iret dX7_rule_75 rfl
  refine r_tabI (tgt := 76) (off := 75) (2 : Int32) dX7_rule_1 (by decide +kernel) (by decide +kernel) (by decide +kernel) (by decide) ?_ (fun n1_2 => ?_)
  · exact r_sub [0, 1] rfl (t_X7_rule_76 a0 a1 ta0 h)
  refine r_tabI (tgt := 76) (off := 75) (3 : Int32) dX7_rule_1 (by decide +kernel) (by decide +kernel) (by decide +kernel) (by decide) ?_ (fun n1_3 => ?_)
  · exact r_sub [0, 1] rfl (t_X7_rule_76 a0 a1 ta0 h)
  refine r_tabI (tgt := 76) (off := 75) (4 : Int32) dX7_rule_1 (by decide +kernel) (by decide +kernel) (by decide +kernel) (by decide) ?_ (fun n1_4 => ?_)
  · exact r_sub [0, 1] rfl (t_X7_rule_76 a0 a1 ta0 h)
  refine r_tabI (tgt := 76) (off := 75) (5 : Int32) dX7_rule_1 (by decide +kernel) (by decide +kernel) (by decide +kernel) (by decide) ?_ (fun n1_5 => ?_)
  · exact r_sub [0, 1] rfl (t_X7_rule_76 a0 a1 ta0 h)
  refine r_tabI (tgt := 85) (off := 84) (6 : Int32) dX7_rule_1 (by decide +kernel) (by decide +kernel) (by decide +kernel) (by decide) ?_ (fun n1_6 => ?_)
  · refine r_aload_n (place := 0) dX7_rule_85 rfl rfl ?_
    refine r_getR dX7_rule_86 fg_X7_24 ta0 ?_
    refine r_getR dX7_rule_89 fg_X7_180 (xt_6_2 ta0) ?_
    refine r_getI dX7_rule_92 fg_X7_144 (xt_5_1 (xt_6_2 ta0)) ?_
    exact r_iret dX7_rule_95 rfl
  refine r_tabI (tgt := 96) (off := 95) (7 : Int32) dX7_rule_1 (by decide +kernel) (by decide +kernel) (by decide +kernel) (by decide) ?_ (fun n1_7 => ?_)
  · refine r_aload_n (place := 0) dX7_rule_96 rfl rfl ?_
    refine r_getR dX7_rule_97 fg_X7_24 ta0 ?_
    refine r_callVI (rest := []) dX7_rule_100 m_X6_countShares lk_X7_183 rfl (by decide) (xt_6_2 ta0) (c_X6_countShares (xrf a0 2) (xt_6_2 ta0) h) (by decide) rfl rfl (Nat.le_of_ble_eq_true rfl) (fun v2 h1 => ?_)
    exact r_iret dX7_rule_103 rfl
  refine r_tabI (tgt := 104) (off := 103) (8 : Int32) dX7_rule_1 (by decide +kernel) (by decide +kernel) (by decide +kernel) (by decide) ?_ (fun n1_8 => ?_)
  · refine r_aload_n (place := 0) dX7_rule_104 rfl rfl ?_
    refine r_getI dX7_rule_105 fg_X7_38 ta0 ?_
    refine r_callSI (rest := []) dX7_rule_108 m_X1_count lk_X7_73 (c_X1_count (h a0 5) h) (by decide) rfl rfl (Nat.le_of_ble_eq_true rfl) (fun v4 h3 => ?_)
    exact r_iret dX7_rule_111 rfl
  refine r_tabI (tgt := 112) (off := 111) (9 : Int32) dX7_rule_1 (by decide +kernel) (by decide +kernel) (by decide +kernel) (by decide) ?_ (fun n1_9 => ?_)
  · refine r_aload_n (place := 0) dX7_rule_112 rfl rfl ?_
    refine r_getR dX7_rule_113 fg_X7_20 ta0 ?_
    refine r_getI dX7_rule_116 fg_X7_55 (xt_6_0 ta0) ?_
    exact r_iret dX7_rule_119 rfl
  refine r_tabI (tgt := 120) (off := 119) (10 : Int32) dX7_rule_1 (by decide +kernel) (by decide +kernel) (by decide +kernel) (by decide) ?_ (fun n1_10 => ?_)
  · refine r_aload_n (place := 0) dX7_rule_120 rfl rfl ?_
    refine r_callVI (rest := []) dX7_rule_121 m_X7_countImages lk_X7_186 rfl (by decide) ta0 (c_X7_countImages a0 ta0 h) (by decide) rfl rfl (Nat.le_of_ble_eq_true rfl) (fun v6 h5 => ?_)
    exact r_iret dX7_rule_124 rfl
  have hx_1 : a1.toInt < 0 ∨ 10 < a1.toInt := by
    have z_n1_0 := lv_neT (a := 0) n1_0 (by decide +kernel)
    have z_n1_1 := lv_neT (a := 1) n1_1 (by decide +kernel)
    have z_n1_2 := lv_neT (a := 2) n1_2 (by decide +kernel)
    have z_n1_3 := lv_neT (a := 3) n1_3 (by decide +kernel)
    have z_n1_4 := lv_neT (a := 4) n1_4 (by decide +kernel)
    have z_n1_5 := lv_neT (a := 5) n1_5 (by decide +kernel)
    have z_n1_6 := lv_neT (a := 6) n1_6 (by decide +kernel)
    have z_n1_7 := lv_neT (a := 7) n1_7 (by decide +kernel)
    have z_n1_8 := lv_neT (a := 8) n1_8 (by decide +kernel)
    have z_n1_9 := lv_neT (a := 9) n1_9 (by decide +kernel)
    have z_n1_10 := lv_neT (a := 10) n1_10 (by decide +kernel)
    omega
  refine r_tabD (tgt := 125) dX7_rule_1 hx_1 (by decide) ?_
  refine r_iconst dX7_rule_125 xc_m1 ?_
  exact r_iret dX7_rule_126 rfl
