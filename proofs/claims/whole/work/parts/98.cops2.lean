/-! the class: the calls, second lot -/
theorem A_slE_0 (st : St) (c : Nat) : (A_slE st c).1 0 = st.1 0 := by
  unfold A_slE
  split <;> rfl
theorem A_lul_0 (st : St) (c : Nat) (how : Int32) : (A_lul st c how).2.1 0 = st.1 0 := by
  unfold A_lul
  split
  · split
    · show (A_slE _ c).1 0 = _
      rw [A_slE_0, A_sw_0]
      rfl
    · show (A_slE _ c).1 0 = _
      rw [A_slE_0]
      rfl
  · show (A_slE _ c).1 0 = _
    rw [A_slE_0]
    rfl
theorem X_sleep (T : Top) {B : Nat} (V : TV B T) (hB1 : 1 ≤ B) (hB : B + 100 < 2 ^ 30) (c how : Int32) : CO (f_X7_sleep 0 c how) (O_sleep T c how) B T := by
  unfold O_sleep
  cases hc : inR c 0 5 with
  | false =>
    rw [if_pos (Or.inl rfl)]
    refine CO.same V (fun h R => ?_)
    unfold f_X7_sleep
    rw [C_noC, b2_some, hc, if_neg bI_f]
  | true =>
    obtain ⟨n, hn, rfl⟩ := in5 hc
    rw [nI_clamp (by omega)]
    cases hq : inR how 0 1 with
    | false =>
      rw [if_pos (Or.inr rfl)]
      refine CO.same V (fun h R => ?_)
      unfold f_X7_sleep
      rw [C_noC, b2_some, hc, if_pos bI_t, C_out, b2_some, hq, if_neg bI_f]
    | true =>
      rw [if_neg (by decide)]
      by_cases e : (T.1.2.2 n).1 0 = 1
      · rw [if_neg (fun q => q e)]
        have eo : (if how = 1 ∧ (T.1.2.2 n).1 12 = 1 then
            (if (A_due (A_sl (T.1.2.2 n) (T.1.1 0)) (T.1.1 0)).1 21 = T.1.1 0 then
              (wnt (A_sw (sC T.1 n (A_due (A_sl (T.1.2.2 n) (T.1.1 0)) (T.1.1 0))) n) - wnt T.1, A_slE (A_sw (sC T.1 n (A_due (A_sl (T.1.2.2 n) (T.1.1 0)) (T.1.1 0))) n) n, T.2)
             else ((0 : Int32), A_slE (sC T.1 n (A_due (A_sl (T.1.2.2 n) (T.1.1 0)) (T.1.1 0))) n, T.2))
          else (0, A_slE (sC T.1 n (A_sl (T.1.2.2 n) (T.1.1 0))) n, T.2)) = ((A_lul T.1 n how).1, (A_lul T.1 n how).2, T.2) := by
          unfold A_lul
          split
          · split
            · rfl
            · rfl
          · rfl
        rw [eo]
        obtain ⟨k, hk, ek⟩ := V.1.2
        refine CO.world V (fun h R => ?_)
        have z := C_lull W100 hn (by omega) hB1 R.1 V.1.1 e ek (by omega) how (in1 hq)
        have a0 := A_lul_0 T.1 n how
        generalize A_lul T.1 n how = X at z a0 ⊢
        unfold f_X7_sleep f_X7_sleep_52
        rw [C_noC, b2_some, hc, if_pos bI_t, C_out, b2_some, hq, if_pos bI_t, yAw hn R e, b2_some, if_neg n10, x0_2, W100.1.1, wcl W100 hn]
        have fin : Tr (b2 (f_X6_lull 100 (100 + 6 + 15 * n) how h) fun v2 h1 => some (v2, h1)) (fun r h' => r = X.1 ∧ RWd h' 100 X.2 ∧ SVc (B + 13000) X.2 ∧ FrW 100 h h') := wB z (fun r g P => wR ⟨P.1, P.2.1, V.1.up P.2.2.1 a0 (by omega), P.2.2.2⟩)
        rcases in1 hq with rfl | rfl
        · rw [if_neg (by decide)]
          exact fin
        · rw [if_pos rfl]
          exact fin
      · rw [if_pos e]
        refine CO.same V (fun h R => ?_)
        unfold f_X7_sleep
        rw [C_noC, b2_some, hc, if_pos bI_t, C_out, b2_some, hq, if_pos bI_t, nAw hn R e, b2_some, if_pos rfl]
theorem X_tick (T : Top) {B : Nat} (V : TV B T) (hB1 : 1 ≤ B) (hB : B + 20000 < 2 ^ 30) (n : Int32) : CO (f_X7_tick 0 n) (O_tick T n) B T := by
  unfold O_tick
  cases hc : inR n 1 50 with
  | false =>
    rw [if_pos rfl]
    refine CO.same V (fun h R => ?_)
    unfold f_X7_tick
    rw [C_out, b2_some, hc, if_neg bI_f]
  | true =>
    rw [if_neg (by decide)]
    obtain ⟨m, h1, h2, rfl⟩ := inR_ex1 (b := 50) (by omega) hc
    obtain ⟨k, hk, ek⟩ := V.1.2
    rw [nI_clamp (by omega)]
    refine CO.world V (fun h R => ?_)
    unfold f_X7_tick
    rw [C_out, b2_some, hc, if_pos bI_t]
    have z := C_tick16 (a0 := 0) W100 x0_2 h2 m 0 xFU k B (0, T.1) h (by omega) (by unfold xFU; omega) (by omega) hB1 (by omega) R.1 V.1.1 ek
    generalize A_tks m (0, T.1) = X at z ⊢
    exact wM z (fun r g P => ⟨P.1, P.2.1, ⟨P.2.2.1.mono (by omega), k + m, by omega, P.2.2.2.1⟩, P.2.2.2.2⟩)
theorem X_carry (T : Top) {B : Nat} (V : TV B T) (hB : B + 100 < 2 ^ 30) (c y a : Int32) : CO (f_X7_carry 0 c y a) (O_carry T c y a) B T := by
  unfold O_carry
  cases hc : inR c 0 5 with
  | false =>
    rw [if_pos (Or.inl rfl)]
    refine CO.same V (fun h R => ?_)
    unfold f_X7_carry
    rw [C_noC, b2_some, hc, if_neg bI_f]
  | true =>
    obtain ⟨n, hn, rfl⟩ := in5 hc
    rw [nI_clamp (by omega)]
    cases hq : inR y 0 1 with
    | false =>
      rw [if_pos (Or.inr (Or.inl rfl))]
      refine CO.same V (fun h R => ?_)
      unfold f_X7_carry
      rw [C_noC, b2_some, hc, if_pos bI_t, C_out, b2_some, hq, if_neg bI_f]
    | true =>
      cases hl : inR a 0 2 with
      | false =>
        rw [if_pos (Or.inr (Or.inr rfl))]
        refine CO.same V (fun h R => ?_)
        unfold f_X7_carry
        rw [C_noC, b2_some, hc, if_pos bI_t, C_out, b2_some, hq, if_pos bI_t, C_out, b2_some, hl, if_neg bI_f]
      | true =>
        rw [if_neg (by decide)]
        by_cases e : (T.1.2.2 n).1 0 = 1
        · rw [if_neg (fun q => q e)]
          have hcv := V.1.1.1 n hn
          have hy := in1 hq
          have ha := in2 hl
          have K := (W100.2.2.2.1 n hn).2.2
          have hd := W100.2.2.2.2
          have pre : ∀ h, RCo h T → f_X7_carry 0 (nI n) y a h = if h (if y = 0 then 100 + 6 + 15 * n + 6 else 100 + 6 + 15 * n + 8) 3 = 0 then some (-4, h) else b2 (f_X3_cell (if y = 0 then 100 + 6 + 15 * n + 6 else 100 + 6 + 15 * n + 8) 0 0 h) fun v13 h12 => if a = 1 then f_X7_carry_88 a (if y = 0 then 100 + 6 + 15 * n + 6 else 100 + 6 + 15 * n + 8) v13 h12 else b2 (f_X0_carryFirst (100 + 6 + 15 * n) y h12) fun _ h14 => f_X7_carry_88 a (if y = 0 then 100 + 6 + 15 * n + 6 else 100 + 6 + 15 * n + 8) v13 h14 := by
            intro h R
            unfold f_X7_carry f_X0_packets
            rw [C_noC, b2_some, hc, if_pos bI_t, C_out, b2_some, hq, if_pos bI_t, C_out, b2_some, hl, if_pos bI_t, yAw hn R e, b2_some, if_neg n10, x0_2, W100.1.1, wcl W100 hn]
            rcases hy with rfl | rfl
            · rw [if_pos rfl, b2_some, K.1.2.2.2.1, tg_2 K.2.2.2.1.1 (by omega), if_pos rfl]
            · rw [if_neg n10, b2_some, K.1.2.2.2.2.1, tg_2 K.2.2.2.1.2 (by omega), if_neg n10]
          have size : ∀ h, RCo h T → h (if y = 0 then 100 + 6 + 15 * n + 6 else 100 + 6 + 15 * n + 8) 3 = nI ((T.1.2.2 n).2 (if y = 0 then 6 else 7)).length ∧ ((T.1.2.2 n).2 (if y = 0 then 6 else 7)).length ≤ 16 := by
            intro h R
            have Rc := R.1.2.2.2 n hn
            rcases hy with rfl | rfl
            · rw [if_pos rfl, if_pos rfl]
              exact ⟨Rc.2.2.2.2.1.2.2.1, Rc.2.2.2.2.1.2.2.2.1⟩
            · rw [if_neg n10, if_neg n10]
              have q1 := Rc.2.2.2.2.2.1.2.2.1
              have q2 := Rc.2.2.2.2.2.1.2.2.2.1
              rw [List.length_map] at q1 q2
              exact ⟨q1, q2⟩
          by_cases e0 : ((T.1.2.2 n).2 (if y = 0 then 6 else 7)).length = 0
          · rw [if_pos e0]
            refine CO.same V (fun h R => ?_)
            rw [pre h R, (size h R).1, e0, if_pos (show nI 0 = 0 from rfl)]
          · rw [if_neg e0]
            refine CO.world V (fun h R => ?_)
            have sz := size h R
            have li := hcv.2.2.2.2.1
            have ne0 : ¬ nI ((T.1.2.2 n).2 (if y = 0 then 6 else 7)).length = 0 := fun z => e0 ((nI_eq (by omega) (by omega)).mp (show _ = nI 0 from z))
            rw [pre h R, sz.1, if_neg ne0]
            refine wM (C_car K (R.1.2.2.2 n hn) hcv.2.1 li.flOk y a hy ha (by omega) (fun q => li.hdD hcv.2.1 hcv.2.2.1.1 (by rw [q, if_pos rfl] at e0; omega)) (fun q => li.hdU (by rw [q, if_neg n10] at e0; omega))) (fun r g P => ⟨P.1, R.1.cl hn P.2.1 P.2.2, ?_, P.2.2.w hn⟩)
            have cc := hcv.car (by omega) y a hy ha (by omega)
            have s0 : (A_car (T.1.2.2 n) y a).1 0 = (T.1.2.2 n).1 0 ∧ (A_car (T.1.2.2 n) y a).2 3 = (T.1.2.2 n).2 3 := by
              have dU : ∀ cl kd nm, (A_carU cl kd nm).1 0 = cl.1 0 ∧ (A_carU cl kd nm).2 3 = cl.2 3 := by
                intro cl kd nm
                unfold A_carU
                generalize (if kd = 1 then (1 : Int32) else 2) = pp
                split
                · exact ⟨rfl, rfl⟩
                · unfold A_carU1
                  split
                  · exact ⟨by rw [A_pd_1]; rfl, by rw [A_pd_ne (by omega), sT_ne (by omega)]⟩
                  · split
                    · refine ⟨A_off_k (by omega) (by omega), ?_⟩
                      unfold A_off A_qgo
                      rw [A_qgoL_ne _ _ (by omega) (by omega) (by omega), sT_ne (by omega)]
                      rfl
                    · exact ⟨rfl, rfl⟩
              have cl1 : ∀ X : Cl, X.1 0 = (T.1.2.2 n).1 0 → X.2 3 = (T.1.2.2 n).2 3 → (A_car2 X y a (pkt (T.1.2.2 n) y)).1 0 = (T.1.2.2 n).1 0 ∧ (A_car2 X y a (pkt (T.1.2.2 n) y)).2 3 = (T.1.2.2 n).2 3 := by
                intro X x1 x2
                unfold A_car2
                split
                · exact ⟨x1, x2⟩
                · split
                  · exact ⟨by rw [A_carD_k (by omega)]; exact x1, by rw [A_carD_t2 (by omega) (by omega) (by omega)]; exact x2⟩
                  · exact ⟨by rw [(dU _ _ _).1]; exact x1, by rw [(dU _ _ _).2]; exact x2⟩
              unfold A_car
              refine cl1 _ ?_ ?_
              · split <;> rfl
              · split
                · rfl
                · exact sT_ne (by rcases hy with rfl | rfl <;> decide)
            exact V.1.up ((V.1.1.mono (by omega)).put cc (by rw [s0.1]) s0.2) rfl (by omega)
        · rw [if_pos e]
          refine CO.same V (fun h R => ?_)
          unfold f_X7_carry
          rw [C_noC, b2_some, hc, if_pos bI_t, C_out, b2_some, hq, if_pos bI_t, C_out, b2_some, hl, if_pos bI_t, nAw hn R e, b2_some, if_pos rfl]
