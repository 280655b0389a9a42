/-! the class: a client is lulled, a tick passes -/
def A_lul (st : St) (c : Nat) (how : Int32) : Int32 × St :=
  if how = 1 ∧ (st.2.2 c).1 12 = 1 then
    (if (A_due (A_sl (st.2.2 c) (st.1 0)) (st.1 0)).1 21 = st.1 0 then
      (wnt (A_sw (sC st c (A_due (A_sl (st.2.2 c) (st.1 0)) (st.1 0))) c) - wnt st, A_slE (A_sw (sC st c (A_due (A_sl (st.2.2 c) (st.1 0)) (st.1 0))) c) c)
     else (0, A_slE (sC st c (A_due (A_sl (st.2.2 c) (st.1 0)) (st.1 0))) c))
  else (0, A_slE (sC st c (A_sl (st.2.2 c) (st.1 0))) c)
theorem lsr_nI {d m : Nat} (hd : d ≤ 50) (hm : m ≤ 99) : ∃ x, x ≤ 50 ∧ lsr (nI d) (nI m) = nI x := by
  unfold lsr
  split
  · rename_i q
    rw [nI_leI (by omega) (by omega)] at q
    exact ⟨m, by omega, rfl⟩
  · exact ⟨d, by omega, rfl⟩
theorem sw_state {st : St} {c : Nat} {cl : Cl} : A_sw (sC st c cl) c = A_says (sC st c (sS cl 21 (-4))) (fun j => cl.1 (22 + j)) (cl.1 26) (cl.1 27) (cl.1 28) := by
  unfold A_sw
  rw [sC_eq, sC_sC]
theorem A_sl_3 (cl : Cl) (clk : Int32) : (A_sl cl clk).2 3 = cl.2 3 := by
  show (sT (sT (sS (sS cl 0 2) 2 (clk + cl.1 1)) 6 []) 7 []).2 3 = _
  rw [sT_ne (by omega), sT_ne (by omega)]
  rfl
/-- a will that is due is said -/
theorem C_due1 {g : Mem} {b c B : Nat} {st : St} (W : WK b) (hc : c < 6) (hB : B + 100 < 2 ^ 31 - 1) (R : RWd g b st) (S : SV B st) (hn : ¬ (st.2.2 c).1 12 = 1) (h21 : ¬ (st.2.2 c).1 21 = -4) : Tr (f_X6_utter b (mu g (b + 6 + 15 * c + 14) 0 0 (b + 6 + 15 * c + 14) 1) (mu g (b + 6 + 15 * c + 14) 0 0 (b + 6 + 15 * c + 14) 2) (mu g (b + 6 + 15 * c + 14) 0 0 (b + 6 + 15 * c + 14) 3) (mu g (b + 6 + 15 * c + 14) 0 0 (b + 6 + 15 * c + 14) 4) (mu g (b + 6 + 15 * c + 14) 0 0)) (fun r h' => r = wnt (A_sw st c) - wnt st ∧ RWd h' b (A_sw st c) ∧ FrW b g h') := by
  have Rc := R.2.2.2 c hc
  have w := Rc.2.2.2.2.2.2.2.2
  have wk := (S.1 c hc).2.2.2.2.2.2.2.2.2.1 h21
  unfold RW at w
  rw [if_neg hn, if_neg h21] at w
  have R1 : RK (mu g (b + 6 + 15 * c + 14) 0 0) (b + 6 + 15 * c) (sS (st.2.2 c) 21 (-4)) := by
    refine Rc.wl (fun a ha => mu_ne ha) (fun _ => rfl) (fun k hk => sS_ne (by omega)) ?_
    unfold RW
    rw [sS_ne (by omega), if_neg hn, sS_eq, if_pos rfl, mu_rde rfl, mu_rdn (by omega)]
    exact ⟨w.1, rfl⟩
  have f1 : FrK (b + 6 + 15 * c) g (mu g (b + 6 + 15 * c + 14) 0 0) := fun a ha => mu_ne (by omega)
  have R2 := R.cl hc R1 f1
  have S2 : SV B (sC st c (sS (st.2.2 c) 21 (-4))) := S.put (S.1 c hc).due (by rw [sS_ne (by omega)]) rfl
  rw [mu_rdn (by omega), mu_rdn (by omega), mu_rdn (by omega), mu_rdn (by omega), w.2.2.1, w.2.2.2.1, w.2.2.2.2.1, w.2.2.2.2.2.1]
  have e : pth (lvS (st.2.2 c).1 22) = pth (lvO (fun j => (st.2.2 c).1 (22 + j))) := rfl
  rw [e]
  refine wM (C_utter W wk.1 R2 S2.sb S2.2.2.1 S2.2.1 S2.lt S2.2.2.2 _ _ _ wk.2.2) (fun r g2 P => ⟨?_, P.2.1, (f1.w hc).tr P.2.2⟩)
  rw [P.1, wnt_sS (by omega)]
  rfl
theorem C_lull {h : Mem} {b c B n : Nat} {st : St} (W : WK b) (hc : c < 6) (hB : B + 100 < 2 ^ 31 - 1) (hB1 : 1 ≤ B) (R : RWd h b st) (S : SV B st) (h1 : (st.2.2 c).1 0 = 1) (hn : st.1 0 = nI n) (hnb : n < 2 ^ 30) (how : Int32) (hh : how = 0 ∨ how = 1) : Tr (f_X6_lull b (b + 6 + 15 * c) how h) (fun r h' => r = (A_lul st c how).1 ∧ RWd h' b (A_lul st c how).2 ∧ SV (B + 43) (A_lul st c how).2 ∧ FrW b h h') := by
  have K := (W.2.2.2.1 c hc).2.2
  have hcv := S.1 c hc
  have w21 := hcv.2.2.2.2.2.2.2.1.2.2 h1
  unfold f_X6_lull
  rw [R.1.1]
  refine wB (C_fallAsleep K (R.2.2.2 c hc) (st.1 0)) (fun _ g1 P1 => ?_)
  have R1 := R.cl hc P1.1 P1.2
  have Ssl : SV B (sC st c (A_sl (st.2.2 c) (st.1 0))) := S.put (hcv.sl h1 _) (by rw [h1]; exact ⟨fun q => absurd q (show ¬ (2 : Int32) = 0 by decide), fun q => absurd q (by decide)⟩) (A_sl_3 (st.2.2 c) (st.1 0))
  have s2 : ((sC st c (A_sl (st.2.2 c) (st.1 0))).2.2 c).1 0 = 2 := by rw [sC_eq]; rfl
  have s21 : ((sC st c (A_sl (st.2.2 c) (st.1 0))).2.2 c).1 21 = -4 := by
    rw [sC_eq, A_sl_eq, sS_ne (by omega), A_sl0_k (by omega) (by omega)]
    exact w21
  have n2 : ¬ (2 : Int32) = 1 := by decide
  have fin0 : ∀ g2, RWd g2 b (sC st c (A_sl (st.2.2 c) (st.1 0))) → FrW b h g2 → ¬ (how = 1 ∧ (st.2.2 c).1 12 = 1) → Tr (f_X6_lull_21 b (b + 6 + 15 * c) 0 g2) (fun r h' => r = (A_lul st c how).1 ∧ RWd h' b (A_lul st c how).2 ∧ SV (B + 43) (A_lul st c how).2 ∧ FrW b h h') := by
    intro g2 R2 f2 q
    unfold A_lul
    rw [if_neg q]
    exact wM (C_l21a W hc R2 Ssl (by rw [s2]; exact n2) s21) (fun r g3 P => ⟨P.1, P.2.1, (Ssl.slE hB1 hc).mono (by omega), f2.tr P.2.2⟩)
  have e12 : ∀ x, (A_sl0 (st.2.2 c) x).1 12 = (st.2.2 c).1 12 := fun x => A_sl0_k (by omega) (by omega)
  have e21 : ∀ x, (A_sl0 (st.2.2 c) x).1 21 = -4 := fun x => by rw [A_sl0_k (by omega) (by omega)]; exact w21
  rcases hh with rfl | rfl
  · rw [if_pos rfl, K.1.2.2.2.2.2.2.2]
    refine wB (C_drop K P1.1) (fun _ g2 P2 => ?_)
    have z := P2.1
    rw [sS_self (cl := sS (A_sl0 (st.2.2 c) (st.1 0)) 12 0) (by rw [sS_ne (by omega)]; exact e21 _)] at z
    exact fin0 g2 (R.cl hc z (P1.2.tr P2.2)) ((P1.2.w hc).tr (P2.2.w hc)) (fun q => absurd q.1 (by decide))
  · have n1 : ¬ (1 : Int32) = 0 := by decide
    rw [if_neg n1]
    rcases hcv.2.2.2.2.2.2.2.1.1 with q | q
    · refine fin0 g1 ?_ (P1.2.w hc) (fun y => by rw [q] at y; exact absurd y.2 (by decide))
      have z := R1
      rw [← sS_self (cl := A_sl0 (st.2.2 c) (st.1 0)) (k := 12) (v := 0) (by rw [e12]; exact q)] at z
      exact z
    · -- held: it becomes due
      have Rc := P1.1
      have wt := hcv.2.2.2.2.2.2.2.2.1 q
      obtain ⟨d, hd, ed⟩ := wt.2.2.2
      obtain ⟨m, hm, em⟩ := hcv.2.2.2.2.2.2.2.2.2.2
      obtain ⟨x, hx, ex⟩ := lsr_nI hd hm
      have w := Rc.2.2.2.2.2.2.2.2
      unfold RW at w
      rw [if_pos (by rw [e12]; exact q)] at w
      have k20 : (A_sl0 (st.2.2 c) (st.1 0)).1 20 = nI d := by rw [A_sl0_k (by omega) (by omega)]; exact ed
      have k9 : g1 (b + 6 + 15 * c) 9 = nI m := by rw [Rc.1.2.1, A_sl0_k (by omega) (by omega)]; exact em
      have b3 : g1 b 3 = st.1 0 := by rw [P1.2 b (by omega)]; exact R.1.1
      have sl : ∀ k, k ≠ 0 → k ≠ 2 → k ≠ 12 → (A_sl (st.2.2 c) (st.1 0)).1 k = (st.2.2 c).1 k := fun k h0 h2 h12 => by rw [A_sl_eq, sS_ne h12, A_sl0_k h0 h2]
      have due21 : (A_due (A_sl (st.2.2 c) (st.1 0)) (st.1 0)).1 21 = nI (n + x) := by
        rw [A_due_21, sl 20 (by omega) (by omega) (by omega), sl 1 (by omega) (by omega) (by omega), ed, em, ex, hn, nI_add]
      have d4 : ¬ (A_due (A_sl (st.2.2 c) (st.1 0)) (st.1 0)).1 21 = -4 := by rw [due21]; exact nI_ne4 (by omega)
      have hm5 : mu g1 (b + 6 + 15 * c + 14) 0 2 (b + 6 + 15 * c + 14) 5 = nI d := by rw [mu_rdn (by omega), w.2.2.2.2.2.2, k20]
      have due12 : (A_due (A_sl (st.2.2 c) (st.1 0)) (st.1 0)).1 12 = 0 := rfl
      unfold f_X6_lull_21 f_X5_becomeDue f_X5_comesDue
      rw [K.1.2.2.2.2.2.2.2, w.2.1, if_pos rfl, mlet_eq, mlet_eq, hm5, k9, xmin_lsr, ex, b3, hn, nI_add, b2_some]
      have R2 : RK (mu (mu g1 (b + 6 + 15 * c + 14) 0 2) (b + 6 + 15 * c + 14) 6 (nI (n + x))) (b + 6 + 15 * c) (A_due (A_sl (st.2.2 c) (st.1 0)) (st.1 0)) := by
        refine Rc.wl (fun a ha => by rw [mu_ne ha, mu_ne ha]) (fun _ => rfl) (fun k hk => by rw [A_due_k (by omega) (by omega), A_sl_eq, sS_ne (by omega)]) ?_
        have l22 : lvS (A_due (A_sl (st.2.2 c) (st.1 0)) (st.1 0)).1 22 = lvS (A_sl0 (st.2.2 c) (st.1 0)).1 13 := by
          funext j
          unfold lvS
          split
          · rw [A_due_w (by omega), A_sl_eq, sS_ne (by omega), show 22 + j - 9 = 13 + j by omega]
          · rfl
        unfold RW
        rw [due12, if_neg (by decide), if_neg d4, due21, l22, mu_rdn (by omega), mu_rdn (by omega), mu_rdn (by omega), mu_rde rfl, mu_rdn (by omega), mu_rdn (by omega), mu_rdn (by omega), mu_rdn (by omega), mu_rdn (by omega), mu_rdn (by omega), mu_rde rfl, A_due_w (by omega), A_due_w (by omega), A_due_w (by omega)]
        exact ⟨w.1, rfl, w.2.2.1, w.2.2.2.1, w.2.2.2.2.1, w.2.2.2.2.2.1, rfl⟩
      have f2 : FrK (b + 6 + 15 * c) g1 (mu (mu g1 (b + 6 + 15 * c + 14) 0 2) (b + 6 + 15 * c + 14) 6 (nI (n + x))) := fun a ha => by rw [mu_ne (by omega), mu_ne (by omega)]
      have w0 : mu (mu g1 (b + 6 + 15 * c + 14) 0 2) (b + 6 + 15 * c + 14) 6 (nI (n + x)) (b + 6 + 15 * c + 14) 0 = 2 := by rw [mu_rdn (by omega), mu_rde rfl]
      have w6 : mu (mu g1 (b + 6 + 15 * c + 14) 0 2) (b + 6 + 15 * c + 14) 6 (nI (n + x)) (b + 6 + 15 * c + 14) 6 = nI (n + x) := by rw [mu_rde rfl]
      have b3' : mu (mu g1 (b + 6 + 15 * c + 14) 0 2) (b + 6 + 15 * c + 14) 6 (nI (n + x)) b 3 = nI n := by rw [mu_ne (by omega), mu_ne (by omega), b3, hn]
      have Sd : SV B (sC st c (A_due (A_sl (st.2.2 c) (st.1 0)) (st.1 0))) := S.put (hcv.sld h1 q _) (by rw [h1]; exact ⟨fun q => absurd q (show ¬ (2 : Int32) = 0 by decide), fun q => absurd q (by decide)⟩) (A_sl_3 (st.2.2 c) (st.1 0))
      have R3 := R.cl hc R2 (P1.2.tr f2)
      have f3 : FrW b h (mu (mu g1 (b + 6 + 15 * c + 14) 0 2) (b + 6 + 15 * c + 14) 6 (nI (n + x))) := (P1.2.tr f2).w hc
      generalize mu (mu g1 (b + 6 + 15 * c + 14) 0 2) (b + 6 + 15 * c + 14) 6 (nI (n + x)) = g2 at R2 f2 w0 w6 b3' R3 f3 ⊢
      have dd0 : (A_due (A_sl (st.2.2 c) (st.1 0)) (st.1 0)).1 0 = 2 := rfl
      rw [w0, if_pos rfl, w6, b3']
      by_cases e : nI (n + x) = nI n
      · have el : A_lul st c 1 = (wnt (A_sw (sC st c (A_due (A_sl (st.2.2 c) (st.1 0)) (st.1 0))) c) - wnt st, A_slE (A_sw (sC st c (A_due (A_sl (st.2.2 c) (st.1 0)) (st.1 0))) c) c) := by
          unfold A_lul
          rw [if_pos ⟨rfl, q⟩, if_pos (by rw [due21, hn]; exact e)]
        rw [el, if_pos e, mlet_eq, b2_some, if_neg n1]
        have wn0 : wnt (sC st c (A_due (A_sl (st.2.2 c) (st.1 0)) (st.1 0))) = wnt st := wnt_eq rfl
        have z := C_due1 (c := c) W hc hB R3 Sd (by rw [sC_eq, due12]; decide) (by rw [sC_eq]; exact d4)
        refine wB z (fun r g3 P3 => ?_)
        have Sw := Sd.sw hB hc (by rw [sC_eq]; exact d4)
        have Sx := Sd.put (c := c) (Sd.1 c hc).due (by rw [sS_ne (by omega)]) rfl
        rw [sC_eq, sC_sC] at Sx
        have o0 : ¬ ((A_sw (sC st c (A_due (A_sl (st.2.2 c) (st.1 0)) (st.1 0))) c).2.2 c).1 0 = 1 := by
          rw [sw_state, ShOk_says' Sx.2.1, sC_eq, sS_ne (by omega), dd0]
          exact n2
        refine wM (C_l83 W hc P3.2.1 Sw o0 r) (fun r' g4 P4 => ⟨?_, P4.2.1, Sw.slE (by omega) hc, (f3.tr P3.2.2).tr P4.2.2⟩)
        rw [P4.1, P3.1, wn0]
      · have el : A_lul st c 1 = (0, A_slE (sC st c (A_due (A_sl (st.2.2 c) (st.1 0)) (st.1 0))) c) := by
          unfold A_lul
          rw [if_pos ⟨rfl, q⟩, if_neg (by rw [due21, hn]; exact e)]
        rw [el, if_neg e, b2_some, if_pos rfl]
        refine wM (C_l83 W hc R3 Sd (by rw [sC_eq, dd0]; exact n2) 0) (fun r' g4 P4 => ⟨P4.1, P4.2.1, (Sd.slE hB1 hc).mono (by omega), f3.tr P4.2.2⟩)
