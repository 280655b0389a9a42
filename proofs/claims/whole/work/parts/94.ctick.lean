/-! the class: a tick passes -/
theorem A_end_0 (st : St) (c : Nat) : (A_end st c).1 = st.1 := rfl
theorem A_tk2_0 (st : St) (c : Nat) : (A_tk2 st c).1 0 = st.1 0 := by
  unfold A_tk2
  split
  · rfl
  · rfl
theorem A_tk1_0 (st : St) (c : Nat) : (A_tk1 st c).1 0 = st.1 0 := by
  unfold A_tk1
  split
  · exact A_sw_0 st c
  · rfl
theorem SV.tk2 {B c : Nat} {st : St} (h : SV B st) (hB : 1 ≤ B) (hc : c < 6) : SV B (A_tk2 st c) := by
  unfold A_tk2
  split
  · exact h.fin hB hc
  · exact h
theorem C_tk77 {g : Mem} {b c B : Nat} {st : St} (W : WK b) (hc : c < 6) (R : RWd g b st) (S : SV B st) (kk : Nat → Int32 → Int32 → Mem → Option (Int32 × Mem)) {Q : Int32 → Mem → Prop} (a : Int32) (fin : ∀ g', RWd g' b (A_tk2 st c) → FrW b g g' → Tr (kk b a (nI (c + 1)) g') Q) : Tr (f_X6_passTick_77 kk b a (nI c) (b + 6 + 15 * c) g) Q := by
  obtain ⟨s0, s1, s2, -⟩ := (R.2.2.2 c hc).1
  unfold f_X6_passTick_77 f_X6_passTick_101
  rw [s0, s2, R.1.1, show nI c + 1 = nI (c + 1) by rw [li_1, nI_add]]
  unfold A_tk2 at fin
  by_cases e : (st.2.2 c).1 0 = 2
  · rw [if_pos e]
    by_cases e2 : (st.2.2 c).1 2 = st.1 0
    · rw [if_pos e2]
      rw [if_pos ⟨e, e2⟩] at fin
      exact wB (C_endSession W hc R S.sb S.2.2.1 ((S.1 c hc).n12 (by rw [e]; decide))) (fun _ g2 P => fin g2 P.1 P.2)
    · rw [if_neg e2]
      rw [if_neg (fun q => e2 q.2)] at fin
      exact fin g R FrW.rf
  · rw [if_neg e]
    rw [if_neg (fun q => e q.1)] at fin
    exact fin g R FrW.rf
theorem C_tk14 {b m : Nat} (W : WK b) (hm : m < 2 ^ 31) : ∀ (d c n B : Nat) (s : Int32 × St) (h : Mem), c + d = 6 → d < n → 1 ≤ B → B + 43 * d + 100 < 2 ^ 31 - 1 → RWd h b s.2 → SV B s.2 → s.2.1 0 = nI m → Tr (f_X6_passTick_14 n b s.1 (nI c) h) (fun r h' => r = (A_tkc d c s).1 ∧ RWd h' b (A_tkc d c s).2 ∧ SV (B + 43 * d) (A_tkc d c s).2 ∧ (A_tkc d c s).2.1 0 = nI m ∧ FrW b h h') := by
  intro d
  induction d with
  | zero =>
    intro c n B s h h1 h2 hB1 hB R S hk
    obtain ⟨n, rfl⟩ : ∃ z, n = z + 1 := ⟨n - 1, by omega⟩
    unfold f_X6_passTick_14
    rw [if_pos (by rw [li_6, nI_leI (by omega) (by omega)]; omega)]
    exact wR ⟨rfl, R, S, hk, FrW.rf⟩
  | succ d ih =>
    intro c n B s h h1 h2 hB1 hB R S hk
    obtain ⟨n, rfl⟩ : ∃ z, n = z + 1 := ⟨n - 1, by omega⟩
    have hc : c < 6 := by omega
    have K := (W.2.2.2.1 c hc).2.2
    have Rc := R.2.2.2 c hc
    have w := Rc.2.2.2.2.2.2.2.2
    have hcv := S.1 c hc
    unfold RW at w
    unfold f_X6_passTick_14 A_tkc
    rw [if_neg (by rw [li_6, nI_leI (by omega) (by omega)]; omega), W.1.1, wcl W hc, K.1.2.2.2.2.2.2.2, R.1.1]
    unfold f_X5_comesDue
    have nodue : ¬ (s.2.2.2 c).1 21 = s.2.1 0 → Tr (f_X6_passTick_77 (f_X6_passTick_14 n) b s.1 (nI c) (b + 6 + 15 * c) h) (fun r h' => r = (A_tkc d (c + 1) (if (s.2.2.2 c).1 21 = s.2.1 0 then s.1 + 1 else s.1, A_tk2 (A_tk1 s.2 c) c)).1 ∧ RWd h' b (A_tkc d (c + 1) (if (s.2.2.2 c).1 21 = s.2.1 0 then s.1 + 1 else s.1, A_tk2 (A_tk1 s.2 c) c)).2 ∧ SV (B + 43 * (d + 1)) (A_tkc d (c + 1) (if (s.2.2.2 c).1 21 = s.2.1 0 then s.1 + 1 else s.1, A_tk2 (A_tk1 s.2 c) c)).2 ∧ (A_tkc d (c + 1) (if (s.2.2.2 c).1 21 = s.2.1 0 then s.1 + 1 else s.1, A_tk2 (A_tk1 s.2 c) c)).2.1 0 = nI m ∧ FrW b h h') := by
      intro q
      have e1 : A_tk1 s.2 c = s.2 := by unfold A_tk1; rw [if_neg q]
      rw [if_neg q, e1]
      refine C_tk77 W hc R S _ _ (fun g' R' f' => ?_)
      exact wM (ih (c + 1) n B (s.1, A_tk2 s.2 c) g' (by omega) (by omega) hB1 (by omega) R' (S.tk2 hB1 hc) (by show (A_tk2 s.2 c).1 0 = _; rw [A_tk2_0]; exact hk)) (fun r g2 P => ⟨P.1, P.2.1, P.2.2.1.mono (by omega), P.2.2.2.1, f'.tr P.2.2.2.2⟩)
    by_cases q12 : (s.2.2.2 c).1 12 = 1
    · rw [if_pos q12] at w
      rw [w.2.1, if_neg (by decide), b2_some, if_pos rfl]
      refine nodue ?_
      rw [hcv.2.2.2.2.2.2.2.1.2.2 (hcv.2.2.2.2.2.2.2.1.2.1 q12), hk]
      exact fun z => nI_ne4 hm z.symm
    · rw [if_neg q12] at w
      by_cases q21 : (s.2.2.2 c).1 21 = -4
      · rw [if_pos q21] at w
        rw [w.2, if_neg (by decide), b2_some, if_pos rfl]
        refine nodue ?_
        rw [q21, hk]
        exact fun z => nI_ne4 hm z.symm
      · rw [if_neg q21] at w
        rw [w.2.1, if_pos rfl, w.2.2.2.2.2.2]
        by_cases e : (s.2.2.2 c).1 21 = s.2.1 0
        · rw [if_pos e, mlet_eq, b2_some, if_neg (show ¬ (1 : Int32) = 0 by decide)]
          refine wB (C_due1 W hc (by omega) R S q12 q21) (fun r g3 P3 => ?_)
          have e1 : A_tk1 s.2 c = A_sw s.2 c := by unfold A_tk1; rw [if_pos e]
          rw [if_pos e, e1]
          have Sw := S.sw (by omega) hc q21
          refine C_tk77 W hc P3.2.1 Sw _ _ (fun g' R' f' => ?_)
          refine wM (ih (c + 1) n (B + 43) (s.1 + 1, A_tk2 (A_sw s.2 c) c) g' (by omega) (by omega) (by omega) (by omega) R' (Sw.tk2 (by omega) hc) (by show (A_tk2 (A_sw s.2 c) c).1 0 = _; rw [A_tk2_0, A_sw_0]; exact hk)) (fun r g2 P => ⟨P.1, P.2.1, P.2.2.1.mono (by omega), P.2.2.2.1, (P3.2.2.tr f').tr P.2.2.2.2⟩)
        · rw [if_neg e, b2_some, if_pos rfl]
          exact nodue e
theorem A_tkc_add : ∀ (d c : Nat) (x : Int32) (st : St), A_tkc d c (x, st) = (x + (A_tkc d c (0, st)).1, (A_tkc d c (0, st)).2)
  | 0, _, x, st => by
    show (x, st) = (x + 0, st)
    rw [Int32.add_zero]
  | d + 1, c, x, st => by
    unfold A_tkc
    rw [A_tkc_add d (c + 1) (if ((x, st).2.2.2 c).1 21 = (x, st).2.1 0 then (x, st).1 + 1 else (x, st).1), A_tkc_add d (c + 1) (if (((0 : Int32), st).2.2.2 c).1 21 = ((0 : Int32), st).2.1 0 then ((0 : Int32), st).1 + 1 else ((0 : Int32), st).1)]
    show (_, _) = (_, _)
    congr 1
    show (if (st.2.2 c).1 21 = st.1 0 then x + 1 else x) + _ = x + ((if (st.2.2 c).1 21 = st.1 0 then 0 + 1 else 0) + _)
    split
    · rw [Int32.zero_add, Int32.add_assoc]
    · rw [Int32.zero_add]
theorem C_passTick {h : Mem} {b m B : Nat} {st : St} (W : WK b) (hm : m + 1 < 2 ^ 31) (hB1 : 1 ≤ B) (hB : B + 400 < 2 ^ 31 - 1) (R : RWd h b st) (S : SV B st) (hk : st.1 0 = nI m) : Tr (f_X6_passTick b h) (fun r h' => r = (A_tkc 6 0 (0, sG st 0 (st.1 0 + 1))).1 ∧ RWd h' b (A_tkc 6 0 (0, sG st 0 (st.1 0 + 1))).2 ∧ SV (B + 258) (A_tkc 6 0 (0, sG st 0 (st.1 0 + 1))).2 ∧ (A_tkc 6 0 (0, sG st 0 (st.1 0 + 1))).2.1 0 = nI (m + 1) ∧ FrW b h h') := by
  unfold f_X6_passTick
  rw [mlet_eq, R.1.1]
  have R1 := R.g (k := 0) (v := st.1 0 + 1) (by omega)
  have f1 : FrW b h (mu h b 3 (st.1 0 + 1)) := fun a ha => mu_ne (by omega)
  have S1 : SV B (sG st 0 (st.1 0 + 1)) := ⟨S.1, S.2.1.ss (fun c => ⟨rfl, rfl⟩) rfl, S.2.2.1, S.2.2.2⟩
  have k1 : (sG st 0 (st.1 0 + 1)).1 0 = nI (m + 1) := by
    show ud st.1 0 (st.1 0 + 1) 0 = _
    rw [ud_eq, hk, li_1, nI_add]
  have z := C_tk14 W hm 6 0 xFU B (0, sG st 0 (st.1 0 + 1)) _ (by omega) (by unfold xFU; omega) hB1 (by omega) R1 S1 k1
  generalize A_tkc 6 0 (0, sG st 0 (st.1 0 + 1)) = X at z ⊢
  exact wM z (fun r g P => ⟨P.1, P.2.1, P.2.2.1, P.2.2.2.1, f1.tr P.2.2.2.2⟩)
theorem C_tick16 {a0 b k0 : Nat} (W : WK b) (ha : xrf a0 2 = b) (hk0 : k0 ≤ 50) : ∀ (d k n m B : Nat) (s : Int32 × St) (h : Mem), k + d = k0 → d < n → m + d < 2 ^ 31 → 1 ≤ B → B + 258 * d + 400 < 2 ^ 31 - 1 → RWd h b s.2 → SV B s.2 → s.2.1 0 = nI m → Tr (f_X7_tick_16 n a0 (nI k0) s.1 (nI k) h) (fun r h' => r = (A_tks d s).1 ∧ RWd h' b (A_tks d s).2 ∧ SV (B + 258 * d) (A_tks d s).2 ∧ (A_tks d s).2.1 0 = nI (m + d) ∧ FrW b h h') := by
  intro d
  induction d with
  | zero =>
    intro k n m B s h h1 h2 hm hB1 hB R S hk
    obtain ⟨n, rfl⟩ : ∃ z, n = z + 1 := ⟨n - 1, by omega⟩
    unfold f_X7_tick_16
    rw [if_pos (by rw [nI_leI (by omega) (by omega)]; omega)]
    exact wR ⟨rfl, R, S, hk, FrW.rf⟩
  | succ d ih =>
    intro k n m B s h h1 h2 hm hB1 hB R S hk
    obtain ⟨n, rfl⟩ : ∃ z, n = z + 1 := ⟨n - 1, by omega⟩
    unfold f_X7_tick_16 A_tks
    rw [if_neg (by rw [nI_leI (by omega) (by omega)]; omega), ha, show nI k + 1 = nI (k + 1) by rw [li_1, nI_add]]
    refine wB (C_passTick W (by omega) hB1 (by omega) R S hk) (fun r g P => ?_)
    rw [A_tkc_add]
    generalize A_tkc 6 0 (0, sG s.2 0 (s.2.1 0 + 1)) = X at P ⊢
    rw [P.1]
    refine wM (ih (k + 1) n (m + 1) (B + 258) (s.1 + X.1, X.2) g (by omega) (by omega) (by omega) (by omega) (by omega) P.2.1 P.2.2.1 P.2.2.2.1) (fun r' g2 Q => ⟨Q.1, Q.2.1, Q.2.2.1.mono (by omega), by rw [Q.2.2.2.1, show m + 1 + d = m + (d + 1) by omega], P.2.2.2.2.tr Q.2.2.2.2⟩)
