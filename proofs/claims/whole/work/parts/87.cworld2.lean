/-! the class: kept letters go, totals, a world is cleared, copied -/
theorem C_gk6 {b c : Nat} {st : St} {f : List Int32} (W : WK b) (hc : c < 6) (V : KpW st) (hf : PV 28 (g5 f)) (p : Int32) : ∀ (d i n m : Nat) (cl1 : Cl) (h : Mem), i + d = (st.2.1 6).length → d < n → RWd h b (sC st c cl1) → LtOk cl1 → Tr (f_X6_goKept_6 n b (b + 6 + 15 * c) (pth (lvO (g5 f))) p (nI m) (nI i) h) (fun r h' => r = nI (((st.2.1 6).drop i).foldl (A_kg1 p f) (m, cl1)).1 ∧ RWd h' b (sC st c (((st.2.1 6).drop i).foldl (A_kg1 p f) (m, cl1)).2) ∧ FrW b h h') := by
  intro d
  induction d with
  | zero =>
    intro i n m cl1 h h1 h2 R L
    obtain ⟨n, rfl⟩ : ∃ z, n = z + 1 := ⟨n - 1, by omega⟩
    have l12 : (st.2.1 6).length ≤ 12 := R.len6
    have e3 := R.2.1.2.2.1
    rw [List.length_map] at e3
    have e3' : h (b + 2) 3 = nI (st.2.1 6).length := e3
    unfold f_X6_goKept_6
    rw [W.1.2.1, e3', if_pos (by rw [nI_leI (by omega) (by omega)]; omega), List.drop_eq_nil_of_le (by omega)]
    exact wR ⟨rfl, R, FrW.rf⟩
  | succ d ih =>
    intro i n m cl1 h h1 h2 R L
    obtain ⟨n, rfl⟩ : ∃ z, n = z + 1 := ⟨n - 1, by omega⟩
    have l12 : (st.2.1 6).length ≤ 12 := R.len6
    have e3 := R.2.1.2.2.1
    rw [List.length_map] at e3
    have e3' : h (b + 2) 3 = nI (st.2.1 6).length := e3
    have hi : i < (st.2.1 6).length := by omega
    have T : RR h (b + 2) 12 4 ((st.2.1 6).map kmR) := R.2.1
    have eg := gr_map hi kmR
    have vr := V _ (gr_mem hi)
    have cell : ∀ j, j < 4 → f_X3_cell (b + 2) (nI i) (nI j) h = some (g5 (kmR (gr (st.2.1 6) i)) j, h) := by
      intro j hj
      have y := C_cell (j := j) W.2.1.1 T (by rw [List.length_map]; exact hi) hj
      rw [eg] at y
      exact y
    rw [drop_gr _ _ hi, List.foldl_cons]
    have c0 : f_X3_cell (b + 2) (nI i) 0 h = some (pth (lvO (g5 (gr (st.2.1 6) i))), h) := cell 0 (by omega)
    have c1 : f_X3_cell (b + 2) (nI i) 1 h = some (g5 (gr (st.2.1 6) i) 4, h) := cell 1 (by omega)
    have c2 : f_X3_cell (b + 2) (nI i) 2 h = some (g5 (gr (st.2.1 6) i) 5, h) := cell 2 (by omega)
    have c3 : f_X3_cell (b + 2) (nI i) 3 h = some (g5 (gr (st.2.1 6) i) 6, h) := cell 3 (by omega)
    have K := (W.2.2.2.1 c hc).2.2
    have Rc := R.2.2.2 c hc
    rw [sC_eq] at Rc
    unfold f_X6_goKept_6 f_X6_goKept_81
    rw [W.1.2.1, e3', if_neg (by rw [nI_leI (by omega) (by omega)]; omega), c0, b2_some, hf.match2 vr.1 (by omega) (by omega), b2_some, show nI i + 1 = nI (i + 1) by rw [li_1, nI_add], show nI m + 1 = nI (m + 1) by rw [li_1, nI_add]]
    generalize gr (st.2.1 6) i = r at vr c1 c2 c3 ⊢
    have em : mtc (g5 f) 0 (g5 r) = mtr f (g5 r) := rfl
    rw [em]
    cases hm : mtr f (g5 r) with
    | false =>
      have ek : A_kg1 p f (m, cl1) r = (m, cl1) := by
        unfold A_kg1
        rw [hm, if_neg (by decide)]
      rw [if_pos (show bI false = 0 from rfl), ek]
      exact ih (i + 1) n m cl1 h (by omega) (by omega) R L
    | true =>
      have ek : A_kg1 p f (m, cl1) r = (m + 1, A_goes cl1 (g5 r 6) (lsr p (g5 r 5)) (g5 r 4) 1) := by
        unfold A_kg1
        rw [hm, if_pos rfl]
      rw [if_neg (show ¬ bI true = 0 by decide), ek, c2, b2_some, c3, b2_some, c1, b2_some, xmin_lsr]
      refine wB (C_receive K Rc L _ _ _ 1 (Or.inr rfl)) (fun _ g P => ?_)
      have R2 := R.cl hc P.1 P.2
      rw [sC_sC] at R2
      exact wM (ih (i + 1) n (m + 1) _ g (by omega) (by omega) R2 (L.goes _ _ _ _)) (fun _ g2 Q => ⟨Q.1, Q.2.1, (P.2.w hc).tr Q.2.2⟩)
theorem C_goKept {h : Mem} {b c : Nat} {st : St} {f : List Int32} (W : WK b) (hc : c < 6) (R : RWd h b st) (V : KpW st) (L : LtOk (st.2.2 c)) (hf : PV 28 (g5 f)) (p : Int32) : Tr (f_X6_goKept b (b + 6 + 15 * c) (pth (lvO (g5 f))) p h) (fun r h' => r = nI ((st.2.1 6).foldl (A_kg1 p f) (0, st.2.2 c)).1 ∧ RWd h' b (sC st c ((st.2.1 6).foldl (A_kg1 p f) (0, st.2.2 c)).2) ∧ FrW b h h') := by
  have l12 : (st.2.1 6).length ≤ 12 := R.len6
  have z := C_gk6 W hc V hf p (st.2.1 6).length 0 xFU 0 (st.2.2 c) h (by omega) (by unfold xFU; omega) (by rw [sC_self]; exact R) L
  rw [List.drop_zero] at z
  exact z
theorem C_tot4 {h : Mem} {b j k : Nat} {st : St} (W : WK b) (m : Int32) (hm : (m = 2 ∧ j = 13 ∧ k = 50) ∨ (m = 3 ∧ j = 14 ∧ k = 51) ∨ (m = 4 ∧ j = 15 ∧ k = 10) ∨ (m = 5 ∧ j = 16 ∧ k = 52)) (R : RWd h b st) : f_X6_total b m h = some (sm6 (fun c => (st.2.2 c).1 k), h) := by
  have step : ∀ (c n : Nat) (a : Int32), c < 6 → f_X6_total_4 (n + 1) b m a (nI c) h = f_X6_total_4 n b m (a + (st.2.2 c).1 k) (nI (c + 1)) h := by
    intro c n a hc
    obtain ⟨s0, s1, s2, s3, s4, s5, s6, s7, s8⟩ := (R.2.2.2 c hc).1
    generalize hY : f_X6_total_4 n b m (a + (st.2.2 c).1 k) (nI (c + 1)) h = Y
    unfold f_X6_total_4 f_X6_total_85
    rw [if_neg (by rw [li_6, nI_leI (by omega) (by omega)]; omega), W.1.1, wcl W hc, show nI c + 1 = nI (c + 1) by rw [li_1, nI_add], s5, s6, s7, s8]
    rcases hm with ⟨rfl, -, rfl⟩ | ⟨rfl, -, rfl⟩ | ⟨rfl, -, rfl⟩ | ⟨rfl, -, rfl⟩
    · rw [if_pos rfl]; exact hY
    · rw [if_neg (by decide), if_pos rfl]; exact hY
    · rw [if_neg (by decide), if_neg (by decide), if_pos rfl]; exact hY
    · rw [if_neg (by decide), if_neg (by decide), if_neg (by decide)]; exact hY
  obtain ⟨n, hn⟩ := xFUs
  unfold f_X6_total
  rw [hn, show (0 : Int32) = nI 0 from rfl, step 0 _ _ (by omega), step 1 _ _ (by omega), step 2 _ _ (by omega), step 3 _ _ (by omega), step 4 _ _ (by omega), step 5 _ _ (by omega)]
  unfold f_X6_total_4
  rw [if_pos (by rw [li_6, nI_leI (by omega) (by omega)]; omega)]
  unfold sm6
  rw [show nI 0 = (0 : Int32) from rfl, Int32.zero_add]
theorem C_wclr2 {b : Nat} (W : WK b) : ∀ (d c n : Nat) (st : St) (h : Mem), c + d = 6 → d < n → RWd h b st → (∀ i, i < 6 → ¬ (st.2.2 i).1 12 = 1) → (∀ i, i < c → st.2.2 i = cl0) → Tr (f_X6_clear_2 n b (nI c) h) (fun _ h' => RWd h' b st0 ∧ FrW b h h') := by
  intro d
  induction d with
  | zero =>
    intro c n st h h1 h2 R w z
    obtain ⟨n, rfl⟩ : ∃ z, n = z + 1 := ⟨n - 1, by omega⟩
    unfold f_X6_clear_2
    rw [if_pos (by rw [li_6, nI_leI (by omega) (by omega)]; omega), W.1.2.1, W.1.2.2]
    refine wB (C_clear R.2.1) (fun _ g1 P1 => ?_)
    refine wB (C_clear (R.2.2.1.off P1.2 (by omega) (by omega) (by omega))) (fun _ g2 P2 => ?_)
    rw [mlet_eq, mlet_eq]
    have e : ∀ a, a ≠ b → mu (mu g2 b 3 0) b 4 0 a = g2 a := fun a ha => by rw [mu_ne ha, mu_ne ha]
    refine wR ⟨⟨⟨?_, ?_⟩, ?_, ?_, fun i hi => ?_⟩, fun a ha => ?_⟩
    · rw [mu_rdn (by omega), mu_rde rfl]; rfl
    · rw [mu_rde rfl]; rfl
    · exact (P1.1.off P2.2 (by omega) (by omega) (by omega)).fr (e _ (by omega)) (e _ (by omega))
    · exact P2.1.fr (e _ (by omega)) (e _ (by omega))
    · have q := R.2.2.2 i hi
      rw [z i (by omega)] at q
      exact q.frm (fun a h1 h2 => by rw [e a (by omega), P2.2.1 a (by omega) (by omega), P1.2.1 a (by omega) (by omega)])
    · rw [e a (by omega), P2.2.1 a (by omega) (by omega), P1.2.1 a (by omega) (by omega)]
  | succ d ih =>
    intro c n st h h1 h2 R w z
    obtain ⟨n, rfl⟩ : ∃ z, n = z + 1 := ⟨n - 1, by omega⟩
    have hc : c < 6 := by omega
    unfold f_X6_clear_2
    rw [if_neg (by rw [li_6, nI_leI (by omega) (by omega)]; omega), W.1.1, wcl W hc, show nI c + 1 = nI (c + 1) by rw [li_1, nI_add]]
    refine wB (C_clientClear (W.2.2.2.1 c hc).2.2 (R.2.2.2 c hc) (w c hc)) (fun _ g P => ?_)
    refine wM (ih (c + 1) n _ g (by omega) (by omega) (R.cl hc P.1 P.2) ?_ ?_) (fun _ g2 Q => ⟨Q.1, (P.2.w hc).tr Q.2⟩)
    · intro i hi
      by_cases e : i = c
      · rw [e, sC_eq]
        decide
      · rw [sC_ne e]
        exact w i hi
    · intro i hi
      by_cases e : i = c
      · rw [e, sC_eq]
      · rw [sC_ne e]
        exact z i (by omega)
theorem C_wclear {h : Mem} {b : Nat} {st : St} (W : WK b) (R : RWd h b st) (w : ∀ i, i < 6 → ¬ (st.2.2 i).1 12 = 1) : Tr (f_X6_clear b h) (fun _ h' => RWd h' b st0 ∧ FrW b h h') := C_wclr2 W 6 0 xFU st h (by omega) (by unfold xFU; omega) R w (fun i hi => by omega)
theorem RWd.frm {h h' : Mem} {b : Nat} {st : St} (R : RWd h b st) (f : ∀ a, b ≤ a → a < b + 96 → h' a = h a) : RWd h' b st := by
  obtain ⟨⟨r1, r2⟩, r3, r4, r5⟩ := R
  exact ⟨⟨by rw [f b (by omega) (by omega)]; exact r1, by rw [f b (by omega) (by omega)]; exact r2⟩, r3.fr (f _ (by omega) (by omega)) (f _ (by omega) (by omega)), r4.fr (f _ (by omega) (by omega)) (f _ (by omega) (by omega)), fun c hc => (r5 c hc).frm (fun a h1 h2 => f a (by omega) (by omega))⟩
theorem C_wcp2 {b b2 : Nat} (W : WK b) (W2 : WK b2) (aw : b + 96 ≤ b2 ∨ b2 + 96 ≤ b) {st2 : St} : ∀ (d c n : Nat) (st : St) (h : Mem), c + d = 6 → d < n → RWd h b st → RWd h b2 st2 → (∀ i, i < c → st.2.2 i = st2.2.2 i) → Tr (f_X6_copyFrom_2 n b b2 (nI c) h) (fun _ h' => RWd h' b st2 ∧ FrW b h h') := by
  intro d
  induction d with
  | zero =>
    intro c n st h h1 h2 R R2 z
    obtain ⟨n, rfl⟩ : ∃ z, n = z + 1 := ⟨n - 1, by omega⟩
    unfold f_X6_copyFrom_2
    rw [if_pos (by rw [li_6, nI_leI (by omega) (by omega)]; omega), W.1.2.1, W.1.2.2, W2.1.2.1, W2.1.2.2]
    refine wB (C_copyFrom W.2.1.1 W2.2.1.1 (by omega) (by omega) (by omega) R.2.1 R2.2.1) (fun _ g1 P1 => ?_)
    refine wB (C_copyFrom W.2.1.2 W2.2.1.2 (by omega) (by omega) (by omega) (R.2.2.1.off P1.2 (by omega) (by omega) (by omega)) (R2.2.2.1.off P1.2 (by omega) (by omega) (by omega))) (fun _ g2 P2 => ?_)
    have e2 : g2 b2 = h b2 := by rw [P2.2.1 _ (by omega) (by omega), P1.2.1 _ (by omega) (by omega)]
    have m2 : mu g2 b 3 (g2 b2 3) b2 = g2 b2 := mu_ne (by omega)
    rw [mlet_eq, mlet_eq, m2, e2, R2.1.1, R2.1.2]
    have e : ∀ a, a ≠ b → mu (mu g2 b 3 (st2.1 0)) b 4 (st2.1 1) a = g2 a := fun a ha => by rw [mu_ne ha, mu_ne ha]
    refine wR ⟨⟨⟨?_, ?_⟩, ?_, ?_, fun i hi => ?_⟩, fun a ha => ?_⟩
    · rw [mu_rdn (by omega), mu_rde rfl]
    · rw [mu_rde rfl]
    · exact (P1.1.off P2.2 (by omega) (by omega) (by omega)).fr (e _ (by omega)) (e _ (by omega))
    · exact P2.1.fr (e _ (by omega)) (e _ (by omega))
    · have q := R.2.2.2 i hi
      rw [z i (by omega)] at q
      exact q.frm (fun a h1 h2 => by rw [e a (by omega), P2.2.1 a (by omega) (by omega), P1.2.1 a (by omega) (by omega)])
    · rw [e a (by omega), P2.2.1 a (by omega) (by omega), P1.2.1 a (by omega) (by omega)]
  | succ d ih =>
    intro c n st h h1 h2 R R2 z
    obtain ⟨n, rfl⟩ : ∃ z, n = z + 1 := ⟨n - 1, by omega⟩
    have hc : c < 6 := by omega
    unfold f_X6_copyFrom_2
    rw [if_neg (by rw [li_6, nI_leI (by omega) (by omega)]; omega), W.1.1, W2.1.1, wcl W hc, wcl W2 hc, show nI c + 1 = nI (c + 1) by rw [li_1, nI_add]]
    refine wB (C_clientCopy (W.2.2.2.1 c hc).2.2 (W2.2.2.2.1 c hc).2.2 (by unfold AwK; omega) (R.2.2.2 c hc) (R2.2.2.2 c hc)) (fun _ g P => ?_)
    refine wM (ih (c + 1) n _ g (by omega) (by omega) (R.cl hc P.1 P.2) (R2.frm (fun a h1 h2 => P.2 a (by omega))) ?_) (fun _ g2 Q => ⟨Q.1, (P.2.w hc).tr Q.2⟩)
    intro i hi
    by_cases e : i = c
    · rw [e, sC_eq]
    · rw [sC_ne e]
      exact z i (by omega)
theorem C_wcopy {h : Mem} {b b2 : Nat} {st st2 : St} (W : WK b) (W2 : WK b2) (aw : b + 96 ≤ b2 ∨ b2 + 96 ≤ b) (R : RWd h b st) (R2 : RWd h b2 st2) : Tr (f_X6_copyFrom b b2 h) (fun _ h' => RWd h' b st2 ∧ FrW b h h') := C_wcp2 W W2 aw 6 0 xFU st h (by omega) (by unfold xFU; omega) R R2 (fun i hi => by omega)
