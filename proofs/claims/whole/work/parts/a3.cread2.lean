/-! the class: subscription, kept, line, flight, took -/
theorem lvs_cz {r : List Int32} {a : Nat} (P : PV a (g5 r)) (ha : a ≤ 28) : cnz (lvO (g5 r)) 4 0 = lvs r := by
  obtain ⟨n, hn⟩ := P.1
  rw [hn.cz]
  have z : ∀ j, j < 4 → (g5 r j ≤ 0 ↔ n ≤ j) := by
    intro j hj
    have m := P.2.1 j
    rw [P.2.2 j hj, li_0, nI_leI (by omega) (by omega)]
    constructor
    · intro q
      rcases Nat.lt_or_ge j n with y | y
      · exact absurd (by omega) (hn.2.1 j y)
      · exact y
    · intro q
      rw [hn.2.2 j q]
      omega
  have key : ∀ d k, k + d = 4 → k ≤ n → lvF (g5 r) d k = n := by
    intro d
    induction d with
    | zero =>
      intro k h1 h2
      have := hn.1
      show k = n
      omega
    | succ d ih =>
      intro k h1 h2
      unfold lvF
      by_cases q : n ≤ k
      · rw [if_pos ((z k (by omega)).mpr q)]
        omega
      · rw [if_neg (fun y => q ((z k (by omega)).mp y))]
        exact ih (k + 1) (by omega) (by omega)
  exact (key 4 0 rfl (by omega)).symm
theorem C_pathFact {r : List Int32} {a m : Nat} {h : Mem} (P : PV a (g5 r)) (ha : a ≤ 28) (hm : m = 0 ∨ (4 ≤ m ∧ m ≤ 7)) : f_X7_pathFact (pth (lvO (g5 r))) (nI m) h = some (if m = 0 then nI (lvs r) else g5 r (m - 4), h) := by
  unfold f_X7_pathFact
  rcases hm with rfl | hm
  · rw [if_pos (show nI 0 = 0 from rfl), C_count (P.l5 ha), b2_some, lvs_cz P ha, if_pos rfl]
  · have ne : ¬ nI m = 0 := fun z => by
      have z' : nI m = nI 0 := z
      have := (nI_eq (by omega) (by omega)).mp z'
      omega
    rw [if_neg ne, show nI m - 4 = nI (m - 4) by rw [li_4, nI_subP (by omega)], C_levelAt (P.l5 ha) (by omega), b2_some, if_neg (by omega), P.2.2 (m - 4) (by omega)]
theorem X_kept (T : Top) {B : Nat} (V : TV B T) (i f : Int32) : CO (f_X7_kept 0 i f) (O_kept T i f) B T := by
  unfold O_kept
  by_cases hi : i < 0
  · rw [if_pos (Or.inl hi)]
    refine CO.same V (fun h R => ?_)
    unfold f_X7_kept
    rw [if_pos hi]
  · cases hf : inR f 0 7 with
    | false =>
      rw [if_pos (Or.inr rfl)]
      refine CO.same V (fun h R => ?_)
      unfold f_X7_kept
      rw [if_neg hi, C_out, b2_some, hf, if_neg bI_f]
    | true =>
      rw [if_neg (fun q => q.elim hi (fun y => by cases y))]
      obtain ⟨m, hm, rfl⟩ := nI_nn hi
      obtain ⟨w, hw, rfl⟩ := inR_ex (b := 7) (by omega) hf
      rw [nI_clamp (by omega), nI_clamp (by omega)]
      have sz : ∀ h, RCo h T → h 102 3 = nI (T.1.2.1 6).length ∧ (T.1.2.1 6).length ≤ 12 := by
        intro h R
        have z := R.1.2.1.2.2.1
        rw [List.length_map] at z
        exact ⟨z, R.1.len6⟩
      by_cases e : m < (T.1.2.1 6).length
      · rw [if_pos e]
        have vr := V.1.1.2.2.2 _ (gr_mem e)
        refine CO.same V (fun h R => ?_)
        have z := sz h R
        have cell : ∀ j, j < 4 → f_X3_cell 102 (nI m) (nI j) h = some (g5 (kmR (gr (T.1.2.1 6) m)) j, h) := by
          intro j hj
          have y := C_cell (j := j) W100.2.1.1 R.1.2.1 (by rw [List.length_map]; exact e) hj
          rw [gr_map e] at y
          exact y
        have c0 : f_X3_cell 102 (nI m) 0 h = some (pth (lvO (g5 (gr (T.1.2.1 6) m))), h) := cell 0 (by omega)
        unfold f_X7_kept f_X7_kept_55
        rw [if_neg hi, C_out, b2_some, hf, if_pos bI_t, x0_2, W100.1.2.1, z.1, if_pos (by rw [nI_ltI (by omega) (by omega)]; exact e), c0, b2_some]
        generalize gr (T.1.2.1 6) m = r at vr cell ⊢
        rcases (show w = 0 ∨ w = 1 ∨ w = 2 ∨ w = 3 ∨ w = 4 ∨ w = 5 ∨ w = 6 ∨ w = 7 by omega) with rfl | rfl | rfl | rfl | rfl | rfl | rfl | rfl
        · rw [if_pos (show nI 0 = 0 from rfl), C_pathFact vr.1 (by omega) (Or.inl rfl), b2_some]
          rfl
        · rw [if_neg (by decide), if_pos (by decide), cell 1 (by omega), b2_some]
          rfl
        · rw [if_neg (by decide), if_pos (by decide), cell 2 (by omega), b2_some]
          rfl
        · rw [if_neg (by decide), if_pos (by decide), cell 3 (by omega), b2_some]
          rfl
        · rw [if_neg (by decide), if_neg (by decide), C_pathFact vr.1 (by omega) (Or.inr (by omega)), b2_some]
          rfl
        · rw [if_neg (by decide), if_neg (by decide), C_pathFact vr.1 (by omega) (Or.inr (by omega)), b2_some]
          rfl
        · rw [if_neg (by decide), if_neg (by decide), C_pathFact vr.1 (by omega) (Or.inr (by omega)), b2_some]
          rfl
        · rw [if_neg (by decide), if_neg (by decide), C_pathFact vr.1 (by omega) (Or.inr (by omega)), b2_some]
          rfl
      · rw [if_neg e]
        refine CO.same V (fun h R => ?_)
        have z := sz h R
        unfold f_X7_kept
        rw [if_neg hi, C_out, b2_some, hf, if_pos bI_t, x0_2, W100.1.2.1, z.1, if_neg (by rw [nI_ltI (by omega) (by omega)]; exact e)]
theorem X_subscription (T : Top) {B : Nat} (V : TV B T) (c i f : Int32) : CO (f_X7_subscription 0 c i f) (O_subscription T c i f) B T := by
  unfold O_subscription
  cases hc : inR c 0 5 with
  | false =>
    rw [if_pos (Or.inl rfl)]
    refine CO.same V (fun h R => ?_)
    unfold f_X7_subscription
    rw [C_noC, b2_some, hc, if_neg bI_f]
  | true =>
    obtain ⟨n, hn, rfl⟩ := in5 hc
    rw [nI_clamp (by omega)]
    by_cases hi : i < 0
    · rw [if_pos (Or.inr (Or.inl hi))]
      refine CO.same V (fun h R => ?_)
      unfold f_X7_subscription
      rw [C_noC, b2_some, hc, if_pos bI_t, if_pos hi]
    · cases hf : inR f 0 7 with
      | false =>
        rw [if_pos (Or.inr (Or.inr rfl))]
        refine CO.same V (fun h R => ?_)
        unfold f_X7_subscription
        rw [C_noC, b2_some, hc, if_pos bI_t, if_neg hi, C_out, b2_some, hf, if_neg bI_f]
      | true =>
        rw [if_neg (fun q => q.elim (fun y => by cases y) (fun y => y.elim hi (fun z => by cases z)))]
        obtain ⟨m, hm, rfl⟩ := nI_nn hi
        obtain ⟨w, hw, rfl⟩ := inR_ex (b := 7) (by omega) hf
        rw [nI_clamp (by omega), nI_clamp (by omega)]
        have hcv := V.1.1.1 n hn
        have K := (W100.2.2.2.1 n hn).2.2
        have sb := hcv.2.2.2.2.2.1
        have sz : ∀ h, RCo h T → h (100 + 6 + 15 * n + 1) 3 = nI ((T.1.2.2 n).2 3).length := by
          intro h R
          have z := (R.1.2.2.2 n hn).2.1.2.2.1
          rw [List.length_map] at z
          exact z
        by_cases e : m < ((T.1.2.2 n).2 3).length
        · have s0 : ¬ (T.1.2.2 n).1 0 = 0 := fun q => by
            rw [sb.2.2 q] at e
            simp at e
          rw [if_pos ⟨s0, e⟩]
          have vr := sb.1 _ (gr_mem e)
          refine CO.same V (fun h R => ?_)
          have cell : ∀ j, j < 3 → f_X3_cell (100 + 6 + 15 * n + 1) (nI m) (nI j) h = some (g5 (smR (gr ((T.1.2.2 n).2 3) m)) j, h) := by
            intro j hj
            have y := C_cell (j := j) K.2.1.1 (R.1.2.2.2 n hn).2.1 (by rw [List.length_map]; exact e) hj
            rw [gr_map e] at y
            exact y
          have c0 : f_X3_cell (100 + 6 + 15 * n + 1) (nI m) 0 h = some (pth (lvO (g5 (gr ((T.1.2.2 n).2 3) m))), h) := cell 0 (by omega)
          have tpe := isTp_B V.2.1
          have pv := V.2.1.pv
          have l6 := sb.2.1
          unfold f_X7_subscription f_X7_subscription_100
          rw [C_noC, b2_some, hc, if_pos bI_t, if_neg hi, C_out, b2_some, hf, if_pos bI_t, x0_2, W100.1.1, wcl W100 hn, K.1.1, sz h R, if_pos (by rw [nI_ltI (by omega) (by omega)]; exact e), c0, b2_some, R.2.1, C_isTopic pv, b2_some, ← tpe]
          generalize gr ((T.1.2.2 n).2 3) m = r at vr cell ⊢
          rcases (show w = 0 ∨ w = 1 ∨ w = 2 ∨ w = 3 ∨ w = 4 ∨ w = 5 ∨ w = 6 ∨ w = 7 by omega) with rfl | rfl | rfl | rfl | rfl | rfl | rfl | rfl
          · rw [if_neg (by decide), if_pos (show nI 0 = 0 from rfl), C_pathFact vr.1 (by omega) (Or.inl rfl), b2_some]
            rfl
          · rw [if_neg (by decide), if_neg (by decide), if_pos (by decide), cell 1 (by omega), b2_some]
            rfl
          · rw [if_neg (by decide), if_neg (by decide), if_pos (by decide), cell 2 (by omega), b2_some]
            rfl
          · rw [if_pos (show nI 3 = 3 from rfl), if_neg (show ¬ nI 3 = 0 by decide), if_neg (show ¬ nI 3 = 1 by decide), if_neg (show ¬ nI 3 = 2 by decide), if_pos (show nI 3 = 3 from rfl)]
            cases ht : isTp T.2.1 with
            | false => rw [if_pos (show bI false = 0 from rfl), if_neg (by decide)]
            | true =>
              have pt := pv.tp (by rw [← tpe]; exact ht)
              rw [if_neg (show ¬ bI true = 0 by decide), R.2.1, vr.1.match' pt.1 (by omega) (by omega), b2_some, if_pos rfl]
              cases mtr r (g5 T.2.1) <;> rfl
          · rw [if_neg (by decide), if_neg (by decide), if_neg (by decide), C_pathFact vr.1 (by omega) (Or.inr (by omega)), b2_some]
            rfl
          · rw [if_neg (by decide), if_neg (by decide), if_neg (by decide), C_pathFact vr.1 (by omega) (Or.inr (by omega)), b2_some]
            rfl
          · rw [if_neg (by decide), if_neg (by decide), if_neg (by decide), C_pathFact vr.1 (by omega) (Or.inr (by omega)), b2_some]
            rfl
          · rw [if_neg (by decide), if_neg (by decide), if_neg (by decide), C_pathFact vr.1 (by omega) (Or.inr (by omega)), b2_some]
            rfl
        · rw [if_neg (fun q => e q.2)]
          refine CO.same V (fun h R => ?_)
          have l6 := sb.2.1
          unfold f_X7_subscription
          rw [C_noC, b2_some, hc, if_pos bI_t, if_neg hi, C_out, b2_some, hf, if_pos bI_t, x0_2, W100.1.1, wcl W100 hn, K.1.1, sz h R, if_neg (by rw [nI_ltI (by omega) (by omega)]; exact e)]
theorem X_took (T : Top) {B : Nat} (V : TV B T) (c i f : Int32) : CO (f_X7_took 0 c i f) (O_took T c i f) B T := by
  unfold O_took
  cases hc : inR c 0 5 with
  | false =>
    rw [if_pos (Or.inl rfl)]
    refine CO.same V (fun h R => ?_)
    unfold f_X7_took
    rw [C_noC, b2_some, hc, if_neg bI_f]
  | true =>
    obtain ⟨n, hn, rfl⟩ := in5 hc
    rw [nI_clamp (by omega)]
    by_cases hi : i < 0
    · rw [if_pos (Or.inr (Or.inl hi))]
      refine CO.same V (fun h R => ?_)
      unfold f_X7_took
      rw [C_noC, b2_some, hc, if_pos bI_t, if_pos hi]
    · cases hf : inR f 0 3 with
      | false =>
        rw [if_pos (Or.inr (Or.inr rfl))]
        refine CO.same V (fun h R => ?_)
        unfold f_X7_took
        rw [C_noC, b2_some, hc, if_pos bI_t, if_neg hi, C_out, b2_some, hf, if_neg bI_f]
      | true =>
        rw [if_neg (fun q => q.elim (fun y => by cases y) (fun y => y.elim hi (fun z => by cases z)))]
        obtain ⟨m, hm, rfl⟩ := nI_nn hi
        obtain ⟨w, hw, rfl⟩ := inR_ex (b := 3) (by omega) hf
        rw [nI_clamp (by omega), nI_clamp (by omega)]
        have K := (W100.2.2.2.1 n hn).2.2
        have pre : ∀ h, RCo h T → f_X7_took 0 (nI n) (nI m) (nI w) h = if nI ((T.1.2.2 n).2 11).length ≤ nI m then some (-4, h) else b2 (f_X3_cell (100 + 6 + 15 * n + 12) (nI m) (nI w) h) fun v7 h6 => some (v7, h6) := by
          intro h R
          unfold f_X7_took
          rw [C_noC, b2_some, hc, if_pos bI_t, if_neg hi, C_out, b2_some, hf, if_pos bI_t, x0_2, W100.1.1, wcl W100 hn, K.1.2.2.2.2.2.2.1, (R.1.2.2.2 n hn).2.2.2.2.2.2.2.1.2.2.1]
        by_cases e : nI ((T.1.2.2 n).2 11).length ≤ nI m
        · rw [if_pos e]
          refine CO.same V (fun h R => ?_)
          rw [pre h R, if_pos e]
        · rw [if_neg e]
          refine CO.same V (fun h R => ?_)
          have T11 := (R.1.2.2.2 n hn).2.2.2.2.2.2.2.1
          have l30 := T11.2.2.2.1
          rw [pre h R, if_neg e, C_cell K.2.1.2.2.2.2.2 T11 (by rw [nI_leI (by omega) (by omega)] at e; omega) (by omega), b2_some]
theorem X_flight (T : Top) {B : Nat} (V : TV B T) (c i f : Int32) : CO (f_X7_flight 0 c i f) (O_flight T c i f) B T := by
  unfold O_flight
  cases hc : inR c 0 5 with
  | false =>
    rw [if_pos (Or.inl rfl)]
    refine CO.same V (fun h R => ?_)
    unfold f_X7_flight
    rw [C_noC, b2_some, hc, if_neg bI_f]
  | true =>
    obtain ⟨n, hn, rfl⟩ := in5 hc
    rw [nI_clamp (by omega)]
    by_cases hi : i < 0
    · rw [if_pos (Or.inr (Or.inl hi))]
      refine CO.same V (fun h R => ?_)
      unfold f_X7_flight
      rw [C_noC, b2_some, hc, if_pos bI_t, if_pos hi]
    · cases hf : inR f 0 4 with
      | false =>
        rw [if_pos (Or.inr (Or.inr rfl))]
        refine CO.same V (fun h R => ?_)
        unfold f_X7_flight
        rw [C_noC, b2_some, hc, if_pos bI_t, if_neg hi, C_out, b2_some, hf, if_neg bI_f]
      | true =>
        rw [if_neg (fun q => q.elim (fun y => by cases y) (fun y => y.elim hi (fun z => by cases z)))]
        obtain ⟨m, hm, rfl⟩ := nI_nn hi
        obtain ⟨w, hw, rfl⟩ := inR_ex (b := 4) (by omega) hf
        rw [nI_clamp (by omega), nI_clamp (by omega)]
        have K := (W100.2.2.2.1 n hn).2.2
        have ml : (((T.1.2.2 n).2 4).map fmR ++ ((T.1.2.2 n).2 5).map qmR).length = ((T.1.2.2 n).2 4).length + ((T.1.2.2 n).2 5).length := by simp
        have pre : ∀ h, RCo h T → f_X7_flight 0 (nI n) (nI m) (nI w) h = if nI (((T.1.2.2 n).2 4).length + ((T.1.2.2 n).2 5).length) ≤ nI m then some (-4, h) else b2 (f_X3_cell (100 + 6 + 15 * n + 4) (nI m) (nI w) h) fun v7 h6 => some (v7, h6) := by
          intro h R
          have z := (R.1.2.2.2 n hn).2.2.2.1.2.2.1
          rw [ml] at z
          unfold f_X7_flight
          rw [C_noC, b2_some, hc, if_pos bI_t, if_neg hi, C_out, b2_some, hf, if_pos bI_t, x0_2, W100.1.1, wcl W100 hn, K.1.2.2.1, z]
        by_cases e4 : m < ((T.1.2.2 n).2 4).length
        · rw [if_pos e4]
          refine CO.same V (fun h R => ?_)
          have M := (R.1.2.2.2 n hn).2.2.2.1
          have l16 := (R.1.2.2.2 n hn).len4
          rw [pre h R, if_neg (by rw [nI_leI (by omega) (by omega)]; omega), C_cell K.2.1.2.1 M (by rw [ml]; omega) (by omega), b2_some, gr_mapl e4]
          generalize gr ((T.1.2.2 n).2 4) m = r
          rcases (show w = 0 ∨ w = 1 ∨ w = 2 ∨ w = 3 ∨ w = 4 by omega) with rfl | rfl | rfl | rfl | rfl <;> rfl
        · rw [if_neg e4]
          by_cases e5 : m - ((T.1.2.2 n).2 4).length < ((T.1.2.2 n).2 5).length
          · rw [if_pos e5]
            refine CO.same V (fun h R => ?_)
            have M := (R.1.2.2.2 n hn).2.2.2.1
            have l16 := (R.1.2.2.2 n hn).len4
            have eg := gr_mapr (l := (T.1.2.2 n).2 4) e5 fmR qmR
            rw [show ((T.1.2.2 n).2 4).length + (m - ((T.1.2.2 n).2 4).length) = m by omega] at eg
            rw [pre h R, if_neg (by rw [nI_leI (by omega) (by omega)]; omega), C_cell K.2.1.2.1 M (by rw [ml]; omega) (by omega), b2_some, eg]
            generalize gr ((T.1.2.2 n).2 5) (m - ((T.1.2.2 n).2 4).length) = r
            rcases (show w = 0 ∨ w = 1 ∨ w = 2 ∨ w = 3 ∨ w = 4 by omega) with rfl | rfl | rfl | rfl | rfl <;> rfl
          · rw [if_neg e5]
            refine CO.same V (fun h R => ?_)
            have l16 := (R.1.2.2.2 n hn).len4
            rw [pre h R, if_pos (by rw [nI_leI (by omega) (by omega)]; omega)]
theorem X_line (T : Top) {B : Nat} (V : TV B T) (c y i f : Int32) : CO (f_X7_line 0 c y i f) (O_line T c y i f) B T := by
  unfold O_line
  cases hc : inR c 0 5 with
  | false =>
    rw [if_pos (Or.inl rfl)]
    refine CO.same V (fun h R => ?_)
    unfold f_X7_line
    rw [C_noC, b2_some, hc, if_neg bI_f]
  | true =>
    obtain ⟨n, hn, rfl⟩ := in5 hc
    rw [nI_clamp (by omega)]
    cases hy : inR y 0 1 with
    | false =>
      rw [if_pos (Or.inr (Or.inl rfl))]
      refine CO.same V (fun h R => ?_)
      unfold f_X7_line
      rw [C_noC, b2_some, hc, if_pos bI_t, C_out, b2_some, hy, if_neg bI_f]
    | true =>
      by_cases hi : i < 0
      · rw [if_pos (Or.inr (Or.inr (Or.inl hi)))]
        refine CO.same V (fun h R => ?_)
        unfold f_X7_line
        rw [C_noC, b2_some, hc, if_pos bI_t, C_out, b2_some, hy, if_pos bI_t, if_pos hi]
      · cases hf : inR f 0 4 with
        | false =>
          rw [if_pos (Or.inr (Or.inr (Or.inr rfl)))]
          refine CO.same V (fun h R => ?_)
          unfold f_X7_line
          rw [C_noC, b2_some, hc, if_pos bI_t, C_out, b2_some, hy, if_pos bI_t, if_neg hi, C_out, b2_some, hf, if_neg bI_f]
        | true =>
          rw [if_neg (fun q => q.elim (fun z => by cases z) (fun z => z.elim (fun w => by cases w) (fun w => w.elim hi (fun x => by cases x))))]
          obtain ⟨m, hm, rfl⟩ := nI_nn hi
          obtain ⟨w, hw, rfl⟩ := inR_ex (b := 4) (by omega) hf
          rw [nI_clamp (by omega), nI_clamp (by omega)]
          have K := (W100.2.2.2.1 n hn).2.2
          have hd := W100.2.2.2.2
          rcases in1 hy with rfl | rfl
          · rw [if_pos rfl]
            have pre : ∀ h, RCo h T → f_X7_line 0 (nI n) 0 (nI m) (nI w) h = if nI ((T.1.2.2 n).2 6).length ≤ nI m then some (-4, h) else b2 (f_X3_cell (100 + 6 + 15 * n + 6) (nI m) (nI w) h) fun v7 h6 => some (v7, h6) := by
              intro h R
              unfold f_X7_line f_X0_packets
              rw [C_noC, b2_some, hc, if_pos bI_t, C_out, b2_some, hy, if_pos bI_t, if_neg hi, C_out, b2_some, hf, if_pos bI_t, x0_2, W100.1.1, wcl W100 hn, if_pos rfl, b2_some, K.1.2.2.2.1, tg_2 K.2.2.2.1.1 (by omega), (R.1.2.2.2 n hn).2.2.2.2.1.2.2.1]
            by_cases e : nI m < nI ((T.1.2.2 n).2 6).length
            · rw [if_pos e]
              refine CO.same V (fun h R => ?_)
              have D := (R.1.2.2.2 n hn).2.2.2.2.1
              have l16 := D.2.2.2.1
              rw [pre h R, if_neg (Int32.not_le.mpr e), C_cell K.2.1.2.2.1 D (by rw [nI_ltI (by omega) (by omega)] at e; exact e) (by omega), b2_some]
            · rw [if_neg e]
              refine CO.same V (fun h R => ?_)
              rw [pre h R, if_pos (Int32.not_lt.mp e)]
          · rw [if_neg n10]
            have pre : ∀ h, RCo h T → f_X7_line 0 (nI n) 1 (nI m) (nI w) h = if nI ((T.1.2.2 n).2 7).length ≤ nI m then some (-4, h) else b2 (f_X3_cell (100 + 6 + 15 * n + 8) (nI m) (nI w) h) fun v7 h6 => some (v7, h6) := by
              intro h R
              have z := (R.1.2.2.2 n hn).2.2.2.2.2.1.2.2.1
              rw [List.length_map] at z
              unfold f_X7_line f_X0_packets
              rw [C_noC, b2_some, hc, if_pos bI_t, C_out, b2_some, hy, if_pos bI_t, if_neg hi, C_out, b2_some, hf, if_pos bI_t, x0_2, W100.1.1, wcl W100 hn, if_neg n10, b2_some, K.1.2.2.2.2.1, tg_2 K.2.2.2.1.2 (by omega), z]
            by_cases e : nI m < nI ((T.1.2.2 n).2 7).length
            · have cell : ∀ h, RCo h T → f_X7_line 0 (nI n) 1 (nI m) (nI w) h = some (g5 (umR (gr ((T.1.2.2 n).2 7) m)) w, h) := by
                intro h R
                have D := (R.1.2.2.2 n hn).2.2.2.2.2.1
                have l16 := D.2.2.2.1
                rw [List.length_map] at l16
                have e' := e
                rw [nI_ltI (by omega) (by omega)] at e'
                rw [pre h R, if_neg (Int32.not_le.mpr e), C_cell K.2.1.2.2.2.1 D (by rw [List.length_map]; exact e') (by omega), b2_some, gr_map e']
              generalize gr ((T.1.2.2 n).2 7) m = r at cell ⊢
              by_cases w2 : w < 2
              · rw [if_pos ⟨e, by rw [li_2, nI_ltI (by omega) (by omega)]; exact w2⟩]
                refine CO.same V (fun h R => ?_)
                rw [cell h R]
                rcases (show w = 0 ∨ w = 1 by omega) with rfl | rfl <;> rfl
              · rw [if_neg (fun q => w2 (by have := q.2; rw [li_2, nI_ltI (by omega) (by omega)] at this; exact this))]
                refine CO.same V (fun h R => ?_)
                rw [cell h R]
                rcases (show w = 2 ∨ w = 3 ∨ w = 4 by omega) with rfl | rfl | rfl <;> rfl
            · rw [if_neg (fun q => e q.1)]
              refine CO.same V (fun h R => ?_)
              rw [pre h R, if_pos (Int32.not_lt.mp e)]
