/-! the class: say, leave -/
theorem SV.saysC {B : Nat} {st : St} {t : Nat → Int32} (h : SVc B st) (hB : B + 100 < 2 ^ 30) (ht : PV 26 t) (v p k : Int32) (hp : pOk p) : SVc (B + 13000) (A_says st t v p k) :=
  h.up (h.1.says (by omega) ht v p k hp) (A_says_0 _ _ _ _ _) (by omega)
theorem C_say56 {h : Mem} {T : Top} {B n : Nat} {t : Nat → Int32} (V : TV B T) (hB : B + 100 < 2 ^ 30) (R : RCo h T) (hn : n < 6) (e : (T.1.2.2 n).1 0 = 1) (ht : PV 28 t) (tp : tpB t = true) (v p kp : Int32) (hp : inR p 0 2 = true) (hk : inR kp 0 1 = true) : Tr (f_X7_say_56 0 (nI n) v p kp (pth (lvO t)) h) (fun r h' => r = wnt (A_says T.1 t v p kp) - wnt T.1 ∧ RWd h' 100 (A_says T.1 t v p kp) ∧ SVc (B + 13000) (A_says T.1 t v p kp) ∧ FrW 100 h h') := by
  have pt := ht.tp tp
  unfold f_X7_say_56 f_X7_say_97
  rw [yAw hn R e, b2_some, if_neg n10, C_isTopic ht, b2_some, tp, if_neg (show ¬ bI true = 0 by decide), x0_2]
  have fin : Tr (b2 (f_X6_utter 100 (pth (lvO t)) v p kp h) fun v2 h1 => some (v2, h1)) (fun r h' => r = wnt (A_says T.1 t v p kp) - wnt T.1 ∧ RWd h' 100 (A_says T.1 t v p kp) ∧ SVc (B + 13000) (A_says T.1 t v p kp) ∧ FrW 100 h h') :=
    wB (C_utter W100 pt.1 R.1 V.1.1.sb V.1.1.2.2.1 V.1.1.2.1 V.1.1.lt V.1.1.2.2.2 v p kp (in1 hk)) (fun r g P => wR ⟨P.1, P.2.1, SV.saysC V.1 hB pt.1 v p kp (in2 hp), P.2.2⟩)
  rcases in1 hk with rfl | rfl
  · rw [if_neg (by decide)]
    exact fin
  · rw [if_pos rfl]
    exact fin
theorem C_say56n {h : Mem} {T : Top} {n : Nat} {t : Nat → Int32} (R : RCo h T) (hn : n < 6) (ht : PV 28 t) (q : ¬ (T.1.2.2 n).1 0 = 1 ∨ tpB t = false) (v p kp : Int32) : f_X7_say_56 0 (nI n) v p kp (pth (lvO t)) h = some (-2, h) := by
  unfold f_X7_say_56
  by_cases e : (T.1.2.2 n).1 0 = 1
  · rcases q with q | q
    · exact absurd e q
    · rw [yAw hn R e, b2_some, if_neg n10, C_isTopic ht, b2_some, q, if_pos (show bI false = 0 from rfl)]
  · rw [nAw hn R e, b2_some, if_pos rfl]
theorem X_say (T : Top) {B : Nat} (V : TV B T) (hB : B + 100 < 2 ^ 30) (c k v p kp : Int32) : CO (f_X7_say 0 c k v p kp) (O_say T c k v p kp) B T := by
  unfold O_say
  cases hc : inR c 0 5 with
  | false =>
    rw [if_pos (Or.inl rfl)]
    refine CO.same V (fun h R => ?_)
    unfold f_X7_say
    rw [C_noC, b2_some, hc, if_neg bI_f]
  | true =>
    obtain ⟨n, hn, rfl⟩ := in5 hc
    rw [nI_clamp (by omega)]
    cases hq : inR k 0 4 with
    | false =>
      rw [if_pos (Or.inr (Or.inl rfl))]
      refine CO.same V (fun h R => ?_)
      unfold f_X7_say
      rw [C_noC, b2_some, hc, if_pos bI_t, C_out, b2_some, hq, if_neg bI_f]
    | true =>
      by_cases hb : inR v 0 99 = false ∨ inR p 0 2 = false ∨ inR kp 0 1 = false
      · rw [if_pos (Or.inr (Or.inr hb))]
        refine CO.same V (fun h R => ?_)
        unfold f_X7_say
        rw [C_noC, b2_some, hc, if_pos bI_t, C_out, b2_some, hq, if_pos bI_t, C_bad, b2_some, if_neg (bd3n hb)]
      · have hv : inR v 0 99 = true := by
          cases q : inR v 0 99 with
          | true => rfl
          | false => exact absurd (Or.inl q) hb
        have hp : inR p 0 2 = true := by
          cases q : inR p 0 2 with
          | true => rfl
          | false => exact absurd (Or.inr (Or.inl q)) hb
        have hk : inR kp 0 1 = true := by
          cases q : inR kp 0 1 with
          | true => rfl
          | false => exact absurd (Or.inr (Or.inr q)) hb
        have b3 := bd3 hv hp hk
        rw [if_neg (by rw [hv, hp, hk]; decide)]
        obtain ⟨m, hm, rfl⟩ := inR_ex (b := 4) (by omega) hq
        rw [nI_clamp (by omega)]
        have hcv := V.1.1.1 n hn
        have K := (W100.2.2.2.1 n hn).2.2
        have tpe := isTp_B V.2.1
        rcases Nat.eq_zero_or_pos m with m0 | m0
        · subst m0
          have pre : ∀ h, RCo h T → f_X7_say 0 (nI n) (nI 0) v p kp h = f_X7_say_56 0 (nI n) v p kp (pth (lvO (g5 T.2.1))) h := by
            intro h R
            unfold f_X7_say
            rw [C_noC, b2_some, hc, if_pos bI_t, C_out, b2_some, hq, if_pos bI_t, C_bad, b2_some, if_pos b3, if_pos (show nI 0 = 0 from rfl), R.2.1]
          have et : tpc T n 0 = g5 T.2.1 := rfl
          rw [et]
          by_cases e : ¬ (T.1.2.2 n).1 0 = 1 ∨ isTp T.2.1 = false
          · rw [if_pos (e.elim (fun y => Or.inl y) (fun y => Or.inr (Or.inl ⟨rfl, y⟩)))]
            refine CO.same V (fun h R => ?_)
            rw [pre h R]
            exact C_say56n R hn V.2.1.pv (by rw [← tpe]; exact e) v p kp
          · rw [if_neg (fun y => e (y.elim (fun z => Or.inl z) (fun z => z.elim (fun w => Or.inr w.2) (fun w => absurd rfl w.1))))]
            have e1 : (T.1.2.2 n).1 0 = 1 := Classical.byContradiction (fun y => e (Or.inl y))
            have e2 : isTp T.2.1 = true := by
              cases q : isTp T.2.1 with
              | true => rfl
              | false => exact absurd (Or.inr q) e
            refine CO.world V (fun h R => ?_)
            rw [pre h R]
            exact C_say56 V hB R hn e1 V.2.1.pv (by rw [← tpe]; exact e2) v p kp hp hk
        · have nm : ¬ nI m = 0 := fun z => by
            have z' : nI m = nI 0 := z
            have := (nI_eq (by omega) (by omega)).mp z'
            omega
          have va := hcv.2.2.2.2.2.2.1 (m - 1) (by omega)
          have em : nI m - 1 = nI (m - 1) := by rw [li_1, nI_subP (by omega)]
          have et : tpc T n m = fun j => (T.1.2.2 n).1 (29 + 4 * (m - 1) + j) := by
            funext j
            unfold tpc
            rw [if_neg (by omega)]
          rw [et]
          have pre : ∀ h, RCo h T → f_X7_say 0 (nI n) (nI m) v p kp h = f_X7_say_56 0 (nI n) v p kp (pth (lvO (fun j => (T.1.2.2 n).1 (29 + 4 * (m - 1) + j)))) h := by
            intro h R
            have ea : h (100 + 6 + 15 * n + 3) (m - 1) = pth (lvO (fun i => (T.1.2.2 n).1 (29 + 4 * (m - 1) + i))) := (R.1.2.2.2 n hn).2.2.1 (m - 1) (by omega)
            unfold f_X7_say
            rw [C_noC, b2_some, hc, if_pos bI_t, C_out, b2_some, hq, if_pos bI_t, C_bad, b2_some, if_pos b3, if_neg nm, x0_2, W100.1.1, wcl W100 hn, K.1.2.1, em, ald_nI (by rw [K.2.2.1]; omega) (by omega), ea]
          have tc := va.tpc
          have tc' : tpB (fun j => (T.1.2.2 n).1 (29 + 4 * (m - 1) + j)) = !((T.1.2.2 n).1 (29 + 4 * (m - 1)) == 0) := tc
          have v28 := va.mono (b := 28) (by omega)
          by_cases e : ¬ (T.1.2.2 n).1 0 = 1 ∨ (T.1.2.2 n).1 (29 + 4 * (m - 1)) = 0
          · rw [if_pos (e.elim (fun y => Or.inl y) (fun y => Or.inr (Or.inr ⟨nm, y⟩)))]
            refine CO.same V (fun h R => ?_)
            rw [pre h R]
            refine C_say56n R hn v28 (e.elim (fun y => Or.inl y) (fun y => Or.inr ?_)) v p kp
            rw [tc', y]
            rfl
          · rw [if_neg (fun y => e (y.elim (fun z => Or.inl z) (fun z => z.elim (fun w => absurd w.1 nm) (fun w => Or.inr w.2))))]
            have e1 : (T.1.2.2 n).1 0 = 1 := Classical.byContradiction (fun y => e (Or.inl y))
            have e2 : ¬ (T.1.2.2 n).1 (29 + 4 * (m - 1)) = 0 := fun y => e (Or.inr y)
            refine CO.world V (fun h R => ?_)
            rw [pre h R]
            refine C_say56 V hB R hn e1 v28 ?_ v p kp hp hk
            have : ((T.1.2.2 n).1 (29 + 4 * (m - 1)) == 0) = false := by rw [beq_eq_false_iff_ne]; exact e2
            rw [tc', this]
            rfl
/-- a subscription leaves -/
theorem CV.subs {B : Nat} {cl : Cl} {rows : List (List Int32)} (h : CV B cl) (h1 : cl.1 0 = 1) (hr : ∀ r ∈ rows, SbV r ∧ r.length = 6) (hl : rows.length ≤ 6) : CV B (sT cl 3 rows) := by
  obtain ⟨a, b, c, d, e, f, g, i, j⟩ := h
  refine ⟨a, b.tab (fun r hr' => (hr r hr').2), ?_, ?_, e.cgr rfl (sT_ne (by omega)) (sT_ne (by omega)) (sT_ne (by omega)) (sT_ne (by omega)) (sT_ne (by omega)), ?_, g, i, j⟩
  · unfold LtOk
    rw [sT_ne (by omega), sT_ne (by omega)]
    exact c
  · rw [sT_ne (by omega)]
    exact d
  · rw [sT_eq]
    exact ⟨fun r hr' => (hr r hr').1, hl, fun q => absurd (q.symm.trans h1) (show ¬ (0 : Int32) = 1 by decide)⟩
theorem X_leave (T : Top) {B : Nat} (V : TV B T) (c g : Int32) : CO (f_X7_leave 0 c g) (O_leave T c g) B T := by
  unfold O_leave
  cases hc : inR c 0 5 with
  | false =>
    rw [if_pos (Or.inl rfl)]
    refine CO.same V (fun h R => ?_)
    unfold f_X7_leave
    rw [C_noC, b2_some, hc, if_neg bI_f]
  | true =>
    obtain ⟨n, hn, rfl⟩ := in5 hc
    rw [nI_clamp (by omega)]
    cases hg : inR g 0 3 with
    | false =>
      rw [if_pos (Or.inr rfl)]
      refine CO.same V (fun h R => ?_)
      unfold f_X7_leave
      rw [C_noC, b2_some, hc, if_pos bI_t, C_out, b2_some, hg, if_neg bI_f]
    | true =>
      rw [if_neg (by decide)]
      by_cases e : (T.1.2.2 n).1 0 = 1
      · rw [if_neg (fun q => q e)]
        have hcv := V.1.1.1 n hn
        have K := (W100.2.2.2.1 n hn).2.2
        have sb := hcv.2.2.2.2.2.1
        have empty0 : T.2.1.length = 0 → sbIx ((T.1.2.2 n).2 3) (g5 T.2.1) g = -4 := by
          intro z
          rcases fs_sb sb.2.1 (g5 T.2.1) g with ⟨-, q⟩ | ⟨j, hj, -, -, q⟩
          · exact q
          · exfalso
            unfold sP at q
            rw [Bool.and_eq_true] at q
            have y := sm4_iff.mp q.1 0 (by omega)
            rw [Nat.add_zero, g5_out (row := T.2.1) (by omega)] at y
            exact (sb.1 _ (gr_mem hj)).2.1 y
        have pre : ∀ h, RCo h T → f_X7_leave 0 (nI n) g h = if 0 ≤ fsIx ((T.1.2.2 n).2 3) (g5 T.2.1) g then b2 (f_X3_remove (100 + 6 + 15 * n + 1) (fsIx ((T.1.2.2 n).2 3) (g5 T.2.1) g) h) fun _ h10 => b2 (f_X6_forgetEmptyShares 100 h10) fun _ h11 => some ((h11 (100 + 6 + 15 * n + 1) 3), h11) else some ((-4 : Int32), h) := by
          intro h R
          unfold f_X7_leave
          rw [C_noC, b2_some, hc, if_pos bI_t, C_out, b2_some, hg, if_pos bI_t, yAw hn R e, b2_some, if_neg n10, x0_2, W100.1.1, wcl W100 hn, R.2.1, C_findSub K (R.1.2.2.2 n hn) sb.1 V.2.1.pv, b2_some, K.1.1]
        rcases fs_sb sb.2.1 (g5 T.2.1) g with ⟨e1, e2⟩ | ⟨j, hj, e1, e2, -⟩
        · rw [if_pos (Or.inr e2)]
          refine CO.same V (fun h R => ?_)
          rw [pre h R, e1, if_neg (by decide)]
        · have ne : ¬ (T.2.1.length = 0 ∨ sbIx ((T.1.2.2 n).2 3) (g5 T.2.1) g = -4) := by
            have q4 : ¬ sbIx ((T.1.2.2 n).2 3) (g5 T.2.1) g = -4 := by rw [e2]; exact nI_ne4 (by omega)
            exact fun q => q.elim (fun y => q4 (empty0 y)) q4
          rw [if_neg ne, e2, nI_clamp (by omega)]
          refine CO.world V (fun h R => ?_)
          have Rc := R.1.2.2.2 n hn
          rw [pre h R, e1, if_pos (nI_pos' (by omega))]
          refine wB (C_remove (i := j) K.2.1.1 Rc.2.1 (by rw [List.length_map]; exact hj)) (fun _ g1 P1 => ?_)
          have D := P1.1
          rw [er_map] at D
          have f1 := P1.2.k (i := 1) (by omega)
          have R1 := R.1.cl hn (Rc.sub D P1.2) f1
          have cv1 : CV B (sT (T.1.2.2 n) 3 (((T.1.2.2 n).2 3).eraseIdx j)) := hcv.subs e (fun r hr => ⟨sb.1 r ((er_sub j).subset hr), hcv.2.1 3 rfl r ((er_sub j).subset hr)⟩) (by rw [List.length_eraseIdx, if_pos hj]; omega)
          have S1 : SbW (sC T.1 n (sT (T.1.2.2 n) 3 (((T.1.2.2 n).2 3).eraseIdx j))) := V.1.1.sb.put cv1.2.2.2.2.2.1.1 cv1.2.2.2.2.2.1.2.2
          refine wB (C_forget W100 R1 S1 V.1.1.2.2.1) (fun _ g2 P2 => wR ⟨?_, P2.1, ?_, (f1.w hn).tr P2.2⟩)
          · have z := (P2.1.2.2.2 n hn).2.1.2.2.1
            rw [List.length_map] at z
            have ee : (A_fgt (sC T.1 n (sT (T.1.2.2 n) 3 (((T.1.2.2 n).2 3).eraseIdx j)))).2.2 n = sT (T.1.2.2 n) 3 (((T.1.2.2 n).2 3).eraseIdx j) := sC_eq T.1 n _
            rw [ee, sT_eq, List.length_eraseIdx, if_pos hj] at z
            exact z
          · exact V.1.up (V.1.1.fgt cv1) rfl (by omega)
      · rw [if_pos e]
        refine CO.same V (fun h R => ?_)
        unfold f_X7_leave
        rw [C_noC, b2_some, hc, if_pos bI_t, C_out, b2_some, hg, if_pos bI_t, nAw hn R e, b2_some, if_pos rfl]
