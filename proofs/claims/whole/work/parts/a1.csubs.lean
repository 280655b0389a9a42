/-! the class: subscribe -/
theorem SV.putK {B c : Nat} {st : St} {cl : Cl} (h : SV B st) (hc : CV B cl) (hr : ∀ r ∈ rws (st.2.2 c), ∃ r' ∈ rws cl, k5 (skey r') = k5 (skey r)) : SV B (sC st c cl) := by
  have hv := CVs.put (c := c) h.1 hc
  have am : ∀ (cls : Nat → Cl) (r : List Int32), r ∈ arw cls ↔ ∃ d, d < 6 ∧ r ∈ rws (cls d) := by
    intro cls r
    rw [arw_mem]
    constructor
    · intro ⟨d, h1, h2, h3⟩
      exact ⟨d, h1, by unfold rws; rw [if_neg h2]; exact h3⟩
    · intro ⟨d, h1, h2⟩
      unfold rws at h2
      split at h2
      · cases h2
      · rename_i q
        exact ⟨d, h1, q, h2⟩
  refine ⟨hv, ⟨h.2.1.1, fun d hd => ⟨(hv d hd).1, (hv d hd).2.2.2.2.2.1.2.1⟩, h.2.1.2.2.1, fun r hr' => ?_⟩, h.2.2.1, h.2.2.2⟩
  obtain ⟨x, hx, ex⟩ := List.mem_map.mp (h.2.1.2.2.2 r hr')
  obtain ⟨d, hd, xd⟩ := (am _ _).mp hx
  by_cases e : d = c
  · rw [e] at xd
    obtain ⟨y, hy, ey⟩ := hr x xd
    rw [← ex, ← ey]
    exact List.mem_map.mpr ⟨y, (am _ _).mpr ⟨c, by omega, by rw [sC_eq]; exact hy⟩, rfl⟩
  · rw [← ex]
    exact List.mem_map.mpr ⟨x, (am _ _).mpr ⟨d, hd, by rw [sC_ne e]; exact xd⟩, rfl⟩
theorem CV.kg {p : Int32} {f : List Int32} (hp : pOk p) : ∀ (rows : List (List Int32)) (B m : Nat) (cl : Cl), (∀ r ∈ rows, KpV r) → B + rows.length < 2 ^ 31 - 1 → CV B cl → CV (B + rows.length) (rows.foldl (A_kg1 p f) (m, cl)).2 ∧ (rows.foldl (A_kg1 p f) (m, cl)).2.1 0 = cl.1 0 ∧ (rows.foldl (A_kg1 p f) (m, cl)).2.2 3 = cl.2 3
  | [], _, _, _, _, _, h => ⟨h, rfl, rfl⟩
  | r :: rows, B, m, cl, hk, hB, h => by
    rw [List.foldl_cons]
    have hl : (r :: rows).length = rows.length + 1 := rfl
    rw [hl] at hB ⊢
    have hk' : ∀ r ∈ rows, KpV r := fun x hx => hk x (List.mem_cons_of_mem _ hx)
    by_cases q : mtr f (g5 r) = true
    · have e : A_kg1 p f (m, cl) r = (m + 1, A_goes cl (g5 r 6) (lsr p (g5 r 5)) (g5 r 4) 1) := by
        unfold A_kg1
        rw [if_pos q]
      rw [e]
      have z := CV.kg hp (f := f) rows (B + 1) (m + 1) _ hk' (by omega) (h.goes (by omega) (g5 r 6) (lsr p (g5 r 5)) (g5 r 4) 1 (lsr_ok hp (hk r List.mem_cons_self).2))
      refine ⟨z.1.mono (by omega), ?_, ?_⟩
      · rw [z.2.1]
        exact (A_goes_0 _ _ _ _ _).1
      · rw [z.2.2]
        exact (A_goes_0 _ _ _ _ _).2
    · have e : A_kg1 p f (m, cl) r = (m, cl) := by
        unfold A_kg1
        rw [if_neg q]
      rw [e]
      have z := CV.kg hp (f := f) rows B m cl hk' (by omega) h
      exact ⟨z.1.mono (by omega), z.2⟩
theorem C_subFin {h g : Mem} {T : Top} {B n i : Nat} {cl1 : Cl} (V : TV B T) (hB : B + 100 < 2 ^ 30) (hn : n < 6) (R : RCo h T) (Rk : RK g (100 + 6 + 15 * n) cl1) (fk : FrK (100 + 6 + 15 * n) h g) (cv : CV B cl1) (sv : SV B (sC T.1 n cl1)) (hf : PV 28 (g5 (gr (cl1.2 3) i))) (ef : pth (lvO (g5 (gr (cl1.2 3) i))) = pth (lvO (g5 T.2.1))) (p gg : Int32) (hp : pOk p) : Tr (if gg = 0 then b2 (f_X6_goKept 100 (100 + 6 + 15 * n) (g 0 5) p g) fun v13 h12 => some (v13, h12) else some ((0 : Int32), g)) (fun r h' => r = (if gg = 0 then nI (A_kgo (sC T.1 n cl1) n i p).1 else 0) ∧ RWd h' 100 (if gg = 0 then sC T.1 n (A_kgo (sC T.1 n cl1) n i p).2 else sC T.1 n cl1) ∧ SVc (B + 13000) (if gg = 0 then sC T.1 n (A_kgo (sC T.1 n cl1) n i p).2 else sC T.1 n cl1) ∧ FrW 100 h h') := by
  have R1 := R.1.cl hn Rk fk
  have g5' : g 0 5 = pth (lvO (g5 T.2.1)) := by rw [fk 0 (by omega)]; exact R.2.1
  by_cases e : gg = 0
  · rw [if_pos e, if_pos e, if_pos e, g5', ← ef]
    have z := C_goKept W100 hn R1 V.1.1.2.2.2 (by rw [sC_eq]; exact cv.2.2.1) hf p
    unfold A_kgo
    rw [sC_eq] at z ⊢
    have l12 : (T.1.2.1 6).length ≤ 12 := R.1.len6
    have kg := CV.kg hp (f := gr (cl1.2 3) i) (T.1.2.1 6) B 0 cl1 V.1.1.2.2.2 (by omega) cv
    have ek : (sC T.1 n cl1).2.1 6 = T.1.2.1 6 := rfl
    rw [ek] at z ⊢
    generalize (T.1.2.1 6).foldl (A_kg1 p (gr (cl1.2 3) i)) (0, cl1) = X at z kg ⊢
    refine wB z (fun r g2 P => wR ⟨P.1, ?_, ?_, (fk.w hn).tr P.2.2⟩)
    · have y := P.2.1
      rw [sC_sC] at y
      exact y
    · have y := (sv.mono (C := B + (T.1.2.1 6).length) (by omega)).put (c := n) kg.1 (by rw [sC_eq, kg.2.1]) (by rw [sC_eq, kg.2.2])
      rw [sC_sC] at y
      exact V.1.up y rfl (by omega)
  · rw [if_neg e, if_neg e, if_neg e]
    exact wR ⟨rfl, R1, V.1.up sv rfl (by omega), fk.w hn⟩
theorem skey_set4 (r : List Int32) (p : Int32) : k5 (skey (r.set 4 p)) = k5 (skey r) := by
  have g : ∀ j, j ≠ 4 → g5 (r.set 4 p) j = g5 r j := by
    intro j hj
    unfold g5
    rw [List.getD, List.getD, List.getElem?_set_ne (by omega)]
  rw [k5_eq]
  intro j hj
  unfold skey
  split
  · exact g 5 (by omega)
  · exact g _ (by omega)
theorem X_subscribe (T : Top) {B : Nat} (V : TV B T) (hB : B + 100 < 2 ^ 30) (c p g : Int32) : CO (f_X7_subscribe 0 c p g) (O_subscribe T c p g) B T := by
  unfold O_subscribe
  cases hc : inR c 0 5 with
  | false =>
    rw [if_pos (Or.inl rfl)]
    refine CO.same V (fun h R => ?_)
    unfold f_X7_subscribe
    rw [C_noC, b2_some, hc, if_neg bI_f]
  | true =>
    obtain ⟨n, hn, rfl⟩ := in5 hc
    rw [nI_clamp (by omega)]
    cases hp : inR p 0 2 with
    | false =>
      rw [if_pos (Or.inr (Or.inl rfl))]
      refine CO.same V (fun h R => ?_)
      unfold f_X7_subscribe
      rw [C_noC, b2_some, hc, if_pos bI_t, C_out, b2_some, hp, if_neg bI_f]
    | true =>
      cases hg : inR g 0 3 with
      | false =>
        rw [if_pos (Or.inr (Or.inr rfl))]
        refine CO.same V (fun h R => ?_)
        unfold f_X7_subscribe
        rw [C_noC, b2_some, hc, if_pos bI_t, C_out, b2_some, hp, if_pos bI_t, C_out, b2_some, hg, if_neg bI_f]
      | true =>
        rw [if_neg (by decide)]
        have hcv := V.1.1.1 n hn
        have K := (W100.2.2.2.1 n hn).2.2
        have sb := hcv.2.2.2.2.2.1
        have pv := V.2.1.pv
        have z0 := (pv.z0 (by omega)).1
        by_cases e : (T.1.2.2 n).1 0 = 1
        · by_cases l0 : T.2.1.length = 0
          · rw [if_pos (Or.inr l0)]
            refine CO.same V (fun h R => ?_)
            unfold f_X7_subscribe
            rw [C_noC, b2_some, hc, if_pos bI_t, C_out, b2_some, hp, if_pos bI_t, C_out, b2_some, hg, if_pos bI_t, yAw hn R e, b2_some, if_neg n10, R.2.1, if_pos (z0.mpr (g5_out (by omega)))]
          · rw [if_neg (fun q => q.elim (fun y => y e) l0)]
            have r0 : ¬ g5 T.2.1 0 = 0 := by
              obtain ⟨m, h1, h2, em⟩ := V.2.1.g (show 0 < T.2.1.length by omega)
              rw [em]
              intro z
              have z' : nI m = nI 0 := z
              have := (nI_eq (by omega) (by omega)).mp z'
              omega
            have pre : ∀ h, RCo h T → f_X7_subscribe 0 (nI n) p g h = b2 (f_X0_addSubscription (100 + 6 + 15 * n) (pth (lvO (g5 T.2.1))) p g h) fun v11 h10 => if v11 = 0 then some ((-3 : Int32), h10) else if g = 0 then b2 (f_X6_goKept 100 (100 + 6 + 15 * n) (h10 0 5) p h10) fun v13 h12 => some (v13, h12) else some ((0 : Int32), h10) := by
              intro h R
              unfold f_X7_subscribe
              rw [C_noC, b2_some, hc, if_pos bI_t, C_out, b2_some, hp, if_pos bI_t, C_out, b2_some, hg, if_pos bI_t, yAw hn R e, b2_some, if_neg n10, R.2.1, if_neg (fun y => r0 (z0.mp y)), x0_2, W100.1.1, wcl W100 hn]
            obtain ⟨gn, hgn, eg⟩ := inR_ex (b := 3) (by omega) hg
            rcases fs_sb sb.2.1 (g5 T.2.1) g with ⟨-, e2⟩ | ⟨j, hj, -, e2, hsp⟩
            · rw [if_pos e2]
              by_cases l6 : ((T.1.2.2 n).2 3).length = 6
              · rw [if_pos l6]
                refine CO.same V (fun h R => ?_)
                rw [pre h R, C_addSub2 K (R.1.2.2.2 n hn) sb.1 pv p g e2 (by omega), b2_some, if_pos rfl]
              · rw [if_neg l6]
                have lt6 : ((T.1.2.2 n).2 3).length < 6 := by
                  have := sb.2.1
                  omega
                have rv : SbV [g5 T.2.1 0, g5 T.2.1 1, g5 T.2.1 2, g5 T.2.1 3, p, g] := by
                  refine ⟨pv.cgr (fun j hj => ?_), r0, in2 hp, gn, by omega, eg⟩
                  rcases (show j = 0 ∨ j = 1 ∨ j = 2 ∨ j = 3 by omega) with rfl | rfl | rfl | rfl <;> rfl
                have cv1 : CV B (sT (T.1.2.2 n) 3 ((T.1.2.2 n).2 3 ++ [[g5 T.2.1 0, g5 T.2.1 1, g5 T.2.1 2, g5 T.2.1 3, p, g]])) := by
                  refine hcv.subs e (fun r hr => ?_) (by simp; omega)
                  rcases List.mem_append.mp hr with q | q
                  · exact ⟨sb.1 r q, hcv.2.1 3 rfl r q⟩
                  · rw [List.mem_singleton] at q
                    rw [q]
                    exact ⟨rv, rfl⟩
                have sv1 : SV B (sC T.1 n (sT (T.1.2.2 n) 3 ((T.1.2.2 n).2 3 ++ [[g5 T.2.1 0, g5 T.2.1 1, g5 T.2.1 2, g5 T.2.1 3, p, g]]))) := by
                  refine V.1.1.putK cv1 (fun r hr => ⟨r, ?_, rfl⟩)
                  unfold rws at hr ⊢
                  rw [if_neg (by rw [e]; decide)] at hr
                  rw [sT_1, if_neg (by rw [e]; decide), sT_eq]
                  exact List.mem_append_left _ hr
                have es4 : A_set4 (sT (T.1.2.2 n) 3 ((T.1.2.2 n).2 3 ++ [[g5 T.2.1 0, g5 T.2.1 1, g5 T.2.1 2, g5 T.2.1 3, p, g]])) ((T.1.2.2 n).2 3).length p = sT (T.1.2.2 n) 3 ((T.1.2.2 n).2 3 ++ [[g5 T.2.1 0, g5 T.2.1 1, g5 T.2.1 2, g5 T.2.1 3, p, g]]) := by
                  unfold A_set4
                  rw [sT_eq, gr_app_eq, sT_sT]
                  congr 1
                  rw [List.set_append_right _ _ (Nat.le_refl _), Nat.sub_self]
                  rfl
                intro h R
                rw [pre h R]
                have Rc := R.1.2.2.2 n hn
                unfold A_sub
                rw [sC_eq, es4, sC_sC]
                have gq : gr ((sT (T.1.2.2 n) 3 ((T.1.2.2 n).2 3 ++ [[g5 T.2.1 0, g5 T.2.1 1, g5 T.2.1 2, g5 T.2.1 3, p, g]])).2 3) ((T.1.2.2 n).2 3).length = [g5 T.2.1 0, g5 T.2.1 1, g5 T.2.1 2, g5 T.2.1 3, p, g] := by
                  rw [sT_eq, gr_app_eq]
                have fin : ∀ gm, RK gm (100 + 6 + 15 * n) _ → FrK (100 + 6 + 15 * n) h gm → _ := fun gm a b => C_subFin (i := ((T.1.2.2 n).2 3).length) V hB hn R a b cv1 sv1 (by rw [gq]; exact rv.1) (by
                  rw [gq]
                  refine pth_c (fun j hj => ?_)
                  unfold lvO
                  rw [if_pos hj, if_pos hj]
                  rcases (show j = 0 ∨ j = 1 ∨ j = 2 ∨ j = 3 by omega) with rfl | rfl | rfl | rfl <;> rfl) p g (in2 hp)
                refine wB (C_addSub1 K Rc sb.1 pv p g e2 lt6) (fun r gm P => ?_)
                rw [P.1, if_neg n10]
                refine wM (fin gm P.2.1 P.2.2) (fun r' g3 Q => ?_)
                by_cases g0 : g = 0
                · rw [if_pos g0] at Q
                  rw [if_pos g0, if_pos g0, sC_sC]
                  rw [if_pos g0] at Q
                  exact ⟨Q.1, R.wd Q.2.1 Q.2.2.2, ⟨Q.2.2.1, V.2.1, V.2.2.1, (V.mono (C := B + 13000) (by omega)).2.2.2⟩, fun a ha => Q.2.2.2 a (by omega)⟩
                · rw [if_neg g0] at Q
                  rw [if_neg g0, if_neg g0]
                  rw [if_neg g0] at Q
                  exact ⟨Q.1, R.wd Q.2.1 Q.2.2.2, ⟨Q.2.2.1, V.2.1, V.2.2.1, (V.mono (C := B + 13000) (by omega)).2.2.2⟩, fun a ha => Q.2.2.2 a (by omega)⟩
            · have ne4 : ¬ sbIx ((T.1.2.2 n).2 3) (g5 T.2.1) g = -4 := by rw [e2]; exact nI_ne4 (by omega)
              rw [if_neg ne4, e2, nI_clamp (by omega)]
              have l6r := hcv.2.1.row (t := 3) rfl hj
              have rj := sb.1 _ (gr_mem hj)
              have g4 : ∀ j', j' ≠ 4 → g5 ((gr ((T.1.2.2 n).2 3) j).set 4 p) j' = g5 (gr ((T.1.2.2 n).2 3) j) j' := by
                intro j' hj'
                unfold g5
                rw [List.getD, List.getD, List.getElem?_set_ne (by omega)]
              have rv : SbV ((gr ((T.1.2.2 n).2 3) j).set 4 p) := by
                refine ⟨rj.1.cgr (fun x hx => g4 x (by omega)), by rw [g4 0 (by omega)]; exact rj.2.1, ?_, by rw [g4 5 (by omega)]; exact rj.2.2.2⟩
                have : g5 ((gr ((T.1.2.2 n).2 3) j).set 4 p) 4 = p := by
                  generalize gr ((T.1.2.2 n).2 3) j = r at l6r
                  match r, l6r with
                  | [a, b, c, d, e, f], _ => rfl
                rw [this]
                exact in2 hp
              have cv1 : CV B (A_set4 (T.1.2.2 n) j p) := by
                refine hcv.subs e (fun r hr => ?_) (by rw [List.length_set]; exact sb.2.1)
                rcases List.mem_or_eq_of_mem_set hr with q | q
                · exact ⟨sb.1 r q, hcv.2.1 3 rfl r q⟩
                · rw [q]
                  exact ⟨rv, by rw [List.length_set]; exact l6r⟩
              have sv1 : SV B (sC T.1 n (A_set4 (T.1.2.2 n) j p)) := by
                refine V.1.1.putK cv1 (fun r hr => ?_)
                unfold rws at hr ⊢
                rw [if_neg (by rw [e]; decide)] at hr
                unfold A_set4
                rw [sT_1, if_neg (by rw [e]; decide), sT_eq]
                obtain ⟨x, hx, ex⟩ := List.getElem_of_mem hr
                by_cases q : x = j
                · refine ⟨(gr ((T.1.2.2 n).2 3) j).set 4 p, List.mem_set hj _, ?_⟩
                  rw [skey_set4]
                  have : gr ((T.1.2.2 n).2 3) j = r := by
                    subst q
                    simp [gr, List.getD, hx, ex]
                  rw [this]
                · refine ⟨r, ?_, rfl⟩
                  have : (((T.1.2.2 n).2 3).set j ((gr ((T.1.2.2 n).2 3) j).set 4 p))[x]'(by rw [List.length_set]; exact hx) = r := by
                    rw [List.getElem_set_ne (fun y => q y.symm)]
                    exact ex
                  rw [← this]
                  exact List.getElem_mem _
              have gq : gr ((A_set4 (T.1.2.2 n) j p).2 3) j = (gr ((T.1.2.2 n).2 3) j).set 4 p := by
                unfold A_set4
                rw [sT_eq]
                simp [gr, List.getD, hj]
              unfold sP at hsp
              rw [Bool.and_eq_true] at hsp
              have sm := sm4_iff.mp hsp.1
              intro h R
              rw [pre h R]
              have Rc := R.1.2.2.2 n hn
              unfold A_sub
              have fin : ∀ gm, RK gm (100 + 6 + 15 * n) _ → FrK (100 + 6 + 15 * n) h gm → _ := fun gm a b => C_subFin (i := j) V hB hn R a b cv1 sv1 (by rw [gq]; exact rv.1) (by
                rw [gq]
                refine pth_c (fun x hx => ?_)
                unfold lvO
                rw [if_pos hx, if_pos hx, g4 x (by omega)]
                have := sm x hx
                rw [Nat.zero_add] at this
                rw [this]) p g (in2 hp)
              refine wB (C_addSub3 K Rc hcv.2.1 sb.1 pv p g e2 hj) (fun r gm P => ?_)
              rw [P.1, if_neg n10]
              refine wM (fin gm P.2.1 P.2.2) (fun r' g3 Q => ?_)
              by_cases g0 : g = 0
              · rw [if_pos g0] at Q
                rw [if_pos g0, if_pos g0]
                rw [if_pos g0] at Q
                exact ⟨Q.1, R.wd Q.2.1 Q.2.2.2, ⟨Q.2.2.1, V.2.1, V.2.2.1, (V.mono (C := B + 13000) (by omega)).2.2.2⟩, fun a ha => Q.2.2.2 a (by omega)⟩
              · rw [if_neg g0] at Q
                rw [if_neg g0, if_neg g0]
                rw [if_neg g0] at Q
                exact ⟨Q.1, R.wd Q.2.1 Q.2.2.2, ⟨Q.2.2.1, V.2.1, V.2.2.1, (V.mono (C := B + 13000) (by omega)).2.2.2⟩, fun a ha => Q.2.2.2 a (by omega)⟩
        · rw [if_pos (Or.inl e)]
          refine CO.same V (fun h R => ?_)
          unfold f_X7_subscribe
          rw [C_noC, b2_some, hc, if_pos bI_t, C_out, b2_some, hp, if_pos bI_t, C_out, b2_some, hg, if_pos bI_t, nAw hn R e, b2_some, if_pos rfl]
