/-! the reference: subscribe -/
theorem M_subComes {P a c : Nat} {cl : Cl} {h : Mem} (hc : c < 6) (hP : xln P = 6074) (ha : 4 ≤ xln a) (hPa : a ≠ P) (R : RB (bk (h P) c) cl) (hl : (cl.2 3).length < 6) (v g : Int32) : Tr (f_X8_subComes P (nI c) a v g h) (fun _ h' => (∀ b, b ≠ P → h' b = h b) ∧ RB (bk (h' P) c) (sT cl 3 (cl.2 3 ++ [[h a 0, h a 1, h a 2, h a 3, v, g]])) ∧ ∀ x, x < 308 + 961 * c ∨ 308 + 961 * c + 961 ≤ x → h' P x = h P x) := by
  obtain ⟨q1, q2, q3⟩ := R.2 3 rfl
  generalize hn : (cl.2 3).length = n at q1 hl
  have q1' : h P (308 + 961 * c + 3) = nI n := q1
  unfold f_X8_subComes
  obtain ⟨z, hz⟩ := xFUs
  rw [hz]
  simp (disch := omega) only [li_3, li_0, M_at, b2_some, ald_nI, q1', nI_mul, nI_add]
  unfold f_X8_subComes_12
  simp (disch := omega) only [li_4, li_1, li_45, li_6, nI_leI, if_neg, nI_mul, nI_add, M_at, b2_some, ald_nI, ast_nI]
  unfold f_X8_subComes_12
  simp (disch := omega) only [li_4, li_1, li_45, li_6, nI_leI, if_neg, nI_mul, nI_add, M_at, b2_some, ald_nI, ast_nI, mu_rdk, Nat.zero_add]
  unfold f_X8_subComes_12
  simp (disch := omega) only [li_4, li_1, li_45, li_6, nI_leI, if_neg, nI_mul, nI_add, M_at, b2_some, ald_nI, ast_nI, mu_rdk, Nat.reduceAdd]
  unfold f_X8_subComes_12
  simp (disch := omega) only [li_4, li_1, li_45, li_6, nI_leI, if_neg, nI_mul, nI_add, M_at, b2_some, ald_nI, ast_nI, mu_rdk, Nat.reduceAdd]
  unfold f_X8_subComes_12
  simp (disch := omega) only [li_4, li_1, li_45, li_6, li_5, li_3, nI_leI, if_pos, nI_mul, nI_add, M_at, b2_some, ald_nI, ast_nI, mu_rdk, Nat.reduceAdd, mu_rdn, q1']
  refine wR ⟨?_, R.tab (t := 3) rfl ?_ ((R.2 3 rfl).app (by rw [tc_3]; omega) ?_ ?_ ?_), ?_⟩
  · intro b hb
    simp (disch := omega) only [mu_ne]
  · simp only [tb_3, tw_3, tc_3, bk]
    intro k hk h1 h2
    simp (disch := omega) only [mu_rdn]
  · simp (disch := omega) only [bk, mu_rde, mu_rdn, hn]
  · rw [tb_3, tw_3, hn]
    exact lt6 (by simp (disch := omega) only [bk, mu_rde, mu_rdn]; rfl) (by simp (disch := omega) only [bk, mu_rde, mu_rdn]; rfl) (by simp (disch := omega) only [bk, mu_rde, mu_rdn]; rfl) (by simp (disch := omega) only [bk, mu_rde, mu_rdn]; rfl) (by simp (disch := omega) only [bk, mu_rde, mu_rdn]; rfl) (by simp (disch := omega) only [bk, mu_rde, mu_rdn]; rfl)
  · simp only [tb_3, tw_3, hn, bk]
    intro k h1 h2
    simp (disch := omega) only [mu_rdn]
  · intro x hx
    simp (disch := omega) only [mu_rdn]
def A_kg1 (p : Int32) (f : List Int32) (s : Nat × Cl) (r : List Int32) : Nat × Cl := if mtr f (g5 r) = true then (s.1 + 1, A_goes s.2 (g5 r 6) (lsr p (g5 r 5)) (g5 r 4) 1) else s
theorem A_kg1_3 (p : Int32) (f : List Int32) (s : Nat × Cl) (r : List Int32) : (A_kg1 p f s r).2.2 3 = s.2.2 3 := by
  unfold A_kg1
  split
  · exact (A_goes_0 _ _ _ _ _).2
  · rfl
theorem M_kg6 {c i : Nat} (hc : c < 6) (p : Int32) {kt : List (List Int32)} {f : List Int32} : ∀ (d k n m : Nat) (st : St) (h : Mem), k + d = kt.length → d < n → RM (h 391) st → st.2.1 6 = kt → i < ((st.2.2 c).2 3).length → gr ((st.2.2 c).2 3) i = f → Tr (f_X8_keptGoTo_6 n 390 (nI c) p (nI i) (nI m) (nI k) h) (fun r h' => r = nI ((kt.drop k).foldl (A_kg1 p f) (m, st.2.2 c)).1 ∧ RM (h' 391) (sC st c ((kt.drop k).foldl (A_kg1 p f) (m, st.2.2 c)).2) ∧ ∀ a, a ≠ 391 → a ≠ 403 → h' a = h a) := by
  intro d
  induction d with
  | zero =>
    intro k n m st h h1 h2 R hk hi hf
    obtain ⟨n, rfl⟩ : ∃ z, n = z + 1 := ⟨n - 1, by omega⟩
    have K := R.2.2.1
    rw [hk] at K
    obtain ⟨q1, q2, q3⟩ := K
    unfold f_X8_keptGoTo_6
    simp (disch := omega) only [li_6, xr_0, al_391, q1, nI_leI, if_pos]
    rw [List.drop_eq_nil_of_le (by omega)]
    simp only [List.foldl_nil]
    rw [sC_self]
    exact wR ⟨rfl, R, fun _ _ _ => rfl⟩
  | succ d ih =>
    intro k n m st h h1 h2 R hk hi hf
    obtain ⟨n, rfl⟩ : ∃ z, n = z + 1 := ⟨n - 1, by omega⟩
    have K := R.2.2.1
    rw [hk] at K
    obtain ⟨q1, q2, q3⟩ := K
    have Rc := R.2.2.2.2 c hc
    have l3 := (Rc.2 3 rfl).2.1
    rw [tc_3] at l3
    have hkl : k < kt.length := by omega
    have r0 := q3 k 0 hkl (by omega)
    have r1 := q3 k 1 hkl (by omega)
    have r2 := q3 k 2 hkl (by omega)
    have r3 := q3 k 3 hkl (by omega)
    have r4 := q3 k 4 hkl (by omega)
    have r5 := q3 k 5 hkl (by omega)
    have r6 := q3 k 6 hkl (by omega)
    unfold f_X8_keptGoTo_6
    obtain ⟨z, hz⟩ := xFUs
    rw [hz]
    simp (disch := omega) only [li_6, li_8, li_7, li_0, xr_0, al_391, q1, nI_leI, if_neg, nI_mul, nI_add]
    unfold f_X8_keptGoTo_31
    simp (disch := omega) only [li_4, li_1, xr_0, xr_21, nI_leI, if_neg, nI_add, al_391, as_403, r0]
    unfold f_X8_keptGoTo_31
    simp (disch := omega) only [li_4, li_1, xr_0, xr_21, nI_leI, if_neg, nI_add, al_391, as_403, mu_rdk, Nat.zero_add, r1]
    unfold f_X8_keptGoTo_31
    simp (disch := omega) only [li_4, li_1, xr_0, xr_21, nI_leI, if_neg, nI_add, al_391, as_403, mu_rdk, Nat.reduceAdd, r2]
    unfold f_X8_keptGoTo_31
    simp (disch := omega) only [li_4, li_1, xr_0, xr_21, nI_leI, if_neg, nI_add, al_391, as_403, mu_rdk, Nat.reduceAdd, r3]
    unfold f_X8_keptGoTo_31
    rw [mu4]
    have R2 : RM (set4 h 403 (g5 (gr kt k)) 391) st := by rw [set4_ne (by omega)]; exact R
    have f2 : ∀ b, b ≠ 403 → set4 h 403 (g5 (gr kt k)) b = h b := fun b q => set4_ne q
    have t2 : ∀ j, j < 4 → set4 h 403 (g5 (gr kt k)) 403 j = g5 (gr kt k) j := fun j hj => set4_in hj
    generalize set4 h 403 (g5 (gr kt k)) = h2 at R2 f2 t2 ⊢
    have e391 : h2 391 = h 391 := f2 391 (by omega)
    have Rc2 := R2.2.2.2.2 c hc
    have mt : f_X8_isMatching 390 (nI (308 + 961 * c + (45 + 6 * i))) 403 h2 = some (bI (mtr f (g5 (gr kt k))), h2) := by
      rw [M_isMatching (by omega) (by rw [xl_403]; omega) (by rw [xl_403]; omega), mtc_row Rc2 hi, hf, mtr_congr t2]
    simp (disch := omega) only [li_4, li_45, li_6, li_5, li_1, xr_0, xr_21, nI_leI, if_pos, nI_mul, nI_add, M_at, b2_some, mt, bI_0, M_lesser, al_391, e391, r4, r5, r6]
    rw [drop_gr _ k hkl, List.foldl_cons]
    unfold f_X8_keptGoTo_123
    cases em : mtr f (g5 (gr kt k))
    · have e0 : A_kg1 p f (m, st.2.2 c) (gr kt k) = (m, st.2.2 c) := by
        unfold A_kg1
        rw [if_neg (by rw [em]; decide)]
      rw [if_pos rfl, e0, li_1, nI_add]
      exact wM (ih (k + 1) n m st h2 (by omega) (by omega) R2 hk hi hf) (fun r g P => ⟨P.1, P.2.1, fun a b1 b2 => by rw [P.2.2 a b1 b2, f2 a b2]⟩)
    · have e0 : A_kg1 p f (m, st.2.2 c) (gr kt k) = (m + 1, A_goes (st.2.2 c) (g5 (gr kt k) 6) (lsr p (g5 (gr kt k) 5)) (g5 (gr kt k) 4) 1) := by
        unfold A_kg1
        rw [if_pos em]
      rw [if_neg (by decide), e0, ← li_1]
      refine wB (M_goes hc Rc2 _ _ _ _) (fun _ g1 P1 => ?_)
      have R3 := R2.cl hc P1
      have e3 : (sC st c (A_goes (st.2.2 c) (g5 (gr kt k) 6) (lsr p (g5 (gr kt k) 5)) (g5 (gr kt k) 4) 1)).2.2 c = A_goes (st.2.2 c) (g5 (gr kt k) 6) (lsr p (g5 (gr kt k) 5)) (g5 (gr kt k) 4) 1 := ud_eq
      rw [show nI k + 1 = nI (k + 1) by rw [li_1, nI_add]]
      have z := ih (k + 1) n (m + 1) _ g1 (by omega) (by omega) R3 hk (by rw [e3, (A_goes_0 _ _ _ _ _).2]; exact hi) (by rw [e3, (A_goes_0 _ _ _ _ _).2]; exact hf)
      rw [e3, sC_sC] at z
      exact wM z (fun r g P => ⟨P.1, P.2.1, fun a b1 b2 => by rw [P.2.2 a b1 b2, P1.2.1 a b1, f2 a b2]⟩)
def A_kgo (st : St) (c i : Nat) (p : Int32) : Nat × Cl := (st.2.1 6).foldl (A_kg1 p (gr ((st.2.2 c).2 3) i)) (0, st.2.2 c)
def A_set4 (cl : Cl) (i : Nat) (p : Int32) : Cl := sT cl 3 ((cl.2 3).set i ((gr (cl.2 3) i).set 4 p))
theorem M_sub116 {c i : Nat} {h : Mem} {st : St} (hc : c < 6) (R : RM (h 391) st) (hi : i < ((st.2.2 c).2 3).length) (hw : (gr ((st.2.2 c).2 3) i).length = 6) (p g : Int32) : Tr (f_X8_subscribe_116 390 (nI c) p g (nI i) h) (fun r h' => r = (if g = 0 then nI (A_kgo (sC st c (A_set4 (st.2.2 c) i p)) c i p).1 else 0) ∧ RM (h' 391) (if g = 0 then sC st c (A_kgo (sC st c (A_set4 (st.2.2 c) i p)) c i p).2 else sC st c (A_set4 (st.2.2 c) i p)) ∧ ∀ a, a ≠ 391 → a ≠ 403 → h' a = h a) := by
  have Rc := R.2.2.2.2 c hc
  have l3 := (Rc.2 3 rfl).2.1
  rw [tc_3] at l3
  unfold f_X8_subscribe_116
  simp (disch := omega) only [li_45, li_6, li_4, nI_mul, nI_add, M_at, b2_some, xr_0, as_391]
  have P : MP c h (st.2.2 c) (mu h 391 (308 + 961 * c + (45 + 6 * i + 4)) p) (A_set4 (st.2.2 c) i p) := by
    refine ⟨Rc.tab (t := 3) rfl ?_ ((Rc.2 3 rfl).set (i0 := i) (j0 := 4) hi (by omega) ?_ ?_ (by rw [hw, tw_3]) ?_), bE.g ⟨fun a ha => mu_ne ha, fun x hx => mu_rdn (by omega)⟩ rfl rfl rfl rfl⟩
    · simp only [tb_3, tw_3, tc_3, bk]
      intro k hk h1 h2
      rw [mu_rdn (by omega)]
    · simp only [bk]
      rw [mu_rdn (by omega)]
    · simp only [bk, tb_3, tw_3]
      rw [mu_rde (by omega)]
    · simp only [tb_3, tw_3, tc_3, bk]
      intro k h1 h2 h3
      rw [mu_rdn (by omega)]
  have R1 := R.cl hc P
  have f1 := P.2.1
  generalize mu h 391 (308 + 961 * c + (45 + 6 * i + 4)) p = h1 at R1 f1 ⊢
  have e1 : (sC st c (A_set4 (st.2.2 c) i p)).2.2 c = A_set4 (st.2.2 c) i p := ud_eq
  by_cases eg : g = 0
  · rw [if_pos eg, if_pos eg, if_pos eg]
    unfold f_X8_keptGoTo
    have K := R1.2.2.1.2.1
    have z := M_kg6 (i := i) (kt := st.2.1 6) (f := gr ((A_set4 (st.2.2 c) i p).2 3) i) hc p (st.2.1 6).length 0 xFU 0 _ h1 (by omega) (by unfold xFU; have : (sC st c (A_set4 (st.2.2 c) i p)).2.1 6 = st.2.1 6 := rfl; rw [this] at K; omega) R1 rfl (by rw [e1]; unfold A_set4; rw [sT_eq, List.length_set]; exact hi) (by rw [e1])
    rw [li_0]
    refine wB z (fun r g P => wR ?_)
    rw [List.drop_zero, e1, sC_sC] at P
    unfold A_kgo
    rw [e1]
    exact ⟨P.1, P.2.1, fun a b1 b2 => by rw [P.2.2 a b1 b2, f1 a b1]⟩
  · rw [if_neg eg, if_neg eg, if_neg eg]
    exact wR ⟨rfl, R1, fun a b1 _ => f1 a b1⟩
def A_sub (T : Top) (st : St) (c i : Nat) (p g : Int32) : Int32 × Top :=
  (if g = 0 then nI (A_kgo (sC st c (A_set4 (st.2.2 c) i p)) c i p).1 else 0, if g = 0 then sC st c (A_kgo (sC st c (A_set4 (st.2.2 c) i p)) c i p).2 else sC st c (A_set4 (st.2.2 c) i p), T.2)
def O_subscribe (T : Top) (c p g : Int32) : Int32 × Top :=
  if inR c 0 5 = false ∨ inR p 0 2 = false ∨ inR g 0 3 = false then (-1, T)
  else if ¬ (T.1.2.2 c.toNatClampNeg).1 0 = 1 ∨ T.2.1.length = 0 then (-2, T)
  else if sbIx ((T.1.2.2 c.toNatClampNeg).2 3) (g5 T.2.1) g = -4 then
    (if ((T.1.2.2 c.toNatClampNeg).2 3).length = 6 then (-3, T)
    else A_sub T (sC T.1 c.toNatClampNeg (sT (T.1.2.2 c.toNatClampNeg) 3 ((T.1.2.2 c.toNatClampNeg).2 3 ++ [[g5 T.2.1 0, g5 T.2.1 1, g5 T.2.1 2, g5 T.2.1 3, p, g]]))) c.toNatClampNeg ((T.1.2.2 c.toNatClampNeg).2 3).length p g)
  else A_sub T T.1 c.toNatClampNeg (sbIx ((T.1.2.2 c.toNatClampNeg).2 3) (g5 T.2.1) g).toNatClampNeg p g
theorem M_subscribe (T : Top) (w : ∀ c, c < 6 → Wd (T.1.2.2 c)) (c p g : Int32) : MO (f_X8_subscribe 390 c p g) (fun T => O_subscribe T c p g) T := by
  intro h R
  unfold f_X8_subscribe O_subscribe
  have same : ∀ r : Int32, Tr (some (r, h)) (fun r' h' => r' = r ∧ RMo h' T ∧ ∀ a, a < 390 → h' a = h a) := fun r => wR ⟨rfl, R, fun _ _ => rfl⟩
  rw [M_isClient, b2_some, lo_0, lo_2, lo_3]
  simp only [M_in, bI_0, b2_some]
  cases e1 : inR c 0 5
  · rw [if_pos rfl, if_pos (by simp)]
    exact same _
  cases e2 : inR p 0 2
  · rw [if_neg (by decide), if_pos rfl, if_pos (by simp)]
    exact same _
  cases e3 : inR g 0 3
  · rw [if_neg (by decide), if_neg (by decide), if_pos rfl, if_pos (by simp)]
    exact same _
  rw [if_neg (by decide), if_neg (by decide), if_neg (by decide), if_neg (by simp)]
  obtain ⟨n, hn, rfl⟩ := inR_ex (b := 5) (by omega) e1
  rw [nI_clamp (show n < 2 ^ 31 by omega)]
  have hc : n < 6 := by omega
  have Rc := R.1.2.2.2.2 n hc
  have q1 : h 391 (308 + 961 * n + 3) = nI ((T.1.2.2 n).2 3).length := (Rc.2 3 rfl).1
  have q2 := (Rc.2 3 rfl).2.1
  rw [tc_3] at q2
  rw [M_awake hc Rc, b2_some]
  by_cases ea : (T.1.2.2 n).1 0 = 1
  · rw [if_pos ea, if_neg (show ¬ (1 : Int32) = 0 by decide), R.2.1.1]
    simp only [nI_len0 R.2.1.2.1]
    by_cases el : T.2.1.length = 0
    · rw [if_pos el, if_pos (Or.inr el)]
      exact same _
    · have hr := R.2.1.2.2 (by omega)
      rw [if_neg el, if_neg (by
        rintro (z | z)
        · exact z ea
        · exact el z), xr_0, xr_4, M_subOf hc xl_391 (by rw [xl_395]; omega) Rc, b2_some, sbIx_congr hr]
      rcases sIx_spec (-4) (sP ((T.1.2.2 n).2 3) (g5 T.2.1) g) ((T.1.2.2 n).2 3).length 0 with ⟨e3, -⟩ | ⟨j, hj0, hj, e3, -, -⟩
      · have e4 : sbIx ((T.1.2.2 n).2 3) (g5 T.2.1) g = -4 := e3
        rw [e4, if_pos rfl, if_pos rfl, li_3, M_of hc (by omega), b2_some, q1, li_6]
        simp only [nI_eq (show ((T.1.2.2 n).2 3).length < 2 ^ 31 by omega) (show 6 < 2 ^ 31 by omega)]
        by_cases e6 : ((T.1.2.2 n).2 3).length = 6
        · rw [if_pos e6, if_pos e6]
          exact same _
        · rw [if_neg e6, if_neg e6]
          unfold f_X8_subscribe_87
          rw [if_pos rfl, li_3, M_of hc (by omega), b2_some, q1, xr_0, xr_4]
          refine wB (M_subComes hc xl_391 (by rw [xl_395]; omega) (by omega) Rc (by omega) p g) (fun _ g1 P => ?_)
          rw [hr 0 (by omega), hr 1 (by omega), hr 2 (by omega), hr 3 (by omega)] at P
          have R1 := R.1.cl hc (show MP n h (T.1.2.2 n) g1 _ from ⟨P.2.1, bE.g ⟨P.1, P.2.2⟩ rfl rfl rfl rfl⟩)
          have ec : (sC T.1 n (sT (T.1.2.2 n) 3 ((T.1.2.2 n).2 3 ++ [[g5 T.2.1 0, g5 T.2.1 1, g5 T.2.1 2, g5 T.2.1 3, p, g]]))).2.2 n = sT (T.1.2.2 n) 3 ((T.1.2.2 n).2 3 ++ [[g5 T.2.1 0, g5 T.2.1 1, g5 T.2.1 2, g5 T.2.1 3, p, g]]) := ud_eq
          have z := M_sub116 (i := ((T.1.2.2 n).2 3).length) hc R1 (by rw [ec, sT_eq]; simp) (by rw [ec, sT_eq]; simp [gr, List.getD]) p g
          refine wM z (fun r g2 Q => ?_)
          unfold A_sub
          exact ⟨Q.1, R.st Q.2.1 (fun a b1 b2 => by rw [Q.2.2 a b1 (by omega), P.1 a b1]), fun a ha => by rw [Q.2.2 a (by omega) (by omega), P.1 a (by omega)]⟩
      · have e4 : sbIx ((T.1.2.2 n).2 3) (g5 T.2.1) g = nI j := e3
        rw [e4, if_neg (nI_ne4 (by omega)), if_neg (nI_ne4 (by omega)), nI_clamp (by omega)]
        unfold f_X8_subscribe_87
        rw [if_neg (nI_ne4 (by omega))]
        refine wM (M_sub116 hc R.1 (by omega) ((w n hc).row (t := 3) rfl (by omega)) p g) (fun r g2 Q => ?_)
        unfold A_sub
        exact ⟨Q.1, R.st Q.2.1 (fun a b1 b2 => by rw [Q.2.2 a b1 (by omega)]), fun a ha => by rw [Q.2.2 a (by omega) (by omega)]⟩
  · rw [if_neg ea, if_pos rfl, if_pos (Or.inl ea)]
    exact same _
