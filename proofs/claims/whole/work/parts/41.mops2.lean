/-! the reference: will, alias, leave -/
def A_will (cl : Cl) (t : Nat → Int32) (v p kp d : Int32) : Cl := sS (sS (sS (sS (sS (sS (sS (sS (sS cl 12 1) 13 (t 0)) 14 (t 1)) 15 (t 2)) 16 (t 3)) 17 v) 18 p) 19 kp) 20 d
def O_will (T : Top) (c v p kp d : Int32) : Int32 × Top :=
  if inR c 0 5 = false ∨ inR v 0 99 = false ∨ inR p 0 2 = false ∨ inR kp 0 1 = false ∨ inR d 0 50 = false then (-1, T)
  else if ¬ (T.1.2.2 c.toNatClampNeg).1 0 = 1 ∨ isTp T.2.1 = false then (-2, T)
  else ((T.1.2.2 c.toNatClampNeg).1 12, sC T.1 c.toNatClampNeg (A_will (T.1.2.2 c.toNatClampNeg) (g5 T.2.1) v p kp d), T.2)
theorem M_will103 {c : Nat} {h : Mem} {cl : Cl} {t : Nat → Int32} (hc : c < 6) (R : RB (bk (h 391) c) cl) (ht : ∀ j, j < 4 → h 395 j = t j) (v p kp d g : Int32) : Tr (f_X8_will_103 xFU 390 v p kp d g (nI (308 + 961 * c + 12)) (nI 0) (mu h 391 (308 + 961 * c + 12) 1)) (fun r h' => r = g ∧ MP c h cl h' (A_will cl t v p kp d)) := by
  have P0 := MP.sc (k := 12) hc R (by omega) rfl (by omega) 1
  have P1 := P0.tr (MP.sc (k := 13) hc P0.1 (by omega) rfl (by omega) (t 0))
  have P2 := P1.tr (MP.sc (k := 14) hc P1.1 (by omega) rfl (by omega) (t 1))
  have P3 := P2.tr (MP.sc (k := 15) hc P2.1 (by omega) rfl (by omega) (t 2))
  have P4 := P3.tr (MP.sc (k := 16) hc P3.1 (by omega) rfl (by omega) (t 3))
  have P5 := P4.tr (MP.sc (k := 17) hc P4.1 (by omega) rfl (by omega) v)
  have P6 := P5.tr (MP.sc (k := 18) hc P5.1 (by omega) rfl (by omega) p)
  have P7 := P6.tr (MP.sc (k := 19) hc P6.1 (by omega) rfl (by omega) kp)
  have P8 := P7.tr (MP.sc (k := 20) hc P7.1 (by omega) rfl (by omega) d)
  obtain ⟨z, hz⟩ := xFUs
  have t0 := ht 0 (by omega)
  have t1 := ht 1 (by omega)
  have t2 := ht 2 (by omega)
  have t3 := ht 3 (by omega)
  have w0 : 308 + 961 * c + 12 + 1 + 0 = 308 + 961 * c + 13 := by omega
  have w1 : 308 + 961 * c + 12 + 1 + 1 = 308 + 961 * c + 14 := by omega
  have w2 : 308 + 961 * c + 12 + 1 + 2 = 308 + 961 * c + 15 := by omega
  have w3 : 308 + 961 * c + 12 + 1 + 3 = 308 + 961 * c + 16 := by omega
  have w5 : 308 + 961 * c + 12 + 5 = 308 + 961 * c + 17 := by omega
  have w6 : 308 + 961 * c + 12 + 6 = 308 + 961 * c + 18 := by omega
  have w7 : 308 + 961 * c + 12 + 7 = 308 + 961 * c + 19 := by omega
  have w8 : 308 + 961 * c + 12 + 8 = 308 + 961 * c + 20 := by omega
  rw [hz]
  unfold f_X8_will_103
  simp (disch := omega) only [li_4, li_1, xr_0, xr_4, nI_leI, if_neg, nI_add, al_395, as_391, mu_rdk, Nat.reduceAdd, w0, t0]
  unfold f_X8_will_103
  simp (disch := omega) only [li_4, li_1, xr_0, xr_4, nI_leI, if_neg, nI_add, al_395, as_391, mu_rdk, Nat.reduceAdd, w1, t1]
  unfold f_X8_will_103
  simp (disch := omega) only [li_4, li_1, xr_0, xr_4, nI_leI, if_neg, nI_add, al_395, as_391, mu_rdk, Nat.reduceAdd, w2, t2]
  unfold f_X8_will_103
  simp (disch := omega) only [li_4, li_1, xr_0, xr_4, nI_leI, if_neg, nI_add, al_395, as_391, mu_rdk, Nat.reduceAdd, w3, t3]
  unfold f_X8_will_103
  simp (disch := omega) only [li_4, li_5, li_6, li_7, li_8, xr_0, nI_leI, if_pos, nI_add, as_391, w5, w6, w7, w8]
  exact wR ⟨rfl, P8⟩
theorem M_will (T : Top) (c v p kp d : Int32) : MO (f_X8_will 390 c v p kp d) (fun T => O_will T c v p kp d) T := by
  intro h R
  unfold f_X8_will O_will
  have same : ∀ r : Int32, Tr (some (r, h)) (fun r' h' => r' = r ∧ RMo h' T ∧ ∀ a, a < 390 → h' a = h a) := fun r => wR ⟨rfl, R, fun _ _ => rfl⟩
  rw [M_isClient, b2_some, lo_0, lo_1, lo_2, lo_50, lo_99]
  simp only [M_in, bI_0, b2_some]
  cases e1 : inR c 0 5
  · rw [if_pos rfl, if_pos (by simp)]
    exact same _
  cases e2 : inR v 0 99
  · rw [if_neg (by decide), if_pos rfl, if_pos (by simp)]
    exact same _
  cases e3 : inR p 0 2
  · rw [if_neg (by decide), if_neg (by decide), if_pos rfl, if_pos (by simp)]
    exact same _
  cases e4 : inR kp 0 1
  · rw [if_neg (by decide), if_neg (by decide), if_neg (by decide), if_pos rfl, if_pos (by simp)]
    exact same _
  cases e5 : inR d 0 50
  · rw [if_neg (by decide), if_neg (by decide), if_neg (by decide), if_neg (by decide), if_pos rfl, if_pos (by simp)]
    exact same _
  rw [if_neg (by decide), if_neg (by decide), if_neg (by decide), if_neg (by decide), if_neg (by decide), if_neg (by simp)]
  obtain ⟨n, hn, rfl⟩ := inR_ex (b := 5) (by omega) e1
  rw [nI_clamp (show n < 2 ^ 31 by omega)]
  have hc : n < 6 := by omega
  have Rc := R.1.2.2.2.2 n hc
  rw [M_awake hc Rc, b2_some]
  by_cases ea : (T.1.2.2 n).1 0 = 1
  · rw [if_pos ea, if_neg (show ¬ (1 : Int32) = 0 by decide), M_isTopic R, b2_some]
    simp only [bI_0]
    cases et : isTp T.2.1
    · rw [if_pos rfl, if_pos (Or.inr rfl)]
      exact same _
    · rw [if_neg (by decide), if_neg (by
        rintro (z | z)
        · exact z ea
        · cases z)]
      have q12 : h 391 (308 + 961 * n + 12) = (T.1.2.2 n).1 12 := Rc.1 12 (by omega) rfl
      rw [li_12, M_of hc (by omega), b2_some, M_at, b2_some, xr_0, as_391 (by omega), li_0, q12]
      refine wM (M_will103 hc Rc (R.2.1.2.2 (isTp_pos et)) v p kp d _) (fun r g P => ⟨P.1, R.st (R.1.cl hc P.2) (fun a q1 _ => P.2.2.1 a q1), fun a ha => P.2.2.1 a (by omega)⟩)
  · rw [if_neg ea, if_pos rfl, if_pos (Or.inl ea)]
    exact same _
def A_ali (cl : Cl) (k : Nat) (t : Nat → Int32) : Cl := sS (sS (sS (sS cl k (t 0)) (k + 1) (t 1)) (k + 2) (t 2)) (k + 3) (t 3)
def O_alias (T : Top) (c k : Int32) : Int32 × Top :=
  if inR c 0 5 = false ∨ inR k 1 4 = false then (-1, T)
  else if ¬ (T.1.2.2 c.toNatClampNeg).1 0 = 1 ∨ isTp T.2.1 = false then (-2, T)
  else (if (T.1.2.2 c.toNatClampNeg).1 (29 + 4 * (k.toNatClampNeg - 1)) ≤ 0 then 0 else 1, sC T.1 c.toNatClampNeg (A_ali (T.1.2.2 c.toNatClampNeg) (29 + 4 * (k.toNatClampNeg - 1)) (g5 T.2.1)), T.2)
theorem M_alias74 {c k : Nat} {h : Mem} {cl : Cl} {t : Nat → Int32} (hc : c < 6) (hk : 29 ≤ k) (hk2 : k + 4 ≤ 45) (R : RB (bk (h 391) c) cl) (ht : ∀ j, j < 4 → h 395 j = t j) (g : Int32) : Tr (f_X8_alias_74 xFU 390 (nI (308 + 961 * c + k)) g (nI 0) h) (fun r h' => r = g ∧ MP c h cl h' (A_ali cl k t)) := by
  have ic : ∀ k, 29 ≤ k → ict k = false := by
    intro k hk
    unfold ict
    simp only [Bool.or_eq_false_iff, beq_eq_false_iff_ne]
    omega
  have P0 := MP.sc (k := k) hc R (by omega) (ic _ (by omega)) (by omega) (t 0)
  have P1 := P0.tr (MP.sc (k := k + 1) hc P0.1 (by omega) (ic _ (by omega)) (by omega) (t 1))
  have P2 := P1.tr (MP.sc (k := k + 2) hc P1.1 (by omega) (ic _ (by omega)) (by omega) (t 2))
  have P3 := P2.tr (MP.sc (k := k + 3) hc P2.1 (by omega) (ic _ (by omega)) (by omega) (t 3))
  obtain ⟨z, hz⟩ := xFUs
  have t0 := ht 0 (by omega)
  have t1 := ht 1 (by omega)
  have t2 := ht 2 (by omega)
  have t3 := ht 3 (by omega)
  simp only [← Nat.add_assoc] at P3
  rw [hz]
  unfold f_X8_alias_74
  simp (disch := omega) only [li_4, li_1, xr_0, xr_4, nI_leI, if_neg, nI_add, al_395, as_391, mu_rdk, Nat.reduceAdd, Nat.add_zero, t0]
  unfold f_X8_alias_74
  simp (disch := omega) only [li_4, li_1, xr_0, xr_4, nI_leI, if_neg, nI_add, al_395, as_391, mu_rdk, Nat.reduceAdd, t1]
  unfold f_X8_alias_74
  simp (disch := omega) only [li_4, li_1, xr_0, xr_4, nI_leI, if_neg, nI_add, al_395, as_391, mu_rdk, Nat.reduceAdd, t2]
  unfold f_X8_alias_74
  simp (disch := omega) only [li_4, li_1, xr_0, xr_4, nI_leI, if_neg, nI_add, al_395, as_391, mu_rdk, Nat.reduceAdd, t3]
  unfold f_X8_alias_74
  simp (disch := omega) only [li_4, nI_leI, if_pos]
  exact wR ⟨rfl, P3⟩
theorem inR_ex1 {x : Int32} {b : Nat} (hb : b < 2 ^ 31) (h : inR x 1 (nI b) = true) : ∃ n, 1 ≤ n ∧ n ≤ b ∧ x = nI n := by
  have h0 : inR x 0 (nI b) = true := by
    unfold inR at h ⊢
    simp only [Bool.and_eq_true, Bool.not_eq_true', decide_eq_false_iff_not] at h ⊢
    refine ⟨fun z => h.1 ?_, h.2⟩
    exact Int32.lt_trans z (by decide)
  obtain ⟨n, hn, e⟩ := inR_ex hb h0
  refine ⟨n, ?_, hn, e⟩
  unfold inR at h
  simp only [Bool.and_eq_true, Bool.not_eq_true', decide_eq_false_iff_not] at h
  rw [e, li_1, nI_ltI (by omega) (by omega)] at h
  omega
theorem M_alias (T : Top) (c k : Int32) : MO (f_X8_alias 390 c k) (fun T => O_alias T c k) T := by
  intro h R
  unfold f_X8_alias O_alias
  have same : ∀ r : Int32, Tr (some (r, h)) (fun r' h' => r' = r ∧ RMo h' T ∧ ∀ a, a < 390 → h' a = h a) := fun r => wR ⟨rfl, R, fun _ _ => rfl⟩
  rw [M_isClient, b2_some, lo_1, lo_4]
  simp only [M_in, bI_0, b2_some]
  cases e1 : inR c 0 5
  · rw [if_pos rfl, if_pos (by simp)]
    exact same _
  cases e2 : inR k 1 4
  · rw [if_neg (by decide), if_pos rfl, if_pos (by simp)]
    exact same _
  rw [if_neg (by decide), if_neg (by decide), if_neg (by simp)]
  obtain ⟨n, hn, rfl⟩ := inR_ex (b := 5) (by omega) e1
  obtain ⟨m, hm1, hm, rfl⟩ := inR_ex1 (b := 4) (by omega) e2
  rw [nI_clamp (show n < 2 ^ 31 by omega), nI_clamp (show m < 2 ^ 31 by omega)]
  have hc : n < 6 := by omega
  have Rc := R.1.2.2.2.2 n hc
  rw [M_awake hc Rc, b2_some]
  by_cases ea : (T.1.2.2 n).1 0 = 1
  · rw [if_pos ea, if_neg (show ¬ (1 : Int32) = 0 by decide), M_isTopic R, b2_some]
    simp only [bI_0]
    cases et : isTp T.2.1
    · rw [if_pos rfl, if_pos (Or.inr rfl)]
      exact same _
    · rw [if_neg (by decide), if_neg (by
        rintro (z | z)
        · exact z ea
        · cases z)]
      have rk : h 391 (308 + 961 * n + (29 + 4 * (m - 1))) = (T.1.2.2 n).1 (29 + 4 * (m - 1)) := by
        refine Rc.1 _ (by omega) ?_
        unfold ict
        simp only [Bool.or_eq_false_iff, beq_eq_false_iff_ne]
        omega
      simp (disch := omega) only [li_29, li_4, li_1, nI_subP, nI_mul, nI_add, M_at, b2_some, xr_0, al_391, rk]
      unfold f_X8_alias_66 f_X8_flag
      refine wIf (fun e0 => ?_) (fun e0 => ?_)
      · rw [if_pos e0, if_pos rfl, b2_some, li_0]
        refine wM (M_alias74 hc (by omega) (by omega) Rc (R.2.1.2.2 (isTp_pos et)) _) (fun r g P => ⟨P.1, R.st (R.1.cl hc P.2) (fun a q1 _ => P.2.2.1 a q1), fun a ha => P.2.2.1 a (by omega)⟩)
      · rw [if_neg e0, if_neg (by decide), b2_some, li_0]
        refine wM (M_alias74 hc (by omega) (by omega) Rc (R.2.1.2.2 (isTp_pos et)) _) (fun r g P => ⟨P.1, R.st (R.1.cl hc P.2) (fun a q1 _ => P.2.2.1 a q1), fun a ha => P.2.2.1 a (by omega)⟩)
  · rw [if_neg ea, if_pos rfl, if_pos (Or.inl ea)]
    exact same _
