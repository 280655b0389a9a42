theorem sC_sC (st : St) (c : Nat) (a b : Cl) : sC (sC st c a) c b = sC st c b := by
  unfold sC
  have e : ud (ud st.2.2 c a) c b = ud st.2.2 c b := by
    funext i
    unfold ud
    split
    · rfl
    · rfl
  simp only [e]
theorem ShOk.ss2 {st st' : St} (S : ShOk st) (h : ∀ c, ((st'.2.2 c).1 0 = 0 ↔ (st.2.2 c).1 0 = 0) ∧ (st'.2.2 c).2 3 = (st.2.2 c).2 3) (hv : ∀ c, c < 6 → (st'.2.2 c).1 0 = 0 ∨ (st'.2.2 c).1 0 = 1 ∨ (st'.2.2 c).1 0 = 2) (e : st'.2.1 7 = st.2.1 7) : ShOk st' := by
  obtain ⟨s1, s2, s3, s4⟩ := S
  have hr : ∀ c, rws (st'.2.2 c) = rws (st.2.2 c) := fun c => by
    unfold rws
    by_cases z : (st.2.2 c).1 0 = 0
    · rw [if_pos z, if_pos ((h c).1.mpr z)]
    · rw [if_neg z, if_neg (fun y => z ((h c).1.mp y)), (h c).2]
  have ha : arw st'.2.2 = arw st.2.2 := by
    unfold arw
    rw [hr 0, hr 1, hr 2, hr 3, hr 4, hr 5]
  unfold ShOk
  rw [e, ha]
  exact ⟨s1, fun c hc => ⟨hv c hc, by rw [(h c).2]; exact (s2 c hc).2⟩, s3, s4⟩
def A_sl (cl : Cl) (clk : Int32) : Cl := sS (sT (sT (sS (sS cl 0 2) 2 (clk + cl.1 1)) 6 []) 7 []) 12 0
def A_due (cl : Cl) (clk : Int32) : Cl := (fun k => if 22 ≤ k ∧ k ≤ 28 then cl.1 (k - 9) else if k = 21 then clk + lsr (cl.1 20) (cl.1 1) else cl.1 k, cl.2)
def A_end (st : St) (c : Nat) : St := A_fgt (sC st c (A_new (st.2.2 c) 0))
def A_slE (st : St) (c : Nat) : St := if (st.2.2 c).1 1 = 0 then A_end st c else st
def O_sleep (T : Top) (c how : Int32) : Int32 × Top :=
  if inR c 0 5 = false ∨ inR how 0 1 = false then (-1, T)
  else if ¬ (T.1.2.2 c.toNatClampNeg).1 0 = 1 then (-2, T)
  else if how = 1 ∧ (T.1.2.2 c.toNatClampNeg).1 12 = 1 then
    (if (A_due (A_sl (T.1.2.2 c.toNatClampNeg) (T.1.1 0)) (T.1.1 0)).1 21 = T.1.1 0 then
      (wnt (A_sw (sC T.1 c.toNatClampNeg (A_due (A_sl (T.1.2.2 c.toNatClampNeg) (T.1.1 0)) (T.1.1 0))) c.toNatClampNeg) - wnt T.1, A_slE (A_sw (sC T.1 c.toNatClampNeg (A_due (A_sl (T.1.2.2 c.toNatClampNeg) (T.1.1 0)) (T.1.1 0))) c.toNatClampNeg) c.toNatClampNeg, T.2)
     else (0, A_slE (sC T.1 c.toNatClampNeg (A_due (A_sl (T.1.2.2 c.toNatClampNeg) (T.1.1 0)) (T.1.1 0))) c.toNatClampNeg, T.2))
  else (0, A_slE (sC T.1 c.toNatClampNeg (A_sl (T.1.2.2 c.toNatClampNeg) (T.1.1 0))) c.toNatClampNeg, T.2)
theorem M_sl230 {c : Nat} {h : Mem} {st : St} (hc : c < 6) (R : RM (h 391) st) (r : Int32) : Tr (f_X8_sleep_230 390 (nI c) r h) (fun r' h' => r' = r ∧ RM (h' 391) (A_slE st c) ∧ ∀ a, a ≠ 391 → a < 398 → h' a = h a) := by
  have Rc := R.2.2.2.2 c hc
  have q1 : h 391 (308 + 961 * c + 1) = (st.2.2 c).1 1 := Rc.1 1 (by omega) rfl
  unfold f_X8_sleep_230 A_slE A_end
  rw [li_1, M_of hc (by omega), b2_some, q1]
  refine wIf (fun e => ?_) (fun e => ?_)
  · rw [if_pos e]
    exact wB (M_isNew hc R 0) (fun _ g P => wR ⟨rfl, P.1, fun a q1 q2 => P.2 a q1 (by omega) (by omega)⟩)
  · rw [if_neg e]
    exact wR ⟨rfl, R, fun _ _ _ => rfl⟩
theorem wnt_eq {st : St} {c : Nat} {cl : Cl} (h : cl.1 50 = (st.2.2 c).1 50) : wnt (sC st c cl) = wnt st := by
  unfold wnt
  congr 1
  funext i
  by_cases e : i = c
  · subst e
    rw [sC_eq, h]
  · rw [sC_ne e]
theorem M_sl132 {c : Nat} {h : Mem} {st : St} (hc : c < 6) (R : RM (h 391) st) (S : ShOk st) (clk : Int32) (hk : clk = st.1 0) : Tr (f_X8_sleep_132 xFU 390 (nI c) (nI 0) h) (fun r h' => r = (if (A_due (st.2.2 c) clk).1 21 = clk then wnt (A_sw (sC st c (A_due (st.2.2 c) clk)) c) - wnt st else 0) ∧ RM (h' 391) (A_slE (if (A_due (st.2.2 c) clk).1 21 = clk then A_sw (sC st c (A_due (st.2.2 c) clk)) c else sC st c (A_due (st.2.2 c) clk)) c) ∧ ∀ a, a ≠ 391 → a < 398 → h' a = h a) := by
  have Rc := R.2.2.2.2 c hc
  have g0 : h 391 0 = clk := by rw [hk]; exact R.1.1
  have rd : ∀ k, k < 45 → ict k = false → h 391 (308 + 961 * c + k) = (st.2.2 c).1 k := fun k hk hct => Rc.1 k hk hct
  have r0 := rd 13 (by omega) rfl
  have r1 := rd 14 (by omega) rfl
  have r2 := rd 15 (by omega) rfl
  have r3 := rd 16 (by omega) rfl
  have r4 := rd 17 (by omega) rfl
  have r5 := rd 18 (by omega) rfl
  have r6 := rd 19 (by omega) rfl
  have r20 := rd 20 (by omega) rfl
  have rl := rd 1 (by omega) rfl
  obtain ⟨z, hz⟩ := xFUs
  rw [hz]
  unfold f_X8_sleep_132
  simp (disch := omega) only [li_7, li_1, li_22, li_13, xr_0, nI_leI, if_neg, nI_add, M_at, M_of, b2_some, as_391, Nat.add_zero, Nat.zero_add, r0]
  unfold f_X8_sleep_132
  simp (disch := omega) only [li_7, li_1, li_22, li_13, xr_0, nI_leI, if_neg, nI_add, M_at, M_of, b2_some, as_391, mu_rdn, Nat.reduceAdd, r1]
  unfold f_X8_sleep_132
  simp (disch := omega) only [li_7, li_1, li_22, li_13, xr_0, nI_leI, if_neg, nI_add, M_at, M_of, b2_some, as_391, mu_rdn, Nat.reduceAdd, r2]
  unfold f_X8_sleep_132
  simp (disch := omega) only [li_7, li_1, li_22, li_13, xr_0, nI_leI, if_neg, nI_add, M_at, M_of, b2_some, as_391, mu_rdn, Nat.reduceAdd, r3]
  unfold f_X8_sleep_132
  simp (disch := omega) only [li_7, li_1, li_22, li_13, xr_0, nI_leI, if_neg, nI_add, M_at, M_of, b2_some, as_391, mu_rdn, Nat.reduceAdd, r4]
  unfold f_X8_sleep_132
  simp (disch := omega) only [li_7, li_1, li_22, li_13, xr_0, nI_leI, if_neg, nI_add, M_at, M_of, b2_some, as_391, mu_rdn, Nat.reduceAdd, r5]
  unfold f_X8_sleep_132
  simp (disch := omega) only [li_7, li_1, li_22, li_13, xr_0, nI_leI, if_neg, nI_add, M_at, M_of, b2_some, as_391, mu_rdn, Nat.reduceAdd, r6]
  unfold f_X8_sleep_132
  simp (disch := omega) only [li_7, li_1, li_0, li_20, li_21, xr_0, nI_leI, if_pos, M_at, M_of, b2_some, al_391, as_391, mu_rdn, mu_rde, g0, r20, rl, M_lesser]
  have P : MP c h (st.2.2 c) (mu (mu (mu (mu (mu (mu (mu (mu h 391 (308 + 961 * c + 22) ((st.2.2 c).1 13)) 391 (308 + 961 * c + 23) ((st.2.2 c).1 14)) 391 (308 + 961 * c + 24) ((st.2.2 c).1 15)) 391 (308 + 961 * c + 25) ((st.2.2 c).1 16)) 391 (308 + 961 * c + 26) ((st.2.2 c).1 17)) 391 (308 + 961 * c + 27) ((st.2.2 c).1 18)) 391 (308 + 961 * c + 28) ((st.2.2 c).1 19)) 391 (308 + 961 * c + 21) (clk + lsr ((st.2.2 c).1 20) ((st.2.2 c).1 1))) (A_due (st.2.2 c) clk) := by
    refine ⟨⟨fun k hk hct => ?_, fun t ht => ?_⟩, bE.g ⟨fun a ha => by simp (disch := omega) only [mu_ne], fun x hx => by simp (disch := omega) only [mu_rdn]⟩ rfl rfl rfl rfl⟩
    · simp only [bk]
      show _ = (if 22 ≤ k ∧ k ≤ 28 then (st.2.2 c).1 (k - 9) else if k = 21 then clk + lsr ((st.2.2 c).1 20) ((st.2.2 c).1 1) else (st.2.2 c).1 k)
      by_cases e : 22 ≤ k ∧ k ≤ 28
      · rw [if_pos e]
        rcases (show k = 22 ∨ k = 23 ∨ k = 24 ∨ k = 25 ∨ k = 26 ∨ k = 27 ∨ k = 28 by omega) with rfl | rfl | rfl | rfl | rfl | rfl | rfl <;> simp (disch := omega) only [mu_rde, mu_rdn]
      · rw [if_neg e]
        by_cases e2 : k = 21
        · rw [if_pos e2, mu_rde (by omega)]
        · rw [if_neg e2, ← rd k hk hct]
          simp (disch := omega) only [mu_rdn]
    · show Tb _ t ((st.2.2 c).2 t)
      obtain ⟨q1, q2, q3⟩ := Rc.2 t ht
      have q := treg ht
      have qc := ict_cases ht
      refine ⟨?_, q2, fun i j hi hj => ?_⟩
      · rw [← q1]
        simp only [bk]
        simp (disch := omega) only [mu_rdn]
      · have p := tpos ht (Nat.lt_of_lt_of_le hi q2) hj
        rw [← q3 i j hi hj]
        simp only [bk]
        simp (disch := omega) only [mu_rdn]
  have f1 := P.2.1
  have R1 := R.cl hc P
  generalize mu (mu (mu (mu (mu (mu (mu (mu h 391 (308 + 961 * c + 22) ((st.2.2 c).1 13)) 391 (308 + 961 * c + 23) ((st.2.2 c).1 14)) 391 (308 + 961 * c + 24) ((st.2.2 c).1 15)) 391 (308 + 961 * c + 25) ((st.2.2 c).1 16)) 391 (308 + 961 * c + 26) ((st.2.2 c).1 17)) 391 (308 + 961 * c + 27) ((st.2.2 c).1 18)) 391 (308 + 961 * c + 28) ((st.2.2 c).1 19)) 391 (308 + 961 * c + 21) (clk + lsr ((st.2.2 c).1 20) ((st.2.2 c).1 1)) = h1 at f1 R1 ⊢
  have e21 : (A_due (st.2.2 c) clk).1 21 = clk + lsr ((st.2.2 c).1 20) ((st.2.2 c).1 1) := rfl
  have hss : SS (sC st c (A_due (st.2.2 c) clk)).2.2 st.2.2 := by
    intro i
    by_cases e : i = c
    · subst e
      rw [sC_eq]
      exact ⟨rfl, rfl⟩
    · rw [sC_ne e]
      exact ⟨rfl, rfl⟩
  have S1 : ShOk (sC st c (A_due (st.2.2 c) clk)) := S.ss hss rfl
  rw [e21]
  unfold f_X8_sleep_228
  refine wIf (fun e => ?_) (fun e => ?_)
  · rw [if_pos e, if_pos e]
    refine wB (M_sw hc R1 S1) (fun r g P2 => ?_)
    refine wM (M_sl230 hc P2.2.1 r) (fun _ g2 P3 => ⟨?_, P3.2.1, fun a q1 q2 => by rw [P3.2.2 a q1 q2, P2.2.2 a q1 q2, f1 a q1]⟩)
    rw [P3.1, P2.1, wnt_eq (c := c) (cl := A_due (st.2.2 c) clk) (by rfl)]
  · rw [if_neg e, if_neg e]
    refine wM (M_sl230 hc R1 0) (fun _ g2 P3 => ⟨P3.1, P3.2.1, fun a q1 q2 => by rw [P3.2.2 a q1 q2, f1 a q1]⟩)
theorem M_sleep (T : Top) (S : ShOk T.1) (c how : Int32) : MO (f_X8_sleep 390 c how) (fun T => O_sleep T c how) T := by
  intro h R
  unfold f_X8_sleep O_sleep
  have same : ∀ r : Int32, Tr (some (r, h)) (fun r' h' => r' = r ∧ RMo h' T ∧ ∀ a, a < 390 → h' a = h a) := fun r => wR ⟨rfl, R, fun _ _ => rfl⟩
  rw [M_isClient, b2_some]
  simp only [bI_0]
  cases e1 : inR c 0 5
  · rw [if_pos rfl, if_pos (Or.inl rfl)]
    exact same _
  · rw [if_neg (by decide), lo_0, lo_1, M_in, b2_some]
    simp only [bI_0]
    cases e2 : inR how 0 1
    · rw [if_pos rfl, if_pos (Or.inr rfl)]
      exact same _
    · rw [if_neg (by decide), if_neg (by simp)]
      obtain ⟨n, hn, rfl⟩ := inR_ex (b := 5) (by omega) e1
      rw [nI_clamp (by omega)]
      have hc : n < 6 := by omega
      have Rc := R.1.2.2.2.2 n hc
      have q12 : h 391 (308 + 961 * n + 12) = (T.1.2.2 n).1 12 := Rc.1 12 (by omega) rfl
      have ql : h 391 (308 + 961 * n + 1) = (T.1.2.2 n).1 1 := Rc.1 1 (by omega) rfl
      have g0 : h 391 0 = T.1.1 0 := R.1.1.1
      have P0 := MP.sc (k := 0) hc Rc (by omega) rfl (by omega) 2
      have P1 := P0.tr (MP.sc (k := 2) hc P0.1 (by omega) rfl (by omega) (T.1.1 0 + (T.1.2.2 n).1 1))
      have P2 := P1.tr (MP.clr (t := 6) hc P1.1 rfl)
      have P3 := P2.tr (MP.clr (t := 7) hc P2.1 rfl)
      have P4 := P3.tr (MP.sc (k := 12) hc P3.1 (by omega) rfl (by omega) 0)
      have R4 := R.1.cl hc P4
      have f4 := P4.2.1
      have e51 : ∀ s0 : Int32, f_X8_sleep_51 390 (nI n) s0 h = (if s0 = 0 then f_X8_sleep_230 390 (nI n) 0 (mu (mu (mu (mu (mu h 391 (308 + 961 * n + 0) 2) 391 (308 + 961 * n + 2) (T.1.1 0 + (T.1.2.2 n).1 1)) 391 (308 + 961 * n + 6) 0) 391 (308 + 961 * n + 7) 0) 391 (308 + 961 * n + 12) 0) else f_X8_sleep_132 xFU 390 (nI n) (nI 0) (mu (mu (mu (mu (mu h 391 (308 + 961 * n + 0) 2) 391 (308 + 961 * n + 2) (T.1.1 0 + (T.1.2.2 n).1 1)) 391 (308 + 961 * n + 6) 0) 391 (308 + 961 * n + 7) 0) 391 (308 + 961 * n + 12) 0)) := by
        intro s0
        unfold f_X8_sleep_51
        simp (disch := omega) only [li_0, li_1, li_2, li_6, li_7, li_12, M_at, M_of, b2_some, xr_0, al_391, as_391, mu_rdn, g0, ql]
      have e4 : (sC T.1 n (A_sl (T.1.2.2 n) (T.1.1 0))).2.2 n = A_sl (T.1.2.2 n) (T.1.1 0) := sC_eq _ _ _
      rw [M_awake hc Rc, b2_some]
      by_cases ea : (T.1.2.2 n).1 0 = 1
      · rw [if_pos ea, if_neg (show ¬ (1 : Int32) = 0 by decide), if_neg (show ¬ ¬ (T.1.2.2 n).1 0 = 1 from fun z => z ea)]
        change RM _ (sC T.1 n (A_sl (T.1.2.2 n) (T.1.1 0))) at R4
        have Sh4 : ShOk (sC T.1 n (A_sl (T.1.2.2 n) (T.1.1 0))) := by
          refine S.ss2 (fun i => ?_) (fun i hi => ?_) rfl
          · by_cases e : i = n
            · subst e
              rw [sC_eq]
              exact ⟨⟨fun z => absurd z (show ¬ (2 : Int32) = 0 by decide), fun z => absurd (ea.symm.trans z) (by decide)⟩, rfl⟩
            · rw [sC_ne e]
              exact ⟨Iff.rfl, rfl⟩
          · by_cases e : i = n
            · subst e
              rw [sC_eq]
              exact Or.inr (Or.inr rfl)
            · rw [sC_ne e]
              exact (S.2.1 i hi).1
        have no : Tr (f_X8_sleep_50 390 (nI n) h) (fun r h' => r = 0 ∧ RMo h' (A_slE (sC T.1 n (A_sl (T.1.2.2 n) (T.1.1 0))) n, T.2) ∧ ∀ a, a < 390 → h' a = h a) := by
          unfold f_X8_sleep_50
          rw [e51, if_pos rfl]
          exact wM (M_sl230 hc R4 0) (fun _ g P => ⟨P.1, R.st P.2.1 (fun a q1 q2 => by rw [P.2.2 a q1 q2, f4 a q1]), fun a ha => by rw [P.2.2 a (by omega) (by omega), f4 a (by omega)]⟩)
        by_cases eh : how = 1
        · rw [if_pos eh, li_12, M_of hc (by omega), b2_some, q12]
          by_cases e12 : (T.1.2.2 n).1 12 = 1
          · rw [if_pos e12, if_pos ⟨eh, e12⟩, e51, if_neg (show ¬ (1 : Int32) = 0 by decide)]
            have W := M_sl132 hc R4 Sh4 (T.1.1 0) rfl
            rw [e4] at W
            rw [sC_sC, wnt_eq (c := n) (cl := A_sl (T.1.2.2 n) (T.1.1 0)) rfl] at W
            refine wM W (fun r g P => ?_)
            by_cases ed : (A_due (A_sl (T.1.2.2 n) (T.1.1 0)) (T.1.1 0)).1 21 = T.1.1 0
            · rw [if_pos ed, if_pos ed] at P
              rw [if_pos ed]
              exact ⟨P.1, R.st P.2.1 (fun a q1 q2 => by rw [P.2.2 a q1 q2, f4 a q1]), fun a ha => by rw [P.2.2 a (by omega) (by omega), f4 a (by omega)]⟩
            · rw [if_neg ed, if_neg ed] at P
              rw [if_neg ed]
              exact ⟨P.1, R.st P.2.1 (fun a q1 q2 => by rw [P.2.2 a q1 q2, f4 a q1]), fun a ha => by rw [P.2.2 a (by omega) (by omega), f4 a (by omega)]⟩
          · rw [if_neg e12, if_neg (fun z => e12 z.2)]
            exact no
        · rw [if_neg eh, if_neg (fun z => eh z.1)]
          exact no
      · rw [if_neg ea, if_pos rfl, if_pos ea]
        exact same _
/-- a tick: each client in turn -/
def A_tk1 (st : St) (c : Nat) : St := if (st.2.2 c).1 21 = st.1 0 then A_sw st c else st
def A_tk2 (st : St) (c : Nat) : St := if (st.2.2 c).1 0 = 2 ∧ (st.2.2 c).1 2 = st.1 0 then A_end st c else st
def A_tkc : Nat → Nat → Int32 × St → Int32 × St
  | 0, _, s => s
  | d + 1, c, s => A_tkc d (c + 1) (if (s.2.2.2 c).1 21 = s.2.1 0 then s.1 + 1 else s.1, A_tk2 (A_tk1 s.2 c) c)
def A_tks : Nat → Int32 × St → Int32 × St
  | 0, s => s
  | n + 1, s => A_tks n (A_tkc 6 0 (s.1, sG s.2 0 (s.2.1 0 + 1)))
theorem ShOk_end {st : St} (S : ShOk st) (c : Nat) : ShOk (A_end st c) := by
  unfold A_end
  refine ShOk_fgt S.1 (fun i hi => ?_) S.2.2.1
  by_cases e : i = c
  · subst e
    rw [sC_eq]
    exact ⟨Or.inl rfl, Nat.zero_le _⟩
  · rw [sC_ne e]
    exact S.2.1 i hi
theorem ShOk_sw {st : St} (S : ShOk st) (c : Nat) : ShOk (A_sw st c) := by
  unfold A_sw
  exact (ShOk_says (S.ss (SS_sS st c 21 (-4) (by omega)) rfl) _ _ _ _).1
theorem ShOk_tk {st : St} (S : ShOk st) (c : Nat) : ShOk (A_tk2 (A_tk1 st c) c) := by
  have S1 : ShOk (A_tk1 st c) := by
    unfold A_tk1
    split
    · exact ShOk_sw S c
    · exact S
  unfold A_tk2
  split
  · exact ShOk_end S1 c
  · exact S1
theorem M_tk36 (kk : Nat → Int32 → Int32 → Int32 → Mem → Option (Int32 × Mem)) (a1 a3 : Int32) {Q : Int32 → Mem → Prop} : ∀ (d c n : Nat) (s : Int32 × St) (h : Mem), c + d = 6 → d < n → RM (h 391) s.2 → ShOk s.2 → (∀ h', RM (h' 391) (A_tkc d c s).2 → ShOk (A_tkc d c s).2 → (∀ a, a ≠ 391 → a < 398 → h' a = h a) → Tr (kk 390 a1 (A_tkc d c s).1 (a3 + 1) h') Q) → Tr (f_X8_tick_36 kk n 390 a1 s.1 a3 (nI c) h) Q := by
  intro d
  induction d with
  | zero =>
    intro c n s h h1 h2 R S K
    obtain ⟨n, rfl⟩ : ∃ z, n = z + 1 := ⟨n - 1, by omega⟩
    unfold f_X8_tick_36
    simp (disch := omega) only [li_6, nI_leI, if_pos]
    exact K h R S (fun _ _ _ => rfl)
  | succ d ih =>
    intro c n s h h1 h2 R S K
    obtain ⟨n, rfl⟩ : ∃ z, n = z + 1 := ⟨n - 1, by omega⟩
    have hc : c < 6 := by omega
    have Rc := R.2.2.2.2 c hc
    have q21 : h 391 (308 + 961 * c + 21) = (s.2.2.2 c).1 21 := Rc.1 21 (by omega) rfl
    have g0 : h 391 0 = s.2.1 0 := R.1.1
    have S2 := ShOk_tk S c
    unfold A_tkc at K
    have tail : ∀ (r : Int32) (g : Mem), RM (g 391) (A_tk1 s.2 c) → (∀ a, a ≠ 391 → a < 398 → g a = h a) → r = (if (s.2.2.2 c).1 21 = s.2.1 0 then s.1 + 1 else s.1) → Tr (f_X8_tick_70 kk (f_X8_tick_36 kk n) 390 a1 r a3 (nI c) g) Q := by
      intro r g Rg fg er
      subst er
      have Rgc := Rg.2.2.2.2 c hc
      have p0 : g 391 (308 + 961 * c + 0) = ((A_tk1 s.2 c).2.2 c).1 0 := Rgc.1 0 (by omega) rfl
      have p2 : g 391 (308 + 961 * c + 2) = ((A_tk1 s.2 c).2.2 c).1 2 := Rgc.1 2 (by omega) rfl
      have pg : g 391 0 = (A_tk1 s.2 c).1 0 := Rg.1.1
      have go : ∀ g2 : Mem, RM (g2 391) (A_tk2 (A_tk1 s.2 c) c) → (∀ a, a ≠ 391 → a < 398 → g2 a = h a) → Tr (f_X8_tick_36 kk n 390 a1 (if (s.2.2.2 c).1 21 = s.2.1 0 then s.1 + 1 else s.1) a3 (nI (c + 1)) g2) Q := by
        intro g2 R2 f2
        exact ih (c + 1) n (if (s.2.2.2 c).1 21 = s.2.1 0 then s.1 + 1 else s.1, A_tk2 (A_tk1 s.2 c) c) g2 (by omega) (by omega) R2 S2 (fun h' R' S' f' => K h' R' S' (fun a q1 q2 => (f' a q1 q2).trans (f2 a q1 q2)))
      unfold f_X8_tick_70 f_X8_tick_104
      rw [li_0, M_of hc (by omega), b2_some, p0]
      simp only [li_1, nI_add]
      by_cases e1 : ((A_tk1 s.2 c).2.2 c).1 0 = 2
      · rw [if_pos e1, li_2, M_of hc (by omega), b2_some, p2, xr_0, al_391 (by omega), pg]
        by_cases e2 : ((A_tk1 s.2 c).2.2 c).1 2 = (A_tk1 s.2 c).1 0
        · rw [if_pos e2]
          refine wB (M_isNew hc Rg (nI 0)) (fun _ g3 P => go g3 ?_ (fun a q1 q2 => by rw [P.2 a q1 (by omega) (by omega), fg a q1 q2]))
          unfold A_tk2 A_end
          rw [if_pos ⟨e1, e2⟩]
          exact P.1
        · rw [if_neg e2]
          refine go g ?_ fg
          unfold A_tk2
          rw [if_neg (fun z => e2 z.2)]
          exact Rg
      · rw [if_neg e1]
        refine go g ?_ fg
        unfold A_tk2
        rw [if_neg (fun z => e1 z.1)]
        exact Rg
    unfold f_X8_tick_36
    simp (disch := omega) only [li_6, nI_leI, if_neg]
    rw [li_21, M_of hc (by omega), b2_some, q21, li_0, xr_0, al_391 (by omega), g0]
    by_cases e : (s.2.2.2 c).1 21 = s.2.1 0
    · rw [if_pos e]
      refine wB (M_sw hc R S) (fun r g P => ?_)
      refine tail _ g ?_ P.2.2 (by rw [if_pos e])
      unfold A_tk1
      rw [if_pos e]
      exact P.2.1
    · rw [if_neg e]
      refine tail _ h ?_ (fun _ _ _ => rfl) (by rw [if_neg e])
      unfold A_tk1
      rw [if_neg e]
      exact R
theorem M_tk18 {m : Nat} (hm : m ≤ 50) : ∀ (d k n : Nat) (s : Int32 × St) (h : Mem), k + d = m → d < n → RM (h 391) s.2 → ShOk s.2 → Tr (f_X8_tick_18 n 390 (nI m) s.1 (nI k) h) (fun r h' => r = (A_tks d s).1 ∧ RM (h' 391) (A_tks d s).2 ∧ ∀ a, a ≠ 391 → a < 398 → h' a = h a) := by
  intro d
  induction d with
  | zero =>
    intro k n s h h1 h2 R S
    obtain ⟨n, rfl⟩ : ∃ z, n = z + 1 := ⟨n - 1, by omega⟩
    unfold f_X8_tick_18
    simp (disch := omega) only [nI_leI, if_pos]
    exact wR ⟨rfl, R, fun _ _ _ => rfl⟩
  | succ d ih =>
    intro k n s h h1 h2 R S
    obtain ⟨n, rfl⟩ : ∃ z, n = z + 1 := ⟨n - 1, by omega⟩
    have g0 : h 391 0 = s.2.1 0 := R.1.1
    unfold f_X8_tick_18
    simp (disch := omega) only [li_0, li_1, xr_0, nI_leI, if_neg, al_391, as_391, g0]
    have R1 : RM (mu h 391 0 (s.2.1 0 + nI 1) 391) (sG s.2 0 (s.2.1 0 + 1)) := by
      rw [mu_eq]
      exact R.sg (by omega) _
    refine M_tk36 _ _ _ 6 0 xFU (s.1, sG s.2 0 (s.2.1 0 + 1)) _ (by omega) (by unfold xFU; omega) R1 (S.ss SS.rf rfl) (fun h' R' S' f' => ?_)
    rw [li_1, nI_add]
    unfold A_tks
    exact wM (ih (k + 1) n (A_tkc 6 0 (s.1, sG s.2 0 (s.2.1 0 + 1))) h' (by omega) (by omega) R' S') (fun _ g P => ⟨P.1, P.2.1, fun a q1 q2 => by rw [P.2.2 a q1 q2, f' a q1 q2, mu_ne q1]⟩)
def O_tick (T : Top) (n : Int32) : Int32 × Top := if inR n 1 50 = false then (-1, T) else ((A_tks n.toNatClampNeg (0, T.1)).1, (A_tks n.toNatClampNeg (0, T.1)).2, T.2)
theorem M_tick (T : Top) (S : ShOk T.1) (n : Int32) : MO (f_X8_tick 390 n) (fun T => O_tick T n) T := by
  intro h R
  unfold f_X8_tick O_tick
  rw [lo_1, lo_50, M_in, b2_some]
  simp only [bI_0]
  cases e1 : inR n 1 50
  · rw [if_pos rfl, if_pos rfl]
    exact wR ⟨rfl, R, fun _ _ => rfl⟩
  · rw [if_neg (by decide), if_neg (by decide)]
    have hx : ∃ m, m ≤ 50 ∧ n = nI m := by
      refine inR_ex (b := 50) (by omega) ?_
      unfold inR at e1 ⊢
      simp only [Bool.and_eq_true, Bool.not_eq_true', decide_eq_false_iff_not] at e1 ⊢
      exact ⟨fun z => e1.1 (Int32.lt_trans z (by decide)), e1.2⟩
    obtain ⟨m, hm, rfl⟩ := hx
    rw [nI_clamp (by omega), li_0]
    exact wM (M_tk18 hm m 0 xFU (0, T.1) h (by omega) (by unfold xFU; omega) R.1 S) (fun _ g P => ⟨P.1, R.st P.2.1 P.2.2, fun a ha => P.2.2 a (by omega) (by omega)⟩)
