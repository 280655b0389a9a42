theorem wdA_congr {cl : Cl} {t t' : Nat → Int32} (h : ∀ j, j < 4 → t j = t' j) : wdA cl t = wdA cl t' := by
  have e : wdS t = wdS t' := by
    funext b r
    unfold wdS
    rw [mtr_congr h]
  unfold wdA
  rw [e]
theorem A_ses_congr {t t' : Nat → Int32} (h : ∀ j, j < 4 → t j = t' j) (l p v : Int32) : ∀ d c st, A_ses t l p v d c st = A_ses t' l p v d c st
  | 0, _, _ => rfl
  | d + 1, c, st => by
    have e : A_se1 t l p v (st.2.2 c) = A_se1 t' l p v (st.2.2 c) := by
      unfold A_se1
      rw [wdA_congr h]
    unfold A_ses
    rw [e, A_ses_congr h l p v d (c + 1)]
theorem ismF_congr2 {cls : Nat → Cl} {k t t' : Nat → Int32} (h : ∀ j, j < 4 → t j = t' j) : ∀ d c, ismF cls k t d c = ismF cls k t' d c
  | 0, _ => rfl
  | d + 1, c => by
    unfold ismF
    rw [mtr_congr h, ismF_congr2 h d (c + 1)]
theorem A_shL_congr {t t' : Nat → Int32} (h : ∀ j, j < 4 → t j = t' j) (l p v : Int32) : ∀ n st key, A_shL t l p v n st key = A_shL t' l p v n st key
  | 0, _, _ => rfl
  | n + 1, st, key => by
    unfold A_shL
    rw [ismF_congr2 h, A_shL_congr h l p v n]
theorem A_says_congr {t t' : Nat → Int32} (h : ∀ j, j < 4 → t j = t' j) (st : St) (v p k : Int32) : A_says st t v p k = A_says st t' v p k := by
  have e : A_keep st t v p k = A_keep st t' v p k := by
    unfold A_keep
    rw [A_keeps_congr h]
  unfold A_says
  rw [e, A_ses_congr h, A_shL_congr h]
theorem ShOk_ses {t : Nat → Int32} {l p v : Int32} : ∀ d c st, ShOk st → ShOk (A_ses t l p v d c st) ∧ SS (A_ses t l p v d c st).2.2 st.2.2
  | 0, _, _, S => ⟨S, SS.rf⟩
  | d + 1, c, st, S => by
    unfold A_ses
    have z := SS_se1 st c t l p v
    have w := ShOk_ses (t := t) (l := l) (p := p) (v := v) d (c + 1) _ (S.ss z rfl)
    exact ⟨w.1, w.2.tr z⟩
theorem ShOk_shL {t : Nat → Int32} {l p v : Int32} : ∀ n st key, ShOk st → ShOk (A_shL t l p v n st key) ∧ SS (A_shL t l p v n st key).2.2 st.2.2
  | 0, _, _, S => ⟨S, SS.rf⟩
  | n + 1, st, key, S => by
    unfold A_shL
    by_cases e : (nsA st.2.2 key).1 = true
    · rw [if_pos e]
      obtain ⟨r, r1, r2, -⟩ := nsA_inv e
      by_cases e2 : ismF st.2.2 (nsA st.2.2 key).2 t 6 0 = true
      · rw [if_pos e2, r2]
        have w := ShOk_shL (t := t) (l := l) (p := p) (v := v) n _ (skey r) (S.out r1 l p v)
        exact ⟨w.1, w.2.tr (SS_out _ _ _ _ _)⟩
      · rw [if_neg e2]
        exact ShOk_shL n st _ S
    · rw [if_neg e]
      exact ⟨S, SS.rf⟩
theorem ShOk_says {st : St} (S : ShOk st) (t : Nat → Int32) (v p k : Int32) : ShOk (A_says st t v p k) ∧ SS (A_says st t v p k).2.2 st.2.2 := by
  have hss := A_keep_ss st t v p k
  have S1 : ShOk (A_keep st t v p k) := S.ss (by rw [hss.1]; exact SS.rf) hss.2
  have S2 := ShOk_ses (t := t) (l := st.1 1) (p := p) (v := v) 6 0 _ S1
  have S3 := ShOk_shL (t := t) (l := st.1 1) (p := p) (v := v) shN _ (fun _ => 0) S2.1
  refine ⟨S3.1, S3.2.tr (S2.2.tr ?_)⟩
  rw [hss.1]
  exact SS.rf
theorem amF_mem {cls : Nat → Cl} {key : Nat → Int32} : ∀ d c, amF cls key d c = true → ∃ i, c ≤ i ∧ i < c + d ∧ ¬ memIx (cls i) key = -4
  | 0, _, h => by cases h
  | d + 1, c, h => by
    unfold amF at h
    by_cases e : memIx (cls c) key = -4
    · simp only [e, beq_self_eq_true, Bool.not_true, Bool.false_or] at h
      obtain ⟨i, h1, h2, h3⟩ := amF_mem d (c + 1) h
      exact ⟨i, by omega, by omega, h3⟩
    · exact ⟨c, Nat.le_refl c, by omega, e⟩
theorem amA_key {cls : Nat → Cl} {key : Nat → Int32} (h : amA cls key = true) : k5 key ∈ (arw cls).map (fun r => k5 (skey r)) := by
  obtain ⟨c, -, h2, h3⟩ := amF_mem 6 0 h
  obtain ⟨j, j1, j2, j3⟩ := memIx_in h3
  have h0 : ¬ (cls c).1 0 = 0 := fun e => h3 (by unfold memIx; rw [if_pos e])
  refine List.mem_map.mpr ⟨gr ((cls c).2 3) j, arw_mem.mpr ⟨c, by omega, h0, by simp [gr, List.getD, List.getElem?_eq_getElem j1]⟩, ?_⟩
  unfold sP sm4 at j3
  simp only [Bool.and_eq_true, beq_iff_eq] at j3
  obtain ⟨⟨⟨⟨a0, a1⟩, a2⟩, a3⟩, a4⟩ := j3
  unfold k5 skey
  simp only [Nat.zero_add] at a0 a1 a2 a3
  simp
  exact ⟨a4, a0, a1, a2, a3⟩
theorem ShOk_fgt {st : St} (h1 : HdOk (st.2.1 7)) (h2 : ∀ c, c < 6 → ((st.2.2 c).1 0 = 0 ∨ (st.2.2 c).1 0 = 1 ∨ (st.2.2 c).1 0 = 2) ∧ ((st.2.2 c).2 3).length ≤ 6) (h3 : ((st.2.1 7).map (fun r => k5 (g5 r))).Nodup) : ShOk (A_fgt st) := by
  have e7 : (A_fgt st).2.1 7 = (st.2.1 7).filter (fgP st.2.2) := sK_eq _ _ _
  unfold ShOk
  rw [e7]
  refine ⟨fun r hr => h1 r (List.mem_filter.mp hr).1, h2, ?_, fun r hr => ?_⟩
  · exact List.Nodup.sublist (List.Sublist.map _ List.filter_sublist) h3
  · exact amA_key (List.mem_filter.mp hr).2
/-- the will that is due is said -/
def A_sw (st : St) (c : Nat) : St := A_says (sC st c (sS (st.2.2 c) 21 (-4))) (fun j => (st.2.2 c).1 (22 + j)) ((st.2.2 c).1 26) ((st.2.2 c).1 27) ((st.2.2 c).1 28)
def wnt (st : St) : Int32 := sm6 (fun c => (st.2.2 c).1 50)
theorem SS_sS (st : St) (c k : Nat) (v : Int32) (hk : k ≠ 0) : SS (sC st c (sS (st.2.2 c) k v)).2.2 st.2.2 := by
  intro i
  by_cases e : i = c
  · subst e
    rw [sC_eq]
    exact ⟨sS_ne (Ne.symm hk), rfl⟩
  · rw [sC_ne e]
    exact ⟨rfl, rfl⟩
theorem wnt_sS {st : St} {c k : Nat} {v : Int32} (hk : k ≠ 50) : wnt (sC st c (sS (st.2.2 c) k v)) = wnt st := by
  unfold wnt
  congr 1
  funext i
  by_cases e : i = c
  · subst e
    rw [sC_eq, sS_ne (Ne.symm hk)]
  · rw [sC_ne e]
theorem M_sw {c : Nat} {h : Mem} {st : St} (hc : c < 6) (R : RM (h 391) st) (S : ShOk st) : Tr (f_X8_saysWill 390 (nI c) h) (fun r h' => r = wnt (A_sw st c) - wnt st ∧ RM (h' 391) (A_sw st c) ∧ ∀ b, b ≠ 391 → b < 398 → h' b = h b) := by
  have Rc := R.2.2.2.2 c hc
  have P := MP.sc (k := 21) hc Rc (by omega) rfl (by omega) (-4)
  have rd : ∀ k, k < 45 → ict k = false → h 391 (308 + 961 * c + k) = (st.2.2 c).1 k := fun k hk hct => Rc.1 k hk hct
  have r0 := rd 22 (by omega) rfl
  have r1 := rd 23 (by omega) rfl
  have r2 := rd 24 (by omega) rfl
  have r3 := rd 25 (by omega) rfl
  have r4 := rd 26 (by omega) rfl
  have r5 := rd 27 (by omega) rfl
  have r6 := rd 28 (by omega) rfl
  have e : f_X8_saysWill 390 (nI c) h = b2 (f_X8_says 390 403 ((st.2.2 c).1 26) ((st.2.2 c).1 27) ((st.2.2 c).1 28) (set4 (mu h 391 (308 + 961 * c + 21) (-4)) 403 (fun j => (st.2.2 c).1 (22 + j)))) fun v5 h4 => some (v5, h4) := by
    unfold f_X8_saysWill
    obtain ⟨z, hz⟩ := xFUs
    rw [← mu4, hz]
    simp (disch := omega) only [li_22, li_21, M_at, b2_some, xr_0, as_391]
    unfold f_X8_saysWill_22
    rw [li_0]
    simp (disch := omega) only [li_4, li_1, xr_0, xr_21, nI_leI, if_neg, nI_add, al_391, as_403, Nat.zero_add, Nat.add_zero, mu_rdn, r0, Nat.add_assoc, Nat.reduceAdd]
    unfold f_X8_saysWill_22
    simp (disch := omega) only [li_4, li_1, xr_0, xr_21, nI_leI, if_neg, nI_add, al_391, as_403, mu_rdk, mu_rdn, Nat.add_assoc, Nat.reduceAdd]
    unfold f_X8_saysWill_22
    simp (disch := omega) only [li_4, li_1, xr_0, xr_21, nI_leI, if_neg, nI_add, al_391, as_403, mu_rdk, mu_rdn, Nat.add_assoc, Nat.reduceAdd]
    unfold f_X8_saysWill_22
    simp (disch := omega) only [li_4, li_1, xr_0, xr_21, nI_leI, if_neg, nI_add, al_391, as_403, mu_rdk, mu_rdn, Nat.add_assoc, Nat.reduceAdd]
    unfold f_X8_saysWill_22
    simp (disch := omega) only [li_4, li_5, li_6, xr_0, xr_21, nI_leI, if_pos, nI_add, al_391, mu_rdk, mu_rdn, Nat.add_assoc, Nat.reduceAdd]
    simp only [Nat.add_assoc] at r0 r1 r2 r3 r4 r5 r6
    simp only [r0, r1, r2, r3, r4, r5, r6]
  rw [e]
  have R1 := R.cl hc P
  have R2 : RM (set4 (mu h 391 (308 + 961 * c + 21) (-4)) 403 (fun j => (st.2.2 c).1 (22 + j)) 391) (sC st c (sS (st.2.2 c) 21 (-4))) := by rw [set4_ne (by omega)]; exact R1
  have f2 : ∀ b, b ≠ 391 → b ≠ 403 → set4 (mu h 391 (308 + 961 * c + 21) (-4)) 403 (fun j => (st.2.2 c).1 (22 + j)) b = h b := fun b q1 q2 => by rw [set4_ne q2, mu_ne q1]
  have t2 : ∀ j, j < 4 → set4 (mu h 391 (308 + 961 * c + 21) (-4)) 403 (fun j => (st.2.2 c).1 (22 + j)) 403 j = (st.2.2 c).1 (22 + j) := fun j hj => set4_in (s := fun j => (st.2.2 c).1 (22 + j)) hj
  generalize set4 (mu h 391 (308 + 961 * c + 21) (-4)) 403 (fun j => (st.2.2 c).1 (22 + j)) = h2 at R2 f2 t2 ⊢
  have S2 : ShOk (sC st c (sS (st.2.2 c) 21 (-4))) := S.ss (SS_sS st c 21 (-4) (by omega)) rfl
  obtain ⟨t, ht, W⟩ := M_says (a := 403) xl_403 (by omega) (by omega) R2 S2 ((st.2.2 c).1 26) ((st.2.2 c).1 27) ((st.2.2 c).1 28)
  refine wB W (fun r g P3 => wR ⟨?_, ?_, fun b q1 q2 => by rw [P3.2.2 b q1 (by omega), f2 b q1 (by omega)]⟩)
  · have P4 := P3.2.1
    rw [A_says_congr (t' := fun j => (st.2.2 c).1 (22 + j)) (fun j hj => (ht j hj).trans (t2 j hj))] at P4
    rw [P3.1, P4.2.1.1, R2.2.1.1]
    show _ = wnt (A_sw st c) - wnt st
    rw [← wnt_sS (st := st) (c := c) (k := 21) (v := -4) (by omega)]
    rfl
  · have P4 := P3.2.1
    rw [A_says_congr (t' := fun j => (st.2.2 c).1 (22 + j)) (fun j hj => (ht j hj).trans (t2 j hj))] at P4
    exact P4
