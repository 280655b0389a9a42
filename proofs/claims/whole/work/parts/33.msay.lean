/-! the reference: a share goes out -/
theorem RM.k7 {f f' : Nat → Int32} {st : St} {rows : List (List Int32)} (R : RM f st) (T : GTb f' 7 92 6 36 rows) (e : ∀ x, x ≠ 7 → (x < 92 ∨ 308 ≤ x) → f' x = f x) : RM f' (sK st 7 rows) := by
  obtain ⟨⟨g0, g1⟩, ⟨s2, s3, s4, s5⟩, k6, k7, rb⟩ := R
  refine ⟨⟨by rw [e 0 (by omega) (by omega)]; exact g0, by rw [e 1 (by omega) (by omega)]; exact g1⟩, ⟨by rw [e 2 (by omega) (by omega)]; exact s2, by rw [e 3 (by omega) (by omega)]; exact s3, by rw [e 4 (by omega) (by omega)]; exact s4, by rw [e 5 (by omega) (by omega)]; exact s5⟩, ?_, ?_, fun c hc => (rb c hc).frame (fun k hk => e _ (by omega) (by omega))⟩
  · show GTb f' 6 8 7 12 (ud st.2.1 7 rows 6)
    rw [ud_ne (by omega)]
    exact k6.frame (e 6 (by omega) (by omega)) (fun x h1 h2 => e x (by omega) (by omega))
  · show GTb f' 7 92 6 36 (ud st.2.1 7 rows 7)
    rw [ud_eq]
    exact T
theorem RM.k6 {f f' : Nat → Int32} {st : St} {rows : List (List Int32)} (R : RM f st) (T : GTb f' 6 8 7 12 rows) (e : ∀ x, x ≠ 6 → (x < 8 ∨ 92 ≤ x) → f' x = f x) : RM f' (sK st 6 rows) := by
  obtain ⟨⟨g0, g1⟩, ⟨s2, s3, s4, s5⟩, k6, k7, rb⟩ := R
  refine ⟨⟨by rw [e 0 (by omega) (by omega)]; exact g0, by rw [e 1 (by omega) (by omega)]; exact g1⟩, ⟨by rw [e 2 (by omega) (by omega)]; exact s2, by rw [e 3 (by omega) (by omega)]; exact s3, by rw [e 4 (by omega) (by omega)]; exact s4, by rw [e 5 (by omega) (by omega)]; exact s5⟩, ?_, ?_, fun c hc => (rb c hc).frame (fun k hk => e _ (by omega) (by omega))⟩
  · show GTb f' 6 8 7 12 (ud st.2.1 6 rows 6)
    rw [ud_eq]
    exact T
  · show GTb f' 7 92 6 36 (ud st.2.1 6 rows 7)
    rw [ud_ne (by omega)]
    exact k7.frame (e 7 (by omega) (by omega)) (fun x h1 h2 => e x (by omega) (by omega))
theorem RM.sg {f : Nat → Int32} {st : St} (R : RM f st) {k : Nat} (hk : k < 2) (v : Int32) : RM (upd f k v) (sG st k v) := by
  obtain ⟨⟨g0, g1⟩, ⟨s2, s3, s4, s5⟩, k6, k7, rb⟩ := R
  have e : ∀ x, 2 ≤ x → upd f k v x = f x := fun x hx => upd_ne (by omega)
  refine ⟨⟨?_, ?_⟩, ⟨by rw [e 2 (by omega)]; exact s2, by rw [e 3 (by omega)]; exact s3, by rw [e 4 (by omega)]; exact s4, by rw [e 5 (by omega)]; exact s5⟩, k6.frame (e 6 (by omega)) (fun x h1 h2 => e x (by omega)), k7.frame (e 7 (by omega)) (fun x h1 h2 => e x (by omega)), fun c hc => (rb c hc).frame (fun j hj => e _ (by omega))⟩
  · show upd f k v 0 = ud st.1 k v 0
    unfold upd ud
    split
    · rfl
    · exact g0
  · show upd f k v 1 = ud st.1 k v 1
    unfold upd ud
    split
    · rfl
    · exact g1
theorem sK_eq (st : St) (t : Nat) (rows : List (List Int32)) : (sK st t rows).2.1 t = rows := by
  show ud st.2.1 t rows t = rows
  exact ud_eq
theorem sK_ne {st : St} {t u : Nat} {rows : List (List Int32)} (e : u ≠ t) : (sK st t rows).2.1 u = st.2.1 u := by
  show ud st.2.1 t rows u = _
  exact ud_ne e
theorem sC_eq (st : St) (c : Nat) (cl : Cl) : (sC st c cl).2.2 c = cl := by
  show ud st.2.2 c cl c = cl
  exact ud_eq
theorem sC_ne {st : St} {c d : Nat} {cl : Cl} (e : d ≠ c) : (sC st c cl).2.2 d = st.2.2 d := by
  show ud st.2.2 c cl d = _
  exact ud_ne e
def lsr (a b : Int32) : Int32 := if b ≤ a then b else a
theorem M_lesser (a b : Int32) (h : Mem) : f_X8_lesser a b h = some (lsr a b, h) := by
  unfold f_X8_lesser lsr
  split <;> rfl
def A_shGo (st : St) (key : Nat → Int32) (c : Nat) (l p v : Int32) : St := sC st c (A_goes (st.2.2 c) l (lsr p (g5 (gr ((st.2.2 c).2 3) (memIx (st.2.2 c) key).toNatClampNeg) 4)) v 0)
theorem M_so129 {i c : Nat} {h : Mem} {st : St} (R : RM (h 391) st) (hc : c < 6) (hi : i < (st.2.1 7).length) (hw : (gr (st.2.1 7) i).length = 6) (hm : ¬ memIx (st.2.2 c) (h 398) = -4) (l p v : Int32) : Tr (f_X8_sharesOut_129 390 l p v (nI i) (nI c) h) (fun _ h' => RM (h' 391) (A_shGo (sK st 7 ((st.2.1 7).set i ((gr (st.2.1 7) i).set 5 (nI c)))) (h 398) c l p v) ∧ ∀ a, a ≠ 391 → a ≠ 401 → h' a = h a) := by
  have T := R.2.2.2.1
  have q2 := T.2.1
  unfold f_X8_sharesOut_129
  simp (disch := omega) only [xr_0, li_92, li_6, li_5, nI_mul, nI_add, as_391]
  have R1 : RM (mu h 391 (92 + 6 * i + 5) (nI c) 391) (sK st 7 ((st.2.1 7).set i ((gr (st.2.1 7) i).set 5 (nI c)))) := by
    refine R.k7 (T.set hi (by omega) hw ?_ ?_ ?_) ?_
    · rw [mu_rdn (by omega)]
    · rw [mu_rde rfl]
    · intro k h1 h2 h3
      rw [mu_rdn h3]
    · intro x h1 h2
      rw [mu_rdn (by omega)]
  have f1 : ∀ a, a ≠ 391 → mu h 391 (92 + 6 * i + 5) (nI c) a = h a := fun a ha => mu_ne ha
  generalize mu h 391 (92 + 6 * i + 5) (nI c) = h1 at R1 f1 ⊢
  have hs : (sK st 7 ((st.2.1 7).set i ((gr (st.2.1 7) i).set 5 (nI c)))).2.2 = st.2.2 := rfl
  generalize sK st 7 ((st.2.1 7).set i ((gr (st.2.1 7) i).set 5 (nI c))) = st1 at R1 hs ⊢
  rw [← hs] at hm
  have Rc := R1.2.2.2.2 c hc
  have qs := (Rc.2 3 rfl).2.1
  rw [tc_3] at qs
  rw [M_memberOf hc Rc, b2_some, f1 398 (by omega)]
  obtain ⟨j, j1, j2, -⟩ := memIx_in hm
  unfold A_shGo
  rw [j2, nI_clamp (by omega)]
  have R2 : RM (set4 h1 401 (fun k => h 398 (1 + k)) 391) st1 := by rw [set4_ne (by omega)]; exact R1
  have f2 : ∀ a, a ≠ 391 → a ≠ 401 → set4 h1 401 (fun k => h 398 (1 + k)) a = h a := fun a g1 g2 => by rw [set4_ne g2, f1 a g1]
  generalize set4 h1 401 (fun k => h 398 (1 + k)) = h2 at R2 f2 ⊢
  have Rc2 := R2.2.2.2.2 c hc
  have r4 := Rc2.cell (t := 3) (i := j) (j := 4) rfl j1 (by rw [tw_3]; omega)
  simp only [tb_3, tw_3] at r4
  simp (disch := omega) only [li_45, li_6, li_4, nI_mul, nI_add, M_of, b2_some, r4, M_lesser]
  exact wB (M_goes hc Rc2 _ _ _ _) (fun _ h3 P => wR ⟨R2.cl hc P, fun a g1 g2 => (P.2.1 a g1).trans (f2 a g1 g2)⟩)
/-- who gets it: the place from which it goes on, and the client -/
def shFr (had : List (List Int32)) (key : Nat → Int32) : Nat := if hdIx had key = -4 then 5 else (g5 (gr had (hdIx had key).toNatClampNeg) 5).toNatClampNeg
def shC (st : St) (key : Nat → Int32) : Int32 := if tuA st.2.2 key (shFr (st.2.1 7) key) 1 = -4 then tuA st.2.2 key (shFr (st.2.1 7) key) 2 else tuA st.2.2 key (shFr (st.2.1 7) key) 1
def shHad (had : List (List Int32)) (key : Nat → Int32) (c : Int32) : List (List Int32) := if hdIx had key = -4 then had ++ [[key 0, key 1, key 2, key 3, key 4, c]] else had.set (hdIx had key).toNatClampNeg ((gr had (hdIx had key).toNatClampNeg).set 5 c)
def A_shOut (st : St) (key : Nat → Int32) (l p v : Int32) : St := A_shGo (sK st 7 (shHad (st.2.1 7) key (shC st key))) key (shC st key).toNatClampNeg l p v
/-- what the list of shares that were had is like -/
def HdOk (had : List (List Int32)) : Prop := ∀ r ∈ had, r.length = 6 ∧ ∃ f, f < 6 ∧ g5 r 5 = nI f
theorem tuF_in {cls : Nat → Cl} {key : Nat → Int32} {fr : Nat} {s : Int32} : ∀ (d k : Nat), ¬ tuF cls key fr s d k = -4 → ∃ c, c < 6 ∧ tuF cls key fr s d k = nI c ∧ (cls c).1 0 = s ∧ ¬ memIx (cls c) key = -4
  | 0, _, h => absurd rfl h
  | d + 1, k, h => by
    unfold tuF at h ⊢
    by_cases e : tPt cls key fr s k = true
    · rw [if_pos e]
      unfold tPt at e
      simp only [Bool.and_eq_true, beq_iff_eq, Bool.not_eq_true', beq_eq_false_iff_ne] at e
      exact ⟨(fr + k) % 6, Nat.mod_lt _ (by omega), rfl, e.1, e.2⟩
    · rw [if_neg e] at h ⊢
      exact tuF_in d (k + 1) h
theorem shC_in {st : St} {key : Nat → Int32} (h : ¬ shC st key = -4) : ∃ c, c < 6 ∧ shC st key = nI c ∧ ¬ memIx (st.2.2 c) key = -4 ∧ ((st.2.2 c).1 0 = 1 ∨ (st.2.2 c).1 0 = 2) := by
  unfold shC at h ⊢
  by_cases e : tuA st.2.2 key (shFr (st.2.1 7) key) 1 = -4
  · rw [if_pos e] at h ⊢
    obtain ⟨c, h1, h2, h3, h4⟩ := tuF_in _ _ h
    exact ⟨c, h1, h2, h4, Or.inr h3⟩
  · rw [if_neg e] at h ⊢
    obtain ⟨c, h1, h2, h3, h4⟩ := tuF_in _ _ e
    exact ⟨c, h1, h2, h4, Or.inl h3⟩
theorem M_so62 {c : Nat} {h : Mem} {st : St} (R : RM (h 391) st) (hd : HdOk (st.2.1 7)) (hc : c < 6) (hm : ¬ memIx (st.2.2 c) (h 398) = -4) (hl : hdIx (st.2.1 7) (h 398) = -4 → (st.2.1 7).length < 36) (l p v : Int32) : Tr (f_X8_sharesOut_62 390 l p v (hdIx (st.2.1 7) (h 398)) (nI c) h) (fun _ h' => RM (h' 391) (A_shGo (sK st 7 (shHad (st.2.1 7) (h 398) (nI c))) (h 398) c l p v) ∧ ∀ a, a ≠ 391 → a ≠ 401 → h' a = h a) := by
  have T := R.2.2.2.1
  have q1 := T.1
  have q2 := T.2.1
  unfold f_X8_sharesOut_62 shHad
  by_cases e : hdIx (st.2.1 7) (h 398) = -4
  · rw [if_pos e, if_pos e]
    have hl2 := hl e
    generalize hn : (st.2.1 7).length = n at q1 hl2
    obtain ⟨z, hz⟩ := xFUs
    simp (disch := omega) only [xr_0, li_7, li_1, al_391, as_391, q1, nI_add]
    rw [hz, li_0]
    unfold f_X8_sharesOut_94
    simp (disch := omega) only [li_5, li_6, li_1, li_92, xr_0, xr_16, nI_leI, if_neg, nI_mul, nI_add, al_398, as_391, mu_rdk, Nat.add_zero, Nat.zero_add]
    unfold f_X8_sharesOut_94
    simp (disch := omega) only [li_5, li_6, li_1, li_92, xr_0, xr_16, nI_leI, if_neg, nI_mul, nI_add, al_398, as_391, mu_rdk, Nat.reduceAdd]
    unfold f_X8_sharesOut_94
    simp (disch := omega) only [li_5, li_6, li_1, li_92, xr_0, xr_16, nI_leI, if_neg, nI_mul, nI_add, al_398, as_391, mu_rdk, Nat.reduceAdd]
    unfold f_X8_sharesOut_94
    simp (disch := omega) only [li_5, li_6, li_1, li_92, xr_0, xr_16, nI_leI, if_neg, nI_mul, nI_add, al_398, as_391, mu_rdk, Nat.reduceAdd]
    unfold f_X8_sharesOut_94
    simp (disch := omega) only [li_5, li_6, li_1, li_92, xr_0, xr_16, nI_leI, if_neg, nI_mul, nI_add, al_398, as_391, mu_rdk, Nat.reduceAdd]
    unfold f_X8_sharesOut_94
    simp (disch := omega) only [li_5, nI_leI, if_pos]
    have R1 : RM (mu (mu (mu (mu (mu (mu h 391 7 (nI (n + 1))) 391 (92 + 6 * n) (h 398 0)) 391 (92 + 6 * n + 1) (h 398 1)) 391 (92 + 6 * n + 2) (h 398 2)) 391 (92 + 6 * n + 3) (h 398 3)) 391 (92 + 6 * n + 4) (h 398 4) 391) (sK st 7 (st.2.1 7 ++ [[h 398 0, h 398 1, h 398 2, h 398 3, h 398 4, h 391 (92 + 6 * n + 5)]])) := by
      refine R.k7 (T.app (by omega) ?_ ?_ ?_) ?_
      · simp (disch := omega) only [mu_rde, mu_rdn, hn]
      · rw [hn]
        exact lt6 (by simp (disch := omega) only [mu_rde, mu_rdn]; rfl) (by simp (disch := omega) only [mu_rde, mu_rdn]; rfl) (by simp (disch := omega) only [mu_rde, mu_rdn]; rfl) (by simp (disch := omega) only [mu_rde, mu_rdn]; rfl) (by simp (disch := omega) only [mu_rde, mu_rdn]; rfl) (by simp (disch := omega) only [mu_rdn]; rfl)
      · rw [hn]
        intro k h1 h2
        simp (disch := omega) only [mu_rdn]
      · intro x h1 h2
        simp (disch := omega) only [mu_rdn]
    have f1 : ∀ a, a ≠ 391 → mu (mu (mu (mu (mu (mu h 391 7 (nI (n + 1))) 391 (92 + 6 * n) (h 398 0)) 391 (92 + 6 * n + 1) (h 398 1)) 391 (92 + 6 * n + 2) (h 398 2)) 391 (92 + 6 * n + 3) (h 398 3)) 391 (92 + 6 * n + 4) (h 398 4) a = h a := fun a ha => by simp (disch := omega) only [mu_ne]
    generalize mu (mu (mu (mu (mu (mu h 391 7 (nI (n + 1))) 391 (92 + 6 * n) (h 398 0)) 391 (92 + 6 * n + 1) (h 398 1)) 391 (92 + 6 * n + 2) (h 398 2)) 391 (92 + 6 * n + 3) (h 398 3)) 391 (92 + 6 * n + 4) (h 398 4) = h1 at R1 f1 ⊢
    have hk7 : (sK st 7 (st.2.1 7 ++ [[h 398 0, h 398 1, h 398 2, h 398 3, h 398 4, h 391 (92 + 6 * n + 5)]])).2.1 7 = st.2.1 7 ++ [[h 398 0, h 398 1, h 398 2, h 398 3, h 398 4, h 391 (92 + 6 * n + 5)]] := sK_eq _ _ _
    have hg : gr (st.2.1 7 ++ [[h 398 0, h 398 1, h 398 2, h 398 3, h 398 4, h 391 (92 + 6 * n + 5)]]) n = [h 398 0, h 398 1, h 398 2, h 398 3, h 398 4, h 391 (92 + 6 * n + 5)] := by rw [← hn]; simp [gr, List.getD]
    have W := M_so129 (i := n) (c := c) R1 hc (by rw [hk7, List.length_append, hn]; exact Nat.lt_succ_self n) (by rw [hk7, hg]; rfl) (by rw [f1 398 (by omega)]; exact hm) l p v
    refine wM W (fun _ h2 P => ⟨?_, fun a g1 g2 => (P.2 a g1 g2).trans (f1 a g1)⟩)
    have P1 := P.1
    rw [hk7, hg, f1 398 (by omega)] at P1
    have e9 : sK (sK st 7 (st.2.1 7 ++ [[h 398 0, h 398 1, h 398 2, h 398 3, h 398 4, h 391 (92 + 6 * n + 5)]])) 7 ((st.2.1 7 ++ [[h 398 0, h 398 1, h 398 2, h 398 3, h 398 4, h 391 (92 + 6 * n + 5)]]).set n ([h 398 0, h 398 1, h 398 2, h 398 3, h 398 4, h 391 (92 + 6 * n + 5)].set 5 (nI c))) = sK st 7 (st.2.1 7 ++ [[h 398 0, h 398 1, h 398 2, h 398 3, h 398 4, nI c]]) := by
      have e10 : (st.2.1 7 ++ [[h 398 0, h 398 1, h 398 2, h 398 3, h 398 4, h 391 (92 + 6 * n + 5)]]).set n ([h 398 0, h 398 1, h 398 2, h 398 3, h 398 4, h 391 (92 + 6 * n + 5)].set 5 (nI c)) = st.2.1 7 ++ [[h 398 0, h 398 1, h 398 2, h 398 3, h 398 4, nI c]] := by
        rw [← hn]
        simp
      rw [e10]
      simp only [sK]
      congr 2
      funext z
      simp only [ud]
      split <;> rfl
    rw [e9] at P1
    exact P1
  · rw [if_neg e, if_neg e]
    unfold hdIx at e ⊢
    rcases sIx_spec (-4) (hPt (st.2.1 7) (h 398)) (st.2.1 7).length 0 with ⟨e2, -⟩ | ⟨j, h1, h2, h3, h4, h5⟩
    · exact absurd e2 e
    · rw [h3, nI_clamp (by omega)]
      have hj : j < (st.2.1 7).length := by omega
      exact M_so129 R hc hj (hd _ (by simp [gr, List.getD, List.getElem?_eq_getElem hj])).1 hm l p v
theorem M_sharesOut {h : Mem} {st : St} (R : RM (h 391) st) (hd : HdOk (st.2.1 7)) (hm : ¬ shC st (h 398) = -4) (hl : hdIx (st.2.1 7) (h 398) = -4 → (st.2.1 7).length < 36) (l p v : Int32) : Tr (f_X8_sharesOut 390 l p v h) (fun _ h' => RM (h' 391) (A_shOut st (h 398) l p v) ∧ ∀ a, a ≠ 391 → a ≠ 401 → h' a = h a) := by
  have T := R.2.2.2.1
  have q2 := T.2.1
  have RAh : RA h st.2.2 := R.2.2.2.2
  have key : ∀ (fr : Nat), fr < 6 → fr = shFr (st.2.1 7) (h 398) → Tr (f_X8_sharesOut_32 390 l p v (hdIx (st.2.1 7) (h 398)) (nI fr) h) (fun _ h' => RM (h' 391) (A_shOut st (h 398) l p v) ∧ ∀ a, a ≠ 391 → a ≠ 401 → h' a = h a) := by
    intro fr hfr efr
    unfold f_X8_sharesOut_32
    obtain ⟨h1, e1, f1⟩ := M_turnOf hfr 1 RAh
    obtain ⟨c, c1, c2, c3, c4⟩ := shC_in hm
    rw [e1, b2_some]
    unfold A_shOut
    have fin : ∀ h2 : Mem, (∀ a, a ≠ 401 → h2 a = h a) → Tr (f_X8_sharesOut_62 390 l p v (hdIx (st.2.1 7) (h 398)) (nI c) h2) (fun _ h' => RM (h' 391) (A_shGo (sK st 7 (shHad (st.2.1 7) (h 398) (nI c))) (h 398) c l p v) ∧ ∀ a, a ≠ 391 → a ≠ 401 → h' a = h a) := by
      intro h2 f2
      have e398 := f2 398 (by omega)
      have z := M_so62 (h := h2) (c := c) (st := st) (by rw [f2 391 (by omega)]; exact R) hd c1 (by rw [e398]; exact c3) (by rw [e398]; exact hl) l p v
      rw [e398] at z
      exact wM z (fun _ h3 P => ⟨P.1, fun a g1 g2 => (P.2 a g1 g2).trans (f2 a g2)⟩)
    rw [c2, nI_clamp (by omega)]
    unfold shC at c2
    rw [← efr] at c2
    by_cases e : tuA st.2.2 (h 398) fr 1 = -4
    · rw [if_pos e] at c2
      rw [if_pos e]
      obtain ⟨h2, e2, f2⟩ := M_turnOf (h := h1) hfr 2 (cls := st.2.2) (fun i hi => by rw [f1 391 (by omega)]; exact RAh i hi)
      rw [f1 398 (by omega)] at e2
      rw [show (2 : Int32) = 2 from rfl, e2, b2_some, c2]
      exact fin h2 (fun a ha => (f2 a ha).trans (f1 a ha))
    · rw [if_neg e] at c2
      rw [if_neg e, c2]
      exact fin h1 f1
  unfold f_X8_sharesOut
  rw [M_hadOf T, b2_some]
  by_cases e : hdIx (st.2.1 7) (h 398) = -4
  · rw [if_pos e, li_5]
    exact key 5 (by omega) (by unfold shFr; rw [if_pos e])
  · rw [if_neg e]
    have e0 := e
    have hF : shFr (st.2.1 7) (h 398) = (g5 (gr (st.2.1 7) (hdIx (st.2.1 7) (h 398)).toNatClampNeg) 5).toNatClampNeg := by unfold shFr; rw [if_neg e]
    unfold hdIx at e hF
    rcases sIx_spec (-4) (hPt (st.2.1 7) (h 398)) (st.2.1 7).length 0 with ⟨e2, -⟩ | ⟨j, h1, h2, h3, h4, h5⟩
    · exact absurd e2 e
    · rw [h3, nI_clamp (by omega)] at hF
      have hj : j < (st.2.1 7).length := by omega
      obtain ⟨-, f, hf1, hf2⟩ := hd (gr (st.2.1 7) j) (by simp [gr, List.getD, List.getElem?_eq_getElem hj])
      have hx : hdIx (st.2.1 7) (h 398) = nI j := h3
      have r5 := T.2.2 j 5 hj (by omega)
      have K := key f hf1 (by rw [hF, hf2, nI_clamp (by omega)])
      rw [hx] at K ⊢
      simp (disch := omega) only [xr_0, li_92, li_6, li_5, nI_mul, nI_add, al_391, r5, hf2]
      exact K
