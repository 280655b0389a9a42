/-! the class: a letter is said -/
def KpV (r : List Int32) : Prop := PV 26 (g5 r) ∧ (g5 r 5 = 0 ∨ g5 r 5 = 1 ∨ g5 r 5 = 2)
def KpW (st : St) : Prop := ∀ r ∈ st.2.1 6, KpV r
theorem C_gse6 {b : Nat} {t : Nat → Int32} (W : WK b) (ht : PV 26 t) (l p v : Int32) : ∀ (d c n : Nat) (st : St) (h : Mem) (a : Int32), c + d = 6 → d < n → RWd h b st → SbW st → SLt st → Tr (f_X6_goToSessions_6 n b (pth (lvO t)) v p l a (nI c) h) (fun r h' => r = a + (wnt (A_ses t l p v d c st) - wnt st) ∧ RWd h' b (A_ses t l p v d c st) ∧ SLt (A_ses t l p v d c st) ∧ FrW b h h') := by
  intro d
  induction d with
  | zero =>
    intro c n st h a h1 h2 R S L
    obtain ⟨n, rfl⟩ : ∃ z, n = z + 1 := ⟨n - 1, by omega⟩
    unfold f_X6_goToSessions_6
    rw [if_pos (by rw [li_6, nI_leI (by omega) (by omega)]; omega)]
    exact wR ⟨(xz_add _ _).symm, R, L, FrW.rf⟩
  | succ d ih =>
    intro c n st h a h1 h2 R S L
    obtain ⟨n, rfl⟩ : ∃ z, n = z + 1 := ⟨n - 1, by omega⟩
    have hc : c < 6 := by omega
    have K := (W.2.2.2.1 c hc).2.2
    have Rc := R.2.2.2 c hc
    have gp := C_great K Rc (S c hc).1 ht
    unfold f_X6_goToSessions_6 A_ses f_X6_goToSessions_54
    rw [if_neg (by rw [li_6, nI_leI (by omega) (by omega)]; omega), W.1.1, wcl W hc, gp.1, b2_some, show nI c + 1 = nI (c + 1) by rw [li_1, nI_add], wcl W hc]
    have skip : A_se1 t l p v (st.2.2 c) = st.2.2 c → Tr (f_X6_goToSessions_6 n b (pth (lvO t)) v p l a (nI (c + 1)) h) (fun r h' => r = a + (wnt (A_ses t l p v d (c + 1) (sC st c (A_se1 t l p v (st.2.2 c)))) - wnt st) ∧ RWd h' b (A_ses t l p v d (c + 1) (sC st c (A_se1 t l p v (st.2.2 c)))) ∧ SLt (A_ses t l p v d (c + 1) (sC st c (A_se1 t l p v (st.2.2 c)))) ∧ FrW b h h') := by
      intro e
      rw [e, sC_self]
      exact ih (c + 1) n st h a (by omega) (by omega) R S L
    by_cases w4 : wdA (st.2.2 c) t = -4
    · rw [w4, if_pos (show cvg (-4) < 0 by decide)]
      refine skip ?_
      unfold A_se1
      rw [if_pos (Or.inr w4)]
    · have ec : cvg (wdA (st.2.2 c) t) = wdA (st.2.2 c) t := by
        unfold cvg
        rw [if_neg w4]
      have nn : ¬ wdA (st.2.2 c) t < 0 := by
        rcases gp.2 with q | q | q | q
        · exact absurd q w4
        · rw [q]; decide
        · rw [q]; decide
        · rw [q]; decide
      have s0 : ¬ (st.2.2 c).1 0 = 0 := by
        intro q
        refine w4 ?_
        unfold wdA
        rw [(S c hc).2 q]
        rfl
      have e1 : A_se1 t l p v (st.2.2 c) = A_goes (st.2.2 c) l (lsr p (wdA (st.2.2 c) t)) v 0 := by
        unfold A_se1
        rw [if_neg (fun q => q.elim s0 w4)]
      rw [ec, if_neg nn, xmin_lsr, e1]
      refine wB (C_receive K Rc (L c hc) l _ v 0 (Or.inl rfl)) (fun _ g P => ?_)
      have R2 := R.cl hc P.1 P.2
      have ss := SS_se1 st c t l p v
      rw [e1] at ss
      refine wM (ih (c + 1) n _ g (a + 1) (by omega) (by omega) R2 (S.ss ss) (L.goes c _ _ _ _)) (fun r g2 Q => ⟨?_, Q.2.1, Q.2.2.1, (P.2.w hc).tr Q.2.2.2⟩)
      rw [Q.1, wnt_goes hc]
      grind
theorem A_ses_k {t : Nat → Int32} {l p v : Int32} : ∀ (d c : Nat) (st : St), (A_ses t l p v d c st).2.1 = st.2.1 ∧ (A_ses t l p v d c st).1 = st.1
  | 0, _, _ => ⟨rfl, rfl⟩
  | d + 1, c, st => by
    unfold A_ses
    have z := A_ses_k (t := t) (l := l) (p := p) (v := v) d (c + 1) (sC st c (A_se1 t l p v (st.2.2 c)))
    exact ⟨z.1, z.2⟩
theorem RWd.len6 {h : Mem} {b : Nat} {st : St} (R : RWd h b st) : (st.2.1 6).length ≤ 12 := by
  have := R.2.1.2.2.2.1
  rwa [List.length_map] at this
theorem kt_fnd {rows : List (List Int32)} {t : Nat → Int32} (hl : rows.length ≤ 12) (V : ∀ r ∈ rows, KpV r) (ht : PV 26 t) : (fnd (rows.map kmR) 0 (pth (lvO t)) = -1 ∧ ktIx rows t = -4) ∨ ∃ j, j < rows.length ∧ fnd (rows.map kmR) 0 (pth (lvO t)) = nI j ∧ ktIx rows t = nI j := by
  have e : fnd (rows.map kmR) 0 (pth (lvO t)) = sIx (-1) (kPt rows t) rows.length 0 := by
    unfold fnd
    rw [List.length_map]
    refine sIx_cgr _ _ (fun j _ hj => ?_)
    have hj' : j < rows.length := by omega
    rw [gr_map hj']
    have v := V _ (gr_mem hj')
    have iff := pth_same v.1 ht (by omega) (by omega)
    show (pth (lvO (g5 (gr rows j))) == pth (lvO t)) = sm4 (g5 (gr rows j)) 0 t
    by_cases q : pth (lvO (g5 (gr rows j))) = pth (lvO t)
    · rw [iff.mp q, q]
      simp
    · have q2 : sm4 (g5 (gr rows j)) 0 t = false := by
        cases y : sm4 (g5 (gr rows j)) 0 t with
        | false => rfl
        | true => exact absurd (iff.mpr y) q
      rw [q2, beq_eq_false_iff_ne]
      exact q
  rw [e]
  unfold ktIx
  rcases sIx_two (P := kPt rows t) (d := rows.length) (k := 0) (by omega) with q | ⟨j, -, h2, h3, h4, -⟩
  · exact Or.inl q
  · exact Or.inr ⟨j, by omega, h3, h4⟩
theorem km_new (s : Nat → Int32) (v p l : Int32) : kmR [s 0, s 1, s 2, s 3, v, p, l] = [pth (lvO s), v, p, l] := by
  have q : pth (lvR [s 0, s 1, s 2, s 3, v, p, l]) = pth (lvO s) := by
    refine pth_c (fun j hj => ?_)
    rcases (show j = 0 ∨ j = 1 ∨ j = 2 ∨ j = 3 by omega) with rfl | rfl | rfl | rfl <;> rfl
  unfold kmR
  rw [q]
  rfl
theorem C_ak18 {h : Mem} {b : Nat} {st : St} (W : WK b) (R : RWd h b st) (hl : (st.2.1 6).length < 12) (t : Nat → Int32) (v p l : Int32) : Tr (f_X6_addKept_18 b (pth (lvO t)) v p l h) (fun _ h' => RWd h' b (sK st 6 (st.2.1 6 ++ [[t 0, t 1, t 2, t 3, v, p, l]])) ∧ FrW b h h') := by
  have I := W.2.1.1
  have T := R.2.1
  unfold f_X6_addKept_18
  rw [W.1.2.1]
  refine wB (C_open I T (by rw [List.length_map]; exact hl)) (fun r g0 P0 => ?_)
  rw [P0.1]
  refine wB (C_putL (j := 0) I P0.2.1 (by omega) rfl _) (fun _ g1 P1 => ?_)
  refine wB (C_putL (j := 1) I P1.1 (by omega) rfl v) (fun _ g2 P2 => ?_)
  refine wB (C_putL (j := 2) I P2.1 (by omega) rfl p) (fun _ g3 P3 => ?_)
  refine wB (C_putL (j := 3) I P3.1 (by omega) rfl l) (fun _ g4 P4 => ?_)
  have f := (((P0.2.2.tr P1.2).tr P2.2).tr P3.2).tr P4.2
  refine wR ⟨R.k6 ?_ f, f.w (i := 2) (by omega)⟩
  have q : (st.2.1 6 ++ [[t 0, t 1, t 2, t 3, v, p, l]]).map kmR = (st.2.1 6).map kmR ++ [[pth (lvO t), v, p, l]] := by
    rw [List.map_append, List.map_singleton, km_new]
  rw [q]
  exact P4.1
theorem C_addKept {h : Mem} {b : Nat} {st : St} (W : WK b) (R : RWd h b st) (t : Nat → Int32) (v p l : Int32) : Tr (f_X6_addKept b (pth (lvO t)) v p l h) (fun _ h' => RWd h' b (sK st 6 (A_kput (st.2.1 6) [t 0, t 1, t 2, t 3, v, p, l])) ∧ FrW b h h') := by
  have I := W.2.1.1
  have T := R.2.1
  have l12 := R.len6
  unfold f_X6_addKept A_kput
  rw [W.1.2.1, C_isFull I T, b2_some, List.length_map]
  by_cases hl : (st.2.1 6).length < 12
  · rw [if_pos hl, if_pos rfl, if_neg (by omega)]
    exact C_ak18 W R hl t v p l
  · rw [if_neg hl, if_neg (by decide), if_pos (by omega)]
    refine wB (C_remove (i := 0) I T (by rw [List.length_map]; omega)) (fun _ g P => ?_)
    have D := P.1
    rw [er_map] at D
    have R1 := R.k6 D P.2
    have z := C_ak18 W R1 (by rw [sK_eq, List.length_eraseIdx, if_pos (by omega)]; omega) t v p l
    refine wM z (fun _ g2 Q => ⟨?_, (P.2.w (i := 2) (by omega)).tr Q.2⟩)
    have q := Q.1
    rw [sK_eq, sK_sK] at q
    exact q
theorem C_u55 {h : Mem} {b : Nat} {st : St} {t : Nat → Int32} (W : WK b) (ht : PV 26 t) (R : RWd h b st) (S : SbW st) (H : HdV st) (O : ShOk st) (L : SLt st) (l p v : Int32) : Tr (f_X6_utter_55 b (pth (lvO t)) v p l h) (fun r h' => r = wnt (A_shL t l p v shN (A_ses t l p v 6 0 st) (fun _ => 0)) - wnt st ∧ RWd h' b (A_shL t l p v shN (A_ses t l p v 6 0 st) (fun _ => 0)) ∧ FrW b h h') := by
  unfold f_X6_utter_55 f_X6_goToSessions
  refine wB (C_gse6 W ht l p v 6 0 xFU st h 0 (by omega) (by unfold xFU; omega) R S L) (fun r1 g1 P1 => ?_)
  have so := ShOk_ses (t := t) (l := l) (p := p) (v := v) 6 0 st O
  have ek := A_ses_k (t := t) (l := l) (p := p) (v := v) 6 0 st
  have H1 : HdV (A_ses t l p v 6 0 st) := by
    unfold HdV
    rw [ek.1]
    exact H
  refine wB (C_goToShares W ht P1.2.1 (S.ss so.2) H1 so.1 P1.2.2.1 l p v) (fun r2 g2 P2 => wR ⟨?_, P2.2.1, P1.2.2.2.tr P2.2.2⟩)
  rw [P1.1, P2.1]
  grind
/-- the letter is said -/
theorem C_utter {h : Mem} {b : Nat} {st : St} {t : Nat → Int32} (W : WK b) (ht : PV 26 t) (R : RWd h b st) (S : SbW st) (H : HdV st) (O : ShOk st) (L : SLt st) (V : KpW st) (v p k : Int32) (hk : k = 0 ∨ k = 1) : Tr (f_X6_utter b (pth (lvO t)) v p k h) (fun r h' => r = wnt (A_says st t v p k) - wnt st ∧ RWd h' b (A_says st t v p k) ∧ FrW b h h') := by
  have hs := A_keep_ss st t v p k
  have fin : ∀ g, RWd g b (A_keep st t v p k) → FrW b h g → Tr (f_X6_utter_55 b (pth (lvO t)) v p (st.1 1) g) (fun r h' => r = wnt (A_says st t v p k) - wnt st ∧ RWd h' b (A_says st t v p k) ∧ FrW b h h') := by
    intro g Rg fg
    have S' : SbW (A_keep st t v p k) := fun c hc => by rw [hs.1]; exact S c hc
    have H' : HdV (A_keep st t v p k) := by unfold HdV; rw [hs.2]; exact H
    have L' : SLt (A_keep st t v p k) := fun c hc => by rw [hs.1]; exact L c hc
    have O' : ShOk (A_keep st t v p k) := O.ss (fun c => by rw [hs.1]; exact ⟨rfl, rfl⟩) hs.2
    have w' : wnt (A_keep st t v p k) = wnt st := by unfold wnt; rw [hs.1]
    refine wM (C_u55 W ht Rg S' H' O' L' (st.1 1) p v) (fun r g2 P => ⟨?_, P.2.1, fg.tr P.2.2⟩)
    rw [P.1, w']
    rfl
  have R1 : RWd (mu h b 4 (h b 4 + 1)) b (sG st 1 (st.1 1 + 1)) := by
    have z := R.g (k := 1) (v := st.1 1 + 1) (by omega)
    rw [R.1.2]
    exact z
  have f1 : FrW b h (mu h b 4 (h b 4 + 1)) := fun a ha => mu_ne (by omega)
  unfold f_X6_utter f_X6_utter_37
  rw [mlet_eq, R.1.2] at *
  generalize mu h b 4 (st.1 1 + 1) = g at R1 f1 ⊢
  rcases hk with rfl | rfl
  · rw [if_pos rfl, if_pos rfl]
    refine fin g ?_ f1
    unfold A_keep
    rw [if_neg (by decide)]
    exact R1
  · have n1 : ¬ (1 : Int32) = 0 := by decide
    rw [if_neg n1]
    have I := W.2.1.1
    have T := R1.2.1
    have l12 := R1.len6
    have e6 : (sG st 1 (st.1 1 + 1)).2.1 6 = st.2.1 6 := rfl
    have z := C_find (j := 0) I T (by omega) (pth (lvO t))
    rw [W.1.2.1, show f_X3_find (b + 2) 0 (pth (lvO t)) g = _ from z, b2_some]
    have rem : Tr (f_X3_remove (b + 2) (fnd ((st.2.1 6).map kmR) 0 (pth (lvO t))) g) (fun _ g' => RWd g' b (sK (sG st 1 (st.1 1 + 1)) 6 (A_kdel (st.2.1 6) t)) ∧ FrW b g g') := by
      unfold A_kdel
      rcases kt_fnd l12 V ht with ⟨e1, e2⟩ | ⟨j, hj, e1, e2⟩
      · have e1' : fnd ((st.2.1 6).map kmR) 0 (pth (lvO t)) = -1 := e1
        have e2' : ktIx (st.2.1 6) t = -4 := e2
        rw [e1', e2', C_removeN, if_pos rfl]
        refine wR ⟨?_, FrW.rf⟩
        rw [← e6, sK_self]
        exact R1
      · have e1' : fnd ((st.2.1 6).map kmR) 0 (pth (lvO t)) = nI j := e1
        have e2' : ktIx (st.2.1 6) t = nI j := e2
        have hj' : j < (st.2.1 6).length := hj
        have l12' : (st.2.1 6).length ≤ 12 := l12
        rw [e1', e2', if_neg (nI_ne4 (by omega)), nI_clamp (by omega)]
        refine wM (C_remove (i := j) I T (by rw [List.length_map]; exact hj)) (fun _ g2 P => ⟨?_, P.2.w (i := 2) (by omega)⟩)
        have D := P.1
        rw [er_map] at D
        exact R1.k6 D P.2
    refine wB rem (fun _ g2 P => ?_)
    rw [if_neg n1]
    by_cases hv : v ≤ 0
    · rw [if_pos hv]
      refine fin g2 ?_ (f1.tr P.2)
      unfold A_keep A_keeps
      rw [if_pos rfl, if_pos hv]
      exact P.1
    · rw [if_neg hv]
      refine wB (C_addKept W P.1 t v p (st.1 1)) (fun _ g3 Q => fin g3 ?_ ((f1.tr P.2).tr Q.2))
      unfold A_keep A_keeps
      rw [if_pos rfl, if_neg hv]
      have q := Q.1
      rw [sK_eq, sK_sK] at q
      exact q
