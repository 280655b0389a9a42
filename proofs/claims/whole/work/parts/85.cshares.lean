/-! the class: a letter goes to the shares -/
def SLt (st : St) : Prop := ∀ c, c < 6 → LtOk (st.2.2 c)
theorem LtOk.goes {cl : Cl} (ok : LtOk cl) (l p v k : Int32) : LtOk (A_goes cl l p v k) := by
  unfold A_goes
  have e0 : (sS cl 50 (cl.1 50 + 1)).1 0 = cl.1 0 := sS_ne (by omega)
  have ok1 : LtOk (sS cl 50 (cl.1 50 + 1)) := by
    unfold LtOk
    rw [e0]
    exact ok
  generalize sS cl 50 (cl.1 50 + 1) = cl1 at ok1 ⊢
  obtain ⟨o1, o2⟩ := ok1
  unfold A_goes1
  split
  · split
    · unfold LtOk
      rw [A_pd_ne (by omega), A_pd_ne (by omega), A_pd_1]
      exact ⟨o1, o2⟩
    · exact ⟨o1, o2⟩
  · split
    · rename_i q
      unfold LtOk
      rw [A_flies_4, A_flies_ne (by omega) (by omega), A_flies_1 (by omega), q.2.1]
      refine ⟨?_, fun _ => Or.inl rfl⟩
      rw [List.length_append]
      simp
      omega
    · rename_i q
      split
      · unfold LtOk
        rw [sT_eq, sT_ne (by omega), sT_1]
        refine ⟨o1, fun e => Or.inr (fun z => ?_)⟩
        rcases o2 e with y | y
        · exact q ⟨e, y, z⟩
        · exact y z
      · exact ⟨o1, o2⟩
theorem A_goes_50 (cl : Cl) (l p v k : Int32) : (A_goes cl l p v k).1 50 = cl.1 50 + 1 := by
  unfold A_goes
  have e0 : (sS cl 50 (cl.1 50 + 1)).1 50 = cl.1 50 + 1 := sS_eq _ _ _
  refine Eq.trans ?_ e0
  generalize sS cl 50 (cl.1 50 + 1) = cl1
  unfold A_goes1
  split
  · split
    · rw [A_pd_1]
    · exact sS_ne (by omega)
  · split
    · rw [A_flies_1 (by omega)]
    · split
      · rfl
      · exact sS_ne (by omega)
theorem wnt_sC {st : St} {c : Nat} (hc : c < 6) (cl : Cl) : wnt (sC st c cl) = wnt st + (cl.1 50 - (st.2.2 c).1 50) := by
  unfold wnt
  rw [← sm6_ud hc (fun i => (st.2.2 i).1 50)]
  congr 1
  funext i
  by_cases e : i = c
  · subst e
    rw [sC_eq, ud_eq]
  · rw [sC_ne e, ud_ne e]
theorem wnt_goes {st : St} {c : Nat} (hc : c < 6) (l p v k : Int32) : wnt (sC st c (A_goes (st.2.2 c) l p v k)) = wnt st + 1 := by
  rw [wnt_sC hc, A_goes_50]
  exact (xz_one _ _).symm
theorem SLt.goes {st : St} (S : SLt st) (c : Nat) (l p v k : Int32) : SLt (sC st c (A_goes (st.2.2 c) l p v k)) := by
  intro d hd
  by_cases e : d = c
  · subst e
    rw [sC_eq]
    exact (S d hd).goes l p v k
  · rw [sC_ne e]
    exact S d hd
theorem PV.match2 {a b : Nat} {f t : Nat → Int32} {h : Mem} (hf : PV a f) (ht : PV b t) (ha : a ≤ 28) (hb : b ≤ 26) : f_X1_matches (pth (lvO f)) (pth (lvO t)) h = some (bI (mtc f 0 t), h) := by
  rw [C_matches (hf.l5 ha) (ht.l5 (by omega)), cmF_mtF hf.2.2 ht.2.2 (hf.l5 ha) (ht.l5 (by omega)) hf.zt ht.zt (fun j _ => Nat.le_trans (ht.2.1 j) hb) 4 0 rfl]
  rfl
theorem mem_row {cl : Cl} {k t : Nat → Int32} (hl : (cl.2 3).length ≤ 6) (h : ¬ memIx cl k = -4) : mtr (gr (cl.2 3) (memIx cl k).toNatClampNeg) t = mtc (fun j => k (1 + j)) 0 t := by
  obtain ⟨j, hj, e, q⟩ := memIx_in h
  rw [e, nI_clamp (by omega)]
  unfold sP at q
  rw [Bool.and_eq_true] at q
  have z := sm4_iff.mp q.1
  exact mtF_congr 4 0 (fun i _ hi => ⟨by have := z i (by omega); rw [Nat.zero_add] at this ⊢; exact this, rfl⟩)
theorem ism_eq {cls : Nat → Cl} {k t : Nat → Int32} (hl : ∀ c, c < 6 → ((cls c).2 3).length ≤ 6) : ∀ (d c i : Nat), c + d ≤ 6 → c ≤ i → i < c + d → ¬ memIx (cls i) k = -4 → ismF cls k t d c = mtc (fun j => k (1 + j)) 0 t
  | 0, c, i, _, h1, h2, _ => by omega
  | d + 1, c, i, h0, h1, h2, hm => by
    unfold ismF
    by_cases e : memIx (cls c) k = -4
    · rw [if_pos e]
      have : i ≠ c := fun q => hm (by rw [q]; exact e)
      exact ism_eq hl d (c + 1) i (by omega) (by omega) (by omega) hm
    · rw [if_neg e]
      exact mem_row (hl c (by omega)) e
theorem SbW.ss {st st' : St} (S : SbW st) (h : SS st'.2.2 st.2.2) : SbW st' := fun c hc => by
  rw [(h c).1, (h c).2]
  exact S c hc
theorem KV.set5 {r : List Int32} (h : KV (g5 r)) (x : Int32) : KV (g5 (r.set 5 x)) := h.cgr (fun j hj => by
  unfold g5
  rw [List.getD, List.getD, List.getElem?_set_ne (by omega)])
theorem HdV.had {rows : List (List Int32)} {k : Nat → Int32} (h : ∀ r ∈ rows, KV (g5 r)) (hk : KV k) (hl : rows.length ≤ 36) (x : Int32) : ∀ r ∈ shHad rows k x, KV (g5 r) := by
  unfold shHad
  split
  · intro r hr
    rcases List.mem_append.mp hr with q | q
    · exact h r q
    · rw [List.mem_singleton] at q
      subst q
      refine hk.cgr (fun j hj => ?_)
      rcases (show j = 0 ∨ j = 1 ∨ j = 2 ∨ j = 3 ∨ j = 4 by omega) with rfl | rfl | rfl | rfl | rfl <;> rfl
  · rename_i q
    rcases sIx_two (P := hPt rows k) (d := rows.length) (k := 0) (by omega) with y | ⟨j, -, h2, -, h4, -⟩
    · exact absurd y.2 q
    · have h4' : hdIx rows k = nI j := h4
      intro r hr
      rw [h4', nI_clamp (by omega)] at hr
      rcases List.mem_or_eq_of_mem_set hr with z | z
      · exact h r z
      · rw [z]
        exact (h _ (gr_mem (by omega))).set5 x
theorem xmin_lsr (a b : Int32) : xmin a b = lsr a b := by
  unfold xmin lsr
  by_cases h : b < a
  · rw [if_pos h, if_pos (Int32.le_of_lt h)]
  · rw [if_neg h]
    by_cases e : b ≤ a
    · rw [if_pos e]
      rcases Int32.lt_or_eq_of_le e with q | q
      · exact absurd q h
      · exact q.symm
    · rw [if_neg e]
theorem tg_0 {β : Type} {k : Nat} {o : Option β} (h : xkd k = 0) (hk : k < 390) : tg 0 k o = o := by
  unfold tg
  have e : xNC = 405 := by decide +kernel
  rw [if_pos ⟨by omega, h⟩]
theorem C_gs13 {b : Nat} {t : Nat → Int32} (W : WK b) (ht : PV 26 t) (l p v : Int32) : ∀ (m n i : Nat) (st : St) (k : Nat → Int32) (h : Mem) (a : Int32), KV k → cntS st.2.2 k < m → m < n → cntS st.2.2 k + i ≤ 36 → RWd h b st → SbW st → HdV st → ShOk st → SLt st → Tr (f_X6_goToShares_13 n b (pth (lvO t)) v p l a (lsN (nsA st.2.2 k)) (nI i) h) (fun r h' => r = a + (wnt (A_shL t l p v m st k) - wnt st) ∧ RWd h' b (A_shL t l p v m st k) ∧ FrW b h h') := by
  intro m
  induction m with
  | zero =>
    intro n i st k h a hk h1
    omega
  | succ m ih =>
    intro n i st k h a hk h1 h2 h3 R S H O L
    obtain ⟨n, rfl⟩ : ∃ z, n = z + 1 := ⟨n - 1, by omega⟩
    have bz := C_behind W R S hk
    unfold f_X6_goToShares_13 A_shL
    cases hs : (nsA st.2.2 k).1 with
    | false =>
      have e0 := (lsN_0 bz.2).mpr hs
      rw [e0, if_neg (show ¬ false = true by decide), if_pos (show (0 : Int32) ≤ 0 by decide)]
      have fin : Tr (some (a, h)) (fun r h' => r = a + (wnt st - wnt st) ∧ RWd h' b st ∧ FrW b h h') := wR ⟨(xz_add _ _).symm, R, FrW.rf⟩
      split
      · exact fin
      · exact fin
    | true =>
      obtain ⟨r, r1, r2, r3, r4⟩ := nsA_inv hs
      have lt := cntS_lt hs
      have w := bz.2 hs
      have el : lsN (nsA st.2.2 k) = nI (keyN (nsA st.2.2 k).2) := by
        unfold lsN
        rw [if_pos hs]
      have kl := w.1.lt
      have li36 : (36 : Int32) = nI 36 := by decide +kernel
      rw [if_pos rfl, if_neg (by rw [li36, nI_leI (by omega) (by omega)]; omega), el, if_neg (by rw [li_0, nI_leI (by omega) (by omega)]; omega)]
      generalize (nsA st.2.2 k).2 = k2 at r2 lt w kl ⊢
      obtain ⟨g, hg, eg, ng, lg⟩ := w.1.n
      have ff : f_X1_filterOf (nI (keyN k2)) h = some (pth (lvO (fun j => k2 (1 + j))), h) := by
        rw [ng, C_filterOf hg lg]
        rfl
      have who := O.who r1
      have room := O.room r1
      rw [← r2] at who room
      obtain ⟨c0, c0h, c0e, c0m, -⟩ := shC_in who
      have im : ismF st.2.2 k2 t 6 0 = mtc (fun j => k2 (1 + j)) 0 t := ism_eq (fun c hc => (R.2.2.2 c hc).len3) 6 0 c0 (by omega) (by omega) (by omega) c0m
      rw [ff, b2_some, w.1.2.match2 ht (by omega) (by omega), b2_some, im]
      unfold f_X6_goToShares_81
      rw [show nI i + 1 = nI (i + 1) by rw [li_1, nI_add]]
      cases hm : mtc (fun j => k2 (1 + j)) 0 t with
      | false =>
        rw [if_pos (show bI false = 0 from rfl), if_neg (show ¬ false = true by decide), (C_behind W R S w.1).1, b2_some]
        exact ih n (i + 1) st k2 h a w.1 (by omega) (by omega) (by omega) R S H O L
      | true =>
        rw [if_neg (show ¬ bI true = 0 by decide), if_pos rfl]
        obtain ⟨c, hc, ec, hmm, nx⟩ := C_nextMember W R S H O w.1 who room
        refine wB nx (fun q g1 P1 => ?_)
        have hK := W.2.2.2.1 c hc
        have hb := W.2.2.2.2
        rw [P1.1, tg_0 hK.2.1 (by omega)]
        have R1 := P1.2.1
        have Rc : RK g1 (b + 6 + 15 * c) (st.2.2 c) := R1.2.2.2 c hc
        have Sc := S c hc
        have l3 := Rc.len3
        rw [C_findShare hK.2.2 Rc Sc.1 w.1, b2_some, hK.2.2.1.1]
        rcases mem_fs (k := k2) Sc.2 l3 with ⟨-, e2⟩ | ⟨j, hj, e1, e2, -, -⟩
        · exact absurd e2 hmm
        · have cl1 : f_X3_cell (b + 6 + 15 * c + 1) (nI j) 1 g1 = some (g5 (gr ((st.2.2 c).2 3) j) 4, g1) := by
            have y := C_cell (i := j) (j := 1) hK.2.2.2.1.1 Rc.2.1 (by rw [List.length_map]; exact hj) (by omega)
            rw [gr_map hj] at y
            exact y
          rw [e1, cl1, b2_some, xmin_lsr]
          refine wB (C_receive hK.2.2 Rc (L c hc) l _ v 0 (Or.inl rfl)) (fun _ g2 P2 => ?_)
          have R2 : RWd g2 b (A_shOut st k2 l p v) := by
            have z := R1.cl hc P2.1 P2.2
            unfold A_shOut A_shGo
            rw [ec, nI_clamp (by omega)]
            show RWd g2 b (sC (sK st 7 (shHad (st.2.1 7) k2 (nI c))) c (A_goes (st.2.2 c) l (lsr p (g5 (gr ((st.2.2 c).2 3) (memIx (st.2.2 c) k2).toNatClampNeg) 4)) v 0))
            rw [e2, nI_clamp (by omega)]
            exact z
          have ss := SS_out st k2 l p v
          have O2 : ShOk (A_shOut st k2 l p v) := by rw [r2]; exact O.out r1 l p v
          have H2 : HdV (A_shOut st k2 l p v) := by
            have e7 : (A_shOut st k2 l p v).2.1 7 = shHad (st.2.1 7) k2 (shC st k2) := by
              unfold A_shOut A_shGo
              exact sK_eq st 7 _
            unfold HdV
            rw [e7]
            exact HdV.had H w.1 R.len7 _
          have eo : A_shOut st k2 l p v = sC (sK st 7 (shHad (st.2.1 7) k2 (shC st k2))) c (A_goes (st.2.2 c) l (lsr p (g5 (gr ((st.2.2 c).2 3) (memIx (st.2.2 c) k2).toNatClampNeg) 4)) v 0) := by
            unfold A_shOut A_shGo
            rw [ec, nI_clamp (by omega)]
            rfl
          have L2 : SLt (A_shOut st k2 l p v) := by
            rw [eo]
            exact SLt.goes (st := sK st 7 (shHad (st.2.1 7) k2 (shC st k2))) L c _ _ _ _
          have w2 : wnt (A_shOut st k2 l p v) = wnt st + 1 := by
            rw [eo]
            exact wnt_goes (st := sK st 7 (shHad (st.2.1 7) k2 (shC st k2))) hc _ _ _ _
          have S2 := S.ss ss
          rw [(C_behind W R2 S2 w.1).1, b2_some]
          have cc := ss.cnt k2
          refine wM (ih n (i + 1) (A_shOut st k2 l p v) k2 g2 (a + 1) w.1 (by rw [cc]; omega) (by omega) (by rw [cc]; omega) R2 S2 H2 O2 L2) (fun r' g3 P3 => ⟨?_, P3.2.1, (P1.2.2.tr (P2.2.w hc)).tr P3.2.2⟩)
          rw [P3.1, w2]
          grind
theorem C_goToShares {h : Mem} {b : Nat} {st : St} {t : Nat → Int32} (W : WK b) (ht : PV 26 t) (R : RWd h b st) (S : SbW st) (H : HdV st) (O : ShOk st) (L : SLt st) (l p v : Int32) : Tr (f_X6_goToShares b (pth (lvO t)) v p l h) (fun r h' => r = wnt (A_shL t l p v shN st (fun _ => 0)) - wnt st ∧ RWd h' b (A_shL t l p v shN st (fun _ => 0)) ∧ FrW b h h') := by
  have c36 : cntS st.2.2 (fun _ => 0) ≤ 36 := cntS_le (fun c hc => (R.2.2.2 c hc).len3)
  unfold f_X6_goToShares
  rw [(C_behind0 W R S).1, b2_some]
  refine wM (C_gs13 W ht l p v shN xFU 0 st (fun _ => 0) h 0 KV_0 (by unfold shN; omega) (by unfold shN xFU; omega) (by omega) R S H O L) (fun r g P => ⟨?_, P.2.1, P.2.2⟩)
  rw [P.1, Int32.zero_add]
