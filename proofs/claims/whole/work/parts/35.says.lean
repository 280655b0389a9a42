/-! the reference: a letter is said -/
/-- the same shares -/
def SS (a b : Nat → Cl) : Prop := ∀ c, (a c).1 0 = (b c).1 0 ∧ (a c).2 3 = (b c).2 3
theorem SS.arw {a b : Nat → Cl} (h : SS a b) : arw a = arw b := by
  have hr : ∀ c, rws (a c) = rws (b c) := fun c => by
    unfold rws
    rw [(h c).1, (h c).2]
  unfold Jvm.Pilot.@@N@@.arw
  rw [hr 0, hr 1, hr 2, hr 3, hr 4, hr 5]
theorem SS.mem {a b : Nat → Cl} (h : SS a b) (c : Nat) (key : Nat → Int32) : memIx (a c) key = memIx (b c) key := by
  unfold memIx
  rw [(h c).1, (h c).2]
theorem A_goes1_0 (cl : Cl) (l p v k : Int32) : (A_goes1 cl l p v k).1 0 = cl.1 0 ∧ (A_goes1 cl l p v k).2 3 = cl.2 3 := by
  unfold A_goes1
  split
  · split
    · exact ⟨by rw [A_pd_1], A_pd_ne (by omega)⟩
    · exact ⟨sS_ne (by omega), rfl⟩
  · split
    · exact ⟨A_flies_1 (by omega), A_flies_ne (by omega) (by omega)⟩
    · split
      · exact ⟨rfl, sT_ne (by omega)⟩
      · exact ⟨sS_ne (by omega), rfl⟩
theorem A_goes_0 (cl : Cl) (l p v k : Int32) : (A_goes cl l p v k).1 0 = cl.1 0 ∧ (A_goes cl l p v k).2 3 = cl.2 3 := by
  have z := A_goes1_0 (sS cl 50 (cl.1 50 + 1)) l p v k
  exact ⟨z.1.trans (sS_ne (by omega)), z.2⟩
theorem SS.rf {a : Nat → Cl} : SS a a := fun _ => ⟨rfl, rfl⟩
theorem SS.tr {a b c : Nat → Cl} (h : SS a b) (k : SS b c) : SS a c := fun i => ⟨(h i).1.trans (k i).1, (h i).2.trans (k i).2⟩
theorem SS_go (st : St) (key : Nat → Int32) (c : Nat) (l p v : Int32) : SS (A_shGo st key c l p v).2.2 st.2.2 := by
  intro i
  unfold A_shGo
  by_cases e : i = c
  · subst e
    rw [sC_eq]
    exact A_goes_0 _ _ _ _ _
  · rw [sC_ne e]
    exact ⟨rfl, rfl⟩
theorem SS_out (st : St) (key : Nat → Int32) (l p v : Int32) : SS (A_shOut st key l p v).2.2 st.2.2 := by
  unfold A_shOut
  exact SS_go _ _ _ _ _ _
theorem ShOk.out {st : St} (S : ShOk st) {r : List Int32} (hr : r ∈ arw st.2.2) (l p v : Int32) : ShOk (A_shOut st (skey r) l p v) := by
  have hw := S.who hr
  obtain ⟨c, c1, c2, c3, c4⟩ := shC_in hw
  have e7 : (A_shOut st (skey r) l p v).2.1 7 = shHad (st.2.1 7) (skey r) (nI c) := by
    unfold A_shOut A_shGo
    rw [c2]
    show (sK st 7 (shHad (st.2.1 7) (skey r) (nI c))).2.1 7 = _
    exact sK_eq _ _ _
  have hss := SS_out st (skey r) l p v
  have hroom := S.room hr
  obtain ⟨s1, s2, s3, s4⟩ := S
  have hlen : (st.2.1 7).length ≤ 36 := by
    have z := nd_len _ ((arw st.2.2).map (fun r => k5 (skey r))) s3 (fun x hx => by
      obtain ⟨q, hq, e⟩ := List.mem_map.mp hx
      rw [← e]
      exact s4 q hq)
    rw [List.length_map, List.length_map] at z
    exact Nat.le_trans z (arw_len (fun c hc => (s2 c hc).2))
  unfold ShOk
  rw [e7, hss.arw]
  refine ⟨?_, fun c hc => by rw [(hss c).1, (hss c).2]; exact s2 c hc, ?_, ?_⟩
  · unfold shHad
    split
    · intro q hq
      rcases List.mem_append.mp hq with hq | hq
      · exact s1 q hq
      · rw [List.mem_singleton.mp hq]
        exact ⟨rfl, c, c1, rfl⟩
    · rename_i hne
      intro q hq
      rcases List.mem_or_eq_of_mem_set hq with hq | hq
      · exact s1 q hq
      · unfold hdIx at hne hq
        rcases sIx_spec (-4) (hPt (st.2.1 7) (skey r)) (st.2.1 7).length 0 with ⟨e2, -⟩ | ⟨j, h1, h2, h3, h4, h5⟩
        · exact absurd e2 hne
        · rw [h3, nI_clamp (by omega)] at hq
          have hj : j < (st.2.1 7).length := by omega
          have z := (s1 (gr (st.2.1 7) j) (by simp [gr, List.getD, List.getElem?_eq_getElem hj])).1
          rw [hq]
          refine ⟨by rw [List.length_set]; exact z, c, c1, ?_⟩
          simp [g5, List.getD, z]
  · have hk : ∀ i, i < (st.2.1 7).length → k5 (g5 ((gr (st.2.1 7) i).set 5 (nI c))) = k5 (g5 (gr (st.2.1 7) i)) := by
      intro i _
      simp [k5, g5, List.getD]
    unfold shHad
    split
    · rename_i hnone
      rw [List.map_append, List.nodup_append]
      refine ⟨s3, by simp, ?_⟩
      intro a ha b hb
      simp only [List.map_cons, List.map_nil, List.mem_singleton] at hb
      have hn := hdIx_none (by omega) hnone
      rintro rfl
      rw [hb] at ha
      exact hn ha
    · rename_i hne
      unfold hdIx at hne ⊢
      rcases sIx_spec (-4) (hPt (st.2.1 7) (skey r)) (st.2.1 7).length 0 with ⟨e2, -⟩ | ⟨j, h1, h2, h3, h4, h5⟩
      · exact absurd e2 hne
      · rw [h3, nI_clamp (by omega)]
        have hj : j < (st.2.1 7).length := by omega
        have e9 : ((st.2.1 7).set j ((gr (st.2.1 7) j).set 5 (nI c))).map (fun r => k5 (g5 r)) = (st.2.1 7).map (fun r => k5 (g5 r)) := by
          rw [List.map_set, hk j hj]
          have : k5 (g5 (gr (st.2.1 7) j)) = ((st.2.1 7).map (fun r => k5 (g5 r)))[j]'(by simpa using hj) := by
            simp [gr, List.getD, List.getElem?_eq_getElem hj]
          rw [this, List.set_getElem_self]
        rw [e9]
        exact s3
  · unfold shHad
    split
    · intro q hq
      rcases List.mem_append.mp hq with hq | hq
      · exact s4 q hq
      · rw [List.mem_singleton.mp hq]
        exact List.mem_map.mpr ⟨r, hr, rfl⟩
    · rename_i hne
      intro q hq
      rcases List.mem_or_eq_of_mem_set hq with hq | hq
      · exact s4 q hq
      · unfold hdIx at hne hq
        rcases sIx_spec (-4) (hPt (st.2.1 7) (skey r)) (st.2.1 7).length 0 with ⟨e2, -⟩ | ⟨j, h1, h2, h3, h4, h5⟩
        · exact absurd e2 hne
        · rw [h3, nI_clamp (by omega)] at hq
          have hj : j < (st.2.1 7).length := by omega
          have z := s4 (gr (st.2.1 7) j) (by simp [gr, List.getD, List.getElem?_eq_getElem hj])
          rw [hq]
          have e10 : k5 (g5 ((gr (st.2.1 7) j).set 5 (nI c))) = k5 (g5 (gr (st.2.1 7) j)) := by simp [k5, g5, List.getD]
          rw [e10]
          exact z
theorem ShOk.ss {st st' : St} (S : ShOk st) (h : SS st'.2.2 st.2.2) (e : st'.2.1 7 = st.2.1 7) : ShOk st' := by
  obtain ⟨s1, s2, s3, s4⟩ := S
  unfold ShOk
  rw [e, h.arw]
  exact ⟨s1, fun c hc => by rw [(h c).1, (h c).2]; exact s2 c hc, s3, s4⟩
theorem nsS_congr {b b' : Nat → Int32} (hb : ∀ j, j < 5 → b j = b' j) {s s' : Bool × (Nat → Int32)} (h1 : s.1 = s'.1) (h2 : ∀ j, j < 5 → s.2 j = s'.2 j) (r : List Int32) : (nsS b s r).1 = (nsS b' s' r).1 ∧ ∀ j, j < 5 → (nsS b s r).2 j = (nsS b' s' r).2 j := by
  unfold nsS
  rw [ahd_congr (a := b) (a' := b') (b := skey r) (b' := skey r) (fun j hj => ⟨hb j hj, rfl⟩), ahd_congr (a := skey r) (a' := skey r) (b := s.2) (b' := s'.2) (fun j hj => ⟨rfl, h2 j hj⟩), h1]
  split
  · exact ⟨rfl, fun _ _ => rfl⟩
  · exact ⟨h1, h2⟩
theorem nsL_congr {b b' : Nat → Int32} (hb : ∀ j, j < 5 → b j = b' j) : ∀ (rows : List (List Int32)) (s s' : Bool × (Nat → Int32)), s.1 = s'.1 → (∀ j, j < 5 → s.2 j = s'.2 j) → (rows.foldl (nsS b) s).1 = (rows.foldl (nsS b') s').1 ∧ ∀ j, j < 5 → (rows.foldl (nsS b) s).2 j = (rows.foldl (nsS b') s').2 j
  | [], _, _, h1, h2 => ⟨h1, h2⟩
  | r :: rows, s, s', h1, h2 => by
    rw [List.foldl_cons, List.foldl_cons]
    have z := nsS_congr hb h1 h2 r
    exact nsL_congr hb rows _ _ z.1 z.2
theorem nsF_congr {b b' : Nat → Int32} (hb : ∀ j, j < 5 → b j = b' j) (cls : Nat → Cl) : ∀ (d c : Nat) (s s' : Bool × (Nat → Int32)), s.1 = s'.1 → (∀ j, j < 5 → s.2 j = s'.2 j) → (nsF b cls d c s).1 = (nsF b' cls d c s').1 ∧ ∀ j, j < 5 → (nsF b cls d c s).2 j = (nsF b' cls d c s').2 j
  | 0, _, _, _, h1, h2 => ⟨h1, h2⟩
  | d + 1, c, s, s', h1, h2 => by
    unfold nsF
    have z : (nsC b s (cls c)).1 = (nsC b' s' (cls c)).1 ∧ ∀ j, j < 5 → (nsC b s (cls c)).2 j = (nsC b' s' (cls c)).2 j := by
      unfold nsC
      split
      · exact ⟨h1, h2⟩
      · exact nsL_congr hb _ _ _ h1 h2
    exact nsF_congr hb cls d (c + 1) _ _ z.1 z.2
theorem nsA_congr {k k' : Nat → Int32} (h : ∀ j, j < 5 → k j = k' j) (cls : Nat → Cl) : (nsA cls k).1 = (nsA cls k').1 ∧ ∀ j, j < 5 → (nsA cls k).2 j = (nsA cls k').2 j := nsF_congr h cls 6 0 _ _ rfl h
theorem ismF_congr {cls : Nat → Cl} {k k' t : Nat → Int32} (h : ∀ j, j < 5 → k j = k' j) : ∀ d c, ismF cls k t d c = ismF cls k' t d c
  | 0, _ => rfl
  | d + 1, c => by
    unfold ismF
    rw [memIx_congr h, ismF_congr h d (c + 1)]
theorem tuF_congr {cls : Nat → Cl} {k k' : Nat → Int32} {fr : Nat} {s : Int32} (h : ∀ j, j < 5 → k j = k' j) : ∀ d c, tuF cls k fr s d c = tuF cls k' fr s d c
  | 0, _ => rfl
  | d + 1, c => by
    unfold tuF tPt
    rw [memIx_congr h, tuF_congr h d (c + 1)]
theorem shC_congr {st : St} {k k' : Nat → Int32} (h : ∀ j, j < 5 → k j = k' j) : shC st k = shC st k' := by
  unfold shC tuA shFr
  rw [hdIx_congr h, tuF_congr h, tuF_congr h]
theorem A_shOut_congr {st : St} {k k' : Nat → Int32} (h : ∀ j, j < 5 → k j = k' j) (l p v : Int32) : A_shOut st k l p v = A_shOut st k' l p v := by
  unfold A_shOut A_shGo shHad
  rw [shC_congr h, hdIx_congr h, memIx_congr h, h 0 (by omega), h 1 (by omega), h 2 (by omega), h 3 (by omega), h 4 (by omega)]
def A_shL (t : Nat → Int32) (l p v : Int32) : Nat → St → (Nat → Int32) → St
  | 0, st, _ => st
  | n + 1, st, key => if (nsA st.2.2 key).1 = true then A_shL t l p v n (if ismF st.2.2 (nsA st.2.2 key).2 t 6 0 = true then A_shOut st (nsA st.2.2 key).2 l p v else st) (nsA st.2.2 key).2 else st
theorem SS.cnt {a b : Nat → Cl} (h : SS a b) (k : Nat → Int32) : cntS a k = cntS b k := by
  unfold cntS
  rw [h.arw]
theorem M_sh140 {t : Nat → Int32} (l p v w : Int32) : ∀ (n m : Nat) (st : St) (key : Nat → Int32) (h : Mem), cntS st.2.2 key < n → n ≤ m → RM (h 391) st → ShOk st → (∀ j, j < 5 → h 398 j = key j) → h 402 = t →
    Tr (f_X8_says_140 m 390 v p l w h) (fun r h' => r = h' 391 2 - w ∧ RM (h' 391) (A_shL t l p v n st key) ∧ ∀ a, a ≠ 391 → (a < 398 ∨ 402 ≤ a) → h' a = h a) := by
  intro n
  induction n with
  | zero => intro m st key h h1; omega
  | succ n ih =>
    intro m st key h h1 h2 R S hk ht
    obtain ⟨m, rfl⟩ : ∃ z, m = z + 1 := ⟨m - 1, by omega⟩
    obtain ⟨g1, e1, f1, s1⟩ := M_nextShare (h := h) (cls := st.2.2) R.2.2.2.2
    have hc := nsA_congr hk st.2.2
    unfold f_X8_says_140 A_shL
    rw [e1, b2_some, hc.1]
    simp only [bI_0]
    have R1 : RM (g1 391) st := by rw [f1 391 (by omega) (by omega) (by omega)]; exact R
    cases en : (nsA st.2.2 key).1
    · rw [if_pos rfl, if_neg (by decide)]
      simp (disch := omega) only [xr_0, li_2, al_391]
      exact wR ⟨rfl, R1, fun a g2 g3 => f1 a (by omega) (by omega) (by omega)⟩
    · rw [if_neg (by decide), if_pos rfl]
      obtain ⟨r, r1, r2, r3, r4⟩ := nsA_inv en
      have hlt := cntS_lt en
      have hK : ∀ j, j < 5 → g1 398 j = (nsA st.2.2 key).2 j := fun j hj => (s1 j hj).trans (hc.2 j hj)
      generalize (nsA st.2.2 key).2 = K at r2 hlt hK ⊢
      obtain ⟨g2, e2, f2⟩ := M_ism (h := g1) (cls := st.2.2) (a := 402) xl_402 (by omega) R1.2.2.2.2
      rw [xr_20, e2, b2_some, f1 402 (by omega) (by omega) (by omega), ht, ismF_congr hK]
      simp only [bI_0]
      have R2 : RM (g2 391) st := by rw [f2 391 (by omega)]; exact R1
      have hK2 : ∀ j, j < 5 → g2 398 j = K j := fun j hj => by rw [f2 398 (by omega)]; exact hK j hj
      have ht2 : g2 402 = t := by rw [f2 402 (by omega), f1 402 (by omega) (by omega) (by omega)]; exact ht
      have fr2 : ∀ a, a ≠ 391 → (a < 398 ∨ 402 ≤ a) → g2 a = h a := fun a q1 q2 => by rw [f2 a (by omega), f1 a (by omega) (by omega) (by omega)]
      cases em : ismF st.2.2 K t 6 0
      · rw [if_pos rfl, if_neg (by decide)]
        exact wM (ih m st K g2 (by omega) (by omega) R2 S hK2 ht2) (fun _ g3 P => ⟨P.1, P.2.1, fun a q1 q2 => (P.2.2 a q1 q2).trans (fr2 a q1 q2)⟩)
      · rw [if_neg (by decide), if_pos rfl]
        have hq := S.who r1
        have hl := S.room r1
        rw [← r2] at hq hl
        rw [← shC_congr hK2] at hq
        rw [← hdIx_congr hK2] at hl
        refine wB (M_sharesOut R2 S.1 hq hl l p v) (fun _ g3 P3 => ?_)
        have P1 := P3.1
        rw [A_shOut_congr hK2] at P1
        have S3 : ShOk (A_shOut st K l p v) := by rw [r2]; exact S.out r1 l p v
        refine wM (ih m (A_shOut st K l p v) K g3 (by rw [(SS_out st K l p v).cnt]; omega) (by omega) P1 S3 (fun j hj => by rw [P3.2 398 (by omega) (by omega)]; exact hK2 j hj) (by rw [P3.2 402 (by omega) (by omega)]; exact ht2)) (fun _ g4 P4 => ⟨P4.1, P4.2.1, fun a q1 q2 => ?_⟩)
        rw [P4.2.2 a q1 q2, P3.2 a q1 (by omega)]
        exact fr2 a q1 q2
def A_se1 (t : Nat → Int32) (l p v : Int32) (cl : Cl) : Cl := if cl.1 0 = 0 ∨ wdA cl t = -4 then cl else A_goes cl l (lsr p (wdA cl t)) v 0
def A_ses (t : Nat → Int32) (l p v : Int32) : Nat → Nat → St → St
  | 0, _, st => st
  | d + 1, c, st => A_ses t l p v d (c + 1) (sC st c (A_se1 t l p v (st.2.2 c)))
theorem sC_self (st : St) (c : Nat) : sC st c (st.2.2 c) = st := by
  unfold sC
  have : ud st.2.2 c (st.2.2 c) = st.2.2 := by
    funext i
    unfold ud
    split
    · rename_i h; rw [h]
    · rfl
  rw [this]
theorem SS_se1 (st : St) (c : Nat) (t : Nat → Int32) (l p v : Int32) : SS (sC st c (A_se1 t l p v (st.2.2 c))).2.2 st.2.2 := by
  intro i
  by_cases e : i = c
  · subst e
    rw [sC_eq]
    unfold A_se1
    split
    · exact ⟨rfl, rfl⟩
    · exact A_goes_0 _ _ _ _ _
  · rw [sC_ne e]
    exact ⟨rfl, rfl⟩
/-- enough turns for all shares -/
def shN : Nat := 37
theorem M_s73 {t : Nat → Int32} (l p v w : Int32) : ∀ (d c n : Nat) (st : St) (h : Mem), c + d = 6 → d < n → RM (h 391) st → ShOk st → h 402 = t →
    Tr (f_X8_says_73 n 390 v p l w (nI c) h) (fun r h' => r = h' 391 2 - w ∧ RM (h' 391) (A_shL t l p v shN (A_ses t l p v d c st) (fun _ => 0)) ∧ ∀ a, a ≠ 391 → (a < 398 ∨ 402 ≤ a) → h' a = h a) := by
  intro d
  induction d with
  | zero =>
    intro c n st h h1 h2 R S ht
    obtain ⟨n, rfl⟩ : ∃ z, n = z + 1 := ⟨n - 1, by omega⟩
    unfold f_X8_says_73 A_ses
    simp (disch := omega) only [li_6, nI_leI, if_pos]
    rw [M_noShare, b2_some]
    have hcn : cntS st.2.2 (fun _ => 0) < shN := by
      unfold cntS shN
      have := arw_len (cls := st.2.2) (fun c hc => (S.2.1 c hc).2)
      have := List.countP_le_length (p := fun r => ahd (fun _ => 0) (skey r)) (l := arw st.2.2)
      omega
    refine wM (M_sh140 l p v w shN xFU st (fun _ => 0) _ hcn (by unfold shN xFU; omega) (by rw [set5_ne (by omega)]; exact R) S (fun j hj => set5_in hj) (by rw [set5_ne (by omega)]; exact ht)) (fun _ g3 P => ⟨P.1, P.2.1, fun a q1 q2 => ?_⟩)
    rw [P.2.2 a q1 q2, set5_ne (by omega)]
  | succ d ih =>
    intro c n st h h1 h2 R S ht
    obtain ⟨n, rfl⟩ : ∃ z, n = z + 1 := ⟨n - 1, by omega⟩
    have hc : c < 6 := by omega
    have Rc := R.2.2.2.2 c hc
    have q0 : h 391 (308 + 961 * c + 0) = (st.2.2 c).1 0 := Rc.1 0 (by omega) rfl
    have S2 : ShOk (sC st c (A_se1 t l p v (st.2.2 c))) := S.ss (SS_se1 st c t l p v) rfl
    unfold A_ses
    have key : ∀ g : Mem, RM (g 391) (sC st c (A_se1 t l p v (st.2.2 c))) → (∀ a, a ≠ 391 → g a = h a) → Tr (f_X8_says_73 n 390 v p l w (nI (c + 1)) g) (fun r h' => r = h' 391 2 - w ∧ RM (h' 391) (A_shL t l p v shN (A_ses t l p v d (c + 1) (sC st c (A_se1 t l p v (st.2.2 c)))) (fun _ => 0)) ∧ ∀ a, a ≠ 391 → (a < 398 ∨ 402 ≤ a) → h' a = h a) := by
      intro g Rg fg
      exact wM (ih (c + 1) n _ g (by omega) (by omega) Rg S2 (by rw [fg 402 (by omega)]; exact ht)) (fun _ g3 P => ⟨P.1, P.2.1, fun a q1 q2 => (P.2.2 a q1 q2).trans (fg a q1)⟩)
    unfold f_X8_says_73 f_X8_says_105 f_X8_says_130
    simp (disch := omega) only [li_6, nI_leI, if_neg]
    rw [li_0, M_of hc (by omega), b2_some, q0]
    simp only [li_1, nI_add]
    refine wIf (fun e => ?_) (fun e => ?_)
    · rw [if_pos trivial]
      refine key h ?_ (fun _ _ => rfl)
      unfold A_se1
      rw [if_pos (Or.inl (show (st.2.2 c).1 0 = 0 from e)), sC_self]
      exact R
    · rw [xr_20, M_widest hc xl_402 Rc, b2_some, ht]
      refine wIf (fun e2 => ?_) (fun e2 => ?_)
      · refine key h ?_ (fun _ _ => rfl)
        unfold A_se1
        rw [if_pos (Or.inr e2), sC_self]
        exact R
      · rw [M_lesser, b2_some]
        refine wB (M_goes hc Rc _ _ _ _) (fun _ g3 P => key g3 ?_ P.2.1)
        unfold A_se1
        rw [if_neg (fun z => z.elim e e2)]
        exact R.cl hc P
/-- a letter is said: its number is what was said before -/
def A_keep (st : St) (t : Nat → Int32) (v p k : Int32) : St := if k = 1 then sK (sG st 1 (st.1 1 + 1)) 6 (A_keeps (st.2.1 6) t v p (st.1 1)) else sG st 1 (st.1 1 + 1)
def A_says (st : St) (t : Nat → Int32) (v p k : Int32) : St := A_shL t (st.1 1) p v shN (A_ses t (st.1 1) p v 6 0 (A_keep st t v p k)) (fun _ => 0)
theorem A_keep_ss (st : St) (t : Nat → Int32) (v p k : Int32) : (A_keep st t v p k).2.2 = st.2.2 ∧ (A_keep st t v p k).2.1 7 = st.2.1 7 := by
  unfold A_keep
  split
  · exact ⟨rfl, sK_ne (by omega)⟩
  · exact ⟨rfl, rfl⟩
theorem A_keeps_congr {rows : List (List Int32)} {t t' : Nat → Int32} (h : ∀ j, j < 4 → t j = t' j) (v p l : Int32) : A_keeps rows t v p l = A_keeps rows t' v p l := by
  have e : kPt rows t = kPt rows t' := by
    funext i
    unfold kPt sm4
    rw [h 0 (by omega), h 1 (by omega), h 2 (by omega), h 3 (by omega)]
  unfold A_keeps A_kdel ktIx
  rw [e, h 0 (by omega), h 1 (by omega), h 2 (by omega), h 3 (by omega)]
theorem M_says {a : Nat} {h : Mem} {st : St} (ha : xln a = 4) (ha2 : a ≠ 391) (ha3 : a ≠ 402) (R : RM (h 391) st) (S : ShOk st) (v p k : Int32) : ∃ t : Nat → Int32, (∀ j, j < 4 → t j = h a j) ∧ Tr (f_X8_says 390 a v p k h) (fun r h' => r = h' 391 2 - h 391 2 ∧ RM (h' 391) (A_says st t v p k) ∧ ∀ b, b ≠ 391 → (b < 398 ∨ 403 ≤ b) → h' b = h b) := by
  have g1 : h 391 1 = st.1 1 := R.1.2
  have R1 : RM (mu h 391 1 (st.1 1 + 1) 391) (sG st 1 (st.1 1 + 1)) := by
    rw [mu_eq]
    exact R.sg (by omega) _
  refine ⟨set4 (mu h 391 1 (st.1 1 + 1)) 402 (h a) 402, fun j hj => set4_in hj, ?_⟩
  have e : f_X8_says 390 a v p k h = (if k = 1 then b2 (f_X8_keeps 390 402 v p (st.1 1) (set4 (mu h 391 1 (st.1 1 + 1)) 402 (h a))) fun _ h1 => f_X8_says_70 390 v p (st.1 1) (h 391 2) h1 else f_X8_says_70 390 v p (st.1 1) (h 391 2) (set4 (mu h 391 1 (st.1 1 + 1)) 402 (h a))) := by
    unfold f_X8_says
    obtain ⟨z, hz⟩ := xFUs
    rw [← mu4, hz]
    simp (disch := omega) only [xr_0, li_1, li_2, al_391, as_391, g1]
    unfold f_X8_says_29
    rw [li_0]
    simp (disch := omega) only [li_4, li_1, xr_20, nI_leI, if_neg, nI_add, ald_nI, as_402, mu_rdk, Nat.zero_add]
    unfold f_X8_says_29
    simp (disch := omega) only [li_4, li_1, xr_20, nI_leI, if_neg, nI_add, ald_nI, as_402, mu_rdk, Nat.reduceAdd]
    unfold f_X8_says_29
    simp (disch := omega) only [li_4, li_1, xr_20, nI_leI, if_neg, nI_add, ald_nI, as_402, mu_rdk, Nat.reduceAdd]
    unfold f_X8_says_29
    simp (disch := omega) only [li_4, li_1, xr_20, nI_leI, if_neg, nI_add, ald_nI, as_402, mu_rdk, Nat.reduceAdd]
    unfold f_X8_says_29
    simp (disch := omega) only [li_4, xr_20, nI_leI, if_pos]
    rfl
  rw [e]
  have R2 : RM (set4 (mu h 391 1 (st.1 1 + 1)) 402 (h a) 391) (sG st 1 (st.1 1 + 1)) := by rw [set4_ne (by omega)]; exact R1
  have f2 : ∀ b, b ≠ 391 → b ≠ 402 → set4 (mu h 391 1 (st.1 1 + 1)) 402 (h a) b = h b := fun b q1 q2 => by rw [set4_ne q2, mu_ne q1]
  generalize set4 (mu h 391 1 (st.1 1 + 1)) 402 (h a) = h2 at R2 f2 ⊢
  have hss := A_keep_ss st (h2 402) v p k
  have S2 : ShOk (A_keep st (h2 402) v p k) := S.ss (by rw [hss.1]; exact SS.rf) hss.2
  have fin : ∀ g : Mem, RM (g 391) (A_keep st (h2 402) v p k) → (∀ b, b ≠ 391 → g b = h2 b) → Tr (f_X8_says_70 390 v p (st.1 1) (h 391 2) g) (fun r h' => r = h' 391 2 - h 391 2 ∧ RM (h' 391) (A_says st (h2 402) v p k) ∧ ∀ b, b ≠ 391 → (b < 398 ∨ 403 ≤ b) → h' b = h b) := by
    intro g Rg fg
    unfold f_X8_says_70 A_says
    rw [li_0]
    exact wM (M_s73 (st.1 1) p v (h 391 2) 6 0 xFU _ g (by omega) (by unfold xFU; omega) Rg S2 (fg 402 (by omega))) (fun _ g3 P => ⟨P.1, P.2.1, fun b q1 q2 => by rw [P.2.2 b q1 (by omega), fg b q1, f2 b q1 (by omega)]⟩)
  refine wIf (fun hk => ?_) (fun hk => ?_)
  · refine wB (M_keeps (by rw [xl_402]; omega) (by omega) R2.2.2.1 v p (st.1 1)) (fun _ g P => fin g ?_ P.1)
    unfold A_keep
    rw [if_pos hk]
    exact R2.k6 P.2.1 P.2.2
  · refine fin h2 ?_ (fun _ _ => rfl)
    unfold A_keep
    rw [if_neg hk]
    exact R2
