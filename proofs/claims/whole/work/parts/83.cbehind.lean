/-! the class: the share behind a key -/
theorem SbV.key {r : List Int32} (v : SbV r) : KV (skey r) := by
  obtain ⟨p, -, -, g, hg, e⟩ := v
  exact ⟨⟨g, hg, e⟩, p.cgr (fun j hj => by
    show (if 1 + j = 0 then _ else _) = _
    rw [if_neg (by omega), show 1 + j - 1 = j by omega])⟩
theorem SbV.shk {r : List Int32} {h : Mem} (v : SbV r) : f_X1_shareKey (g5 r 5) (pth (lvO (g5 r))) h = some (nI (keyN (skey r)), h) := by
  obtain ⟨g, hg, e, n, l⟩ := v.key.n
  have el : lvO (fun j => skey r (1 + j)) = lvO (g5 r) := by
    funext j
    unfold lvO
    split
    · show (if 1 + j = 0 then _ else g5 r (1 + j - 1)).toNatClampNeg = _
      rw [if_neg (by omega), show 1 + j - 1 = j by omega]
    · rfl
  rw [el] at n l
  have e' : g5 r 5 = nI g := e
  rw [e']
  unfold pth
  rw [C_shareKey hg l, n]
def lsN (s : Bool × (Nat → Int32)) : Int32 := if s.1 = true then nI (keyN s.2) else 0
def lsV (s : Bool × (Nat → Int32)) : Prop := s.1 = true → KV s.2 ∧ 0 < keyN s.2
theorem lsN_0 {s : Bool × (Nat → Int32)} (v : lsV s) : lsN s = 0 ↔ s.1 = false := by
  unfold lsN
  cases h : s.1 with
  | false => simp
  | true =>
    have w := v h
    have := w.1.lt
    rw [if_pos rfl, li_0, nI_eq (by omega) (by omega)]
    simp
    omega
theorem nsS_V {beh : Nat → Int32} {s : Bool × (Nat → Int32)} {r : List Int32} (v : lsV s) (hr : SbV r) : lsV (nsS beh s r) := by
  unfold nsS
  split
  · rename_i q
    intro _
    simp only [Bool.and_eq_true, decide_eq_true_eq] at q
    refine ⟨hr.key, ?_⟩
    obtain ⟨g, hg, e, n, l⟩ := hr.key.n
    have e' : g5 r 5 = nI g := e
    have := q.1.1
    rw [e', li_0, nI_ltI (by omega) (by omega)] at this
    show 0 < keyN (skey r)
    omega
  · exact v
theorem C_sb24 {h : Mem} {b c : Nat} {st : St} {beh : Nat → Int32} (W : WK b) (hc : c < 6) (R : RWd h b st) (S : SbW st) (hb : KV beh) (kk : Nat → Int32 → Int32 → Int32 → Mem → Option (Int32 × Mem)) : ∀ (d i n : Nat) (s : Bool × (Nat → Int32)), i + d = ((st.2.2 c).2 3).length → d < n → lsV s → f_X6_shareBehind_24 kk n b (nI (keyN beh)) (lsN s) (nI c) (b + 6 + 15 * c + 1) (nI i) h = kk b (nI (keyN beh)) (lsN ((((st.2.2 c).2 3).drop i).foldl (nsS beh) s)) (nI (c + 1)) h ∧ lsV ((((st.2.2 c).2 3).drop i).foldl (nsS beh) s) := by
  have Rc := R.2.2.2 c hc
  have K := (W.2.2.2.1 c hc).2.2
  have T := Rc.2.1
  have l6 := T.2.2.2.1
  have e3 := T.2.2.1
  rw [List.length_map] at l6 e3
  have V := (S c hc).1
  generalize b + 6 + 15 * c = KK at Rc K T e3 ⊢
  generalize (st.2.2 c).2 3 = rows at T l6 e3 V ⊢
  intro d
  induction d with
  | zero =>
    intro i n s h1 h2 v
    obtain ⟨n, rfl⟩ : ∃ z, n = z + 1 := ⟨n - 1, by omega⟩
    rw [List.drop_eq_nil_of_le (by omega)]
    refine ⟨?_, v⟩
    unfold f_X6_shareBehind_24
    rw [e3, if_pos (by rw [nI_leI (by omega) (by omega)]; omega), show nI c + 1 = nI (c + 1) by rw [li_1, nI_add]]
    rfl
  | succ d ih =>
    intro i n s h1 h2 v
    obtain ⟨n, rfl⟩ : ∃ z, n = z + 1 := ⟨n - 1, by omega⟩
    have hi : i < rows.length := by omega
    rw [drop_gr _ _ hi, List.foldl_cons]
    have eg := gr_map hi smR
    have vr := V _ (gr_mem hi)
    have cell : ∀ j, j < 3 → f_X3_cell (KK + 1) (nI i) (nI j) h = some (g5 (smR (gr rows i)) j, h) := by
      intro j hj
      have y := C_cell (j := j) K.2.1.1 T (by simpa using hi) hj
      rw [eg] at y
      exact y
    generalize gr rows i = r at vr cell ⊢
    have z := ih (i + 1) n (nsS beh s r) (by omega) (by omega) (nsS_V v vr)
    refine ⟨?_, z.2⟩
    have z1 := z.1
    have c2 : f_X3_cell (KK + 1) (nI i) 2 h = some (g5 r 5, h) := cell 2 (by omega)
    have c0 : f_X3_cell (KK + 1) (nI i) 0 h = some (pth (lvO (g5 r)), h) := cell 0 (by omega)
    obtain ⟨g, hg, eg', ng, lg⟩ := vr.key.n
    have e5 : g5 r 5 = nI g := eg'
    have kr := vr.key.lt
    have kb := hb.lt
    have o1 := hb.ord vr.key
    unfold f_X6_shareBehind_24 f_X6_shareBehind_83 f_X6_shareBehind_80 f_X6_shareBehind_83
    rw [e3, if_neg (by rw [nI_leI (by omega) (by omega)]; omega), c2, b2_some, c0, b2_some, vr.shk, b2_some, show nI i + 1 = nI (i + 1) by rw [li_1, nI_add]]
    have skip : nsS beh s r = s → f_X6_shareBehind_24 kk n b (nI (keyN beh)) (lsN s) (nI c) (KK + 1) (nI (i + 1)) h = kk b (nI (keyN beh)) (lsN ((rows.drop (i + 1)).foldl (nsS beh) (nsS beh s r))) (nI (c + 1)) h := by
      intro e
      rw [e] at z1 ⊢
      exact z1
    have take : nsS beh s r = (true, skey r) → f_X6_shareBehind_24 kk n b (nI (keyN beh)) (nI (keyN (skey r))) (nI c) (KK + 1) (nI (i + 1)) h = kk b (nI (keyN beh)) (lsN ((rows.drop (i + 1)).foldl (nsS beh) (nsS beh s r))) (nI (c + 1)) h := by
      intro e
      rw [e] at z1 ⊢
      exact z1
    by_cases g0 : g = 0
    · rw [if_pos (by rw [e5, g0]; decide)]
      refine skip ?_
      unfold nsS
      rw [e5, g0, if_neg (by simp (decide := true))]
    · have gp : 0 < g5 r 5 := by
        rw [e5, li_0, nI_ltI (by omega) (by omega)]
        omega
      rw [if_neg (by rw [e5, li_0, nI_leI (by omega) (by omega)]; omega)]
      by_cases q : keyN (skey r) ≤ keyN beh
      · rw [if_pos (by rw [nI_leI (by omega) (by omega)]; exact q)]
        refine skip ?_
        unfold nsS
        rw [o1, if_neg (by
          have : ¬ keyN beh < keyN (skey r) := by omega
          simp [this])]
      · rw [if_neg (by rw [nI_leI (by omega) (by omega)]; exact q)]
        have q' : keyN beh < keyN (skey r) := by omega
        cases hs : s.1 with
        | false =>
          rw [if_pos ((lsN_0 v).mpr hs)]
          refine take ?_
          unfold nsS
          rw [o1, hs, if_pos (by simp [gp, q'])]
        | true =>
          have w := v hs
          have el : lsN s = nI (keyN s.2) := by
            unfold lsN
            rw [if_pos hs]
          have kl := w.1.lt
          have o2 := vr.key.ord w.1
          rw [if_neg (fun y => by
            have := (lsN_0 v).mp y
            rw [hs] at this
            cases this), el]
          by_cases y : keyN s.2 ≤ keyN (skey r)
          · rw [if_pos (by rw [nI_leI (by omega) (by omega)]; exact y), ← el]
            refine skip ?_
            unfold nsS
            have y' : ¬ keyN (skey r) < keyN s.2 := by omega
            rw [o2, hs, if_neg (by simp [y'])]
          · rw [if_neg (by rw [nI_leI (by omega) (by omega)]; exact y)]
            refine take ?_
            unfold nsS
            have y' : keyN (skey r) < keyN s.2 := by omega
            rw [o1, o2, hs, if_pos (by simp [gp, q', y'])]
theorem C_sb4 {h : Mem} {b : Nat} {st : St} {beh : Nat → Int32} (W : WK b) (R : RWd h b st) (S : SbW st) (hb : KV beh) : ∀ (d c n : Nat) (s : Bool × (Nat → Int32)), c + d = 6 → d < n → lsV s → f_X6_shareBehind_4 n b (nI (keyN beh)) (lsN s) (nI c) h = some (lsN (nsF beh st.2.2 d c s), h) ∧ lsV (nsF beh st.2.2 d c s) := by
  intro d
  induction d with
  | zero =>
    intro c n s h1 h2 v
    obtain ⟨n, rfl⟩ : ∃ z, n = z + 1 := ⟨n - 1, by omega⟩
    refine ⟨?_, v⟩
    unfold f_X6_shareBehind_4
    rw [if_pos (by rw [li_6, nI_leI (by omega) (by omega)]; omega)]
    rfl
  | succ d ih =>
    intro c n s h1 h2 v
    obtain ⟨n, rfl⟩ : ∃ z, n = z + 1 := ⟨n - 1, by omega⟩
    have hc : c < 6 := by omega
    have l3 := (R.2.2.2 c hc).len3
    have y := C_sb24 W hc R S hb (f_X6_shareBehind_4 n) ((st.2.2 c).2 3).length 0 xFU s (by omega) (by unfold xFU; omega) v
    rw [List.drop_zero] at y
    have ec : nsC beh s (st.2.2 c) = ((st.2.2 c).2 3).foldl (nsS beh) s := by
      unfold nsC
      by_cases e0 : (st.2.2 c).1 0 = 0
      · rw [if_pos e0, (S c hc).2 e0]
        rfl
      · rw [if_neg e0]
    have z := ih (c + 1) n (((st.2.2 c).2 3).foldl (nsS beh) s) (by omega) (by omega) y.2
    unfold nsF
    rw [ec]
    refine ⟨?_, z.2⟩
    unfold f_X6_shareBehind_4
    rw [if_neg (by rw [li_6, nI_leI (by omega) (by omega)]; omega), W.1.1, wcl W hc, (W.2.2.2.1 c hc).2.2.1.1]
    have y1 := y.1
    exact y1.trans z.1
theorem C_behind {h : Mem} {b : Nat} {st : St} {beh : Nat → Int32} (W : WK b) (R : RWd h b st) (S : SbW st) (hb : KV beh) : f_X6_shareBehind b (nI (keyN beh)) h = some (lsN (nsA st.2.2 beh), h) ∧ lsV (nsA st.2.2 beh) := C_sb4 W R S hb 6 0 xFU (false, beh) (by omega) (by unfold xFU; omega) (fun z => by cases z)
theorem KV_0 : KV (fun _ => 0) := by
  refine ⟨⟨0, by omega, rfl⟩, PV.mk' (l := fun _ => 0) (n := 0) (by omega) ⟨by omega, fun j hj => by omega, fun j _ => rfl⟩ (fun j => by omega) (fun j _ => rfl)⟩
theorem keyN_0 : keyN (fun _ => 0) = 0 := by
  unfold keyN pN lvO
  decide
theorem C_behind0 {h : Mem} {b : Nat} {st : St} (W : WK b) (R : RWd h b st) (S : SbW st) : f_X6_shareBehind b 0 h = some (lsN (nsA st.2.2 (fun _ => 0)), h) ∧ lsV (nsA st.2.2 (fun _ => 0)) := by
  have z := C_behind W R S KV_0
  rw [keyN_0] at z
  exact z
theorem cntS_le {cls : Nat → Cl} {k : Nat → Int32} (h : ∀ c, c < 6 → ((cls c).2 3).length ≤ 6) : cntS cls k ≤ 36 := Nat.le_trans List.countP_le_length (arw_len h)
theorem C_cs10 {h : Mem} {b : Nat} {st : St} (W : WK b) (R : RWd h b st) (S : SbW st) : ∀ (m n i s : Nat) (k : Nat → Int32), KV k → cntS st.2.2 k < m → m < n → cntS st.2.2 k + i ≤ 36 → f_X6_countShares_10 n b (nI s) (lsN (nsA st.2.2 k)) (nI i) h = some (nI (s + shCt st.2.2 m k), h) := by
  intro m
  induction m with
  | zero =>
    intro n i s k hk h1
    omega
  | succ m ih =>
    intro n i s k hk h1 h2 h3
    obtain ⟨n, rfl⟩ : ∃ z, n = z + 1 := ⟨n - 1, by omega⟩
    have bz := C_behind W R S hk
    unfold f_X6_countShares_10 shCt
    cases hs : (nsA st.2.2 k).1 with
    | false =>
      have e0 := (lsN_0 bz.2).mpr hs
      rw [e0, if_neg (show ¬ false = true by decide), if_pos (show (0 : Int32) ≤ 0 by decide), Nat.add_zero]
      split <;> rfl
    | true =>
      have lt := cntS_lt hs
      have w := bz.2 hs
      have el : lsN (nsA st.2.2 k) = nI (keyN (nsA st.2.2 k).2) := by
        unfold lsN
        rw [if_pos hs]
      have kl := w.1.lt
      have li36 : (36 : Int32) = nI 36 := by decide +kernel
      rw [if_neg (by rw [li36, nI_leI (by omega) (by omega)]; omega), el, if_neg (by rw [li_0, nI_leI (by omega) (by omega)]; omega), (C_behind W R S w.1).1, b2_some, if_pos rfl, show nI i + 1 = nI (i + 1) by rw [li_1, nI_add], show nI s + 1 = nI (s + 1) by rw [li_1, nI_add], ih n (i + 1) (s + 1) (nsA st.2.2 k).2 w.1 (by omega) (by omega) (by omega)]
      congr 3
      omega
theorem C_countShares {h : Mem} {b : Nat} {st : St} (W : WK b) (R : RWd h b st) (S : SbW st) : f_X6_countShares b h = some (nI (shCt st.2.2 shN (fun _ => 0)), h) := by
  have c36 : cntS st.2.2 (fun _ => 0) ≤ 36 := cntS_le (fun c hc => (R.2.2.2 c hc).len3)
  unfold f_X6_countShares
  rw [(C_behind0 W R S).1, b2_some]
  have z := C_cs10 W R S shN xFU 0 0 (fun _ => 0) KV_0 (by unfold shN; omega) (by unfold shN xFU; omega) (by omega)
  rw [Nat.zero_add] at z
  exact z
