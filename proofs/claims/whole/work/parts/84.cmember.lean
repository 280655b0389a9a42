/-! the class: whose turn it is -/
theorem sIx_cgr {z : Int32} {P Q : Nat → Bool} : ∀ (d k : Nat), (∀ j, k ≤ j → j < k + d → P j = Q j) → sIx z P d k = sIx z Q d k
  | 0, _, _ => rfl
  | d + 1, k, h => by
    unfold sIx
    rw [h k (by omega) (by omega), sIx_cgr d (k + 1) (fun j h1 h2 => h j (by omega) (by omega))]
theorem smF5 {f s : Nat → Int32} : smF f 0 s 5 0 = true ↔ ∀ j, j < 5 → f j = s j := by
  unfold smF smF smF smF smF smF
  simp only [Bool.and_eq_true, beq_iff_eq, Nat.zero_add, Nat.add_zero, and_true]
  constructor
  · intro ⟨a, b, c, d, e⟩ j hj
    rcases (show j = 0 ∨ j = 1 ∨ j = 2 ∨ j = 3 ∨ j = 4 by omega) with rfl | rfl | rfl | rfl | rfl <;> assumption
  · intro h
    exact ⟨h 0 (by omega), h 1 (by omega), h 2 (by omega), h 3 (by omega), h 4 (by omega)⟩
/-- the class's find of a share, the reference's -/
theorem fnd_had {rows : List (List Int32)} {k : Nat → Int32} (hl : rows.length ≤ 36) (V : ∀ r ∈ rows, KV (g5 r)) (hk : KV k) : (fnd (rows.map hmR) 0 (nI (keyN k)) = -1 ∧ hdIx rows k = -4) ∨ ∃ j, j < rows.length ∧ fnd (rows.map hmR) 0 (nI (keyN k)) = nI j ∧ hdIx rows k = nI j := by
  have e : fnd (rows.map hmR) 0 (nI (keyN k)) = sIx (-1) (hPt rows k) rows.length 0 := by
    unfold fnd
    rw [List.length_map]
    refine sIx_cgr _ _ (fun j _ hj => ?_)
    have hj' : j < rows.length := by omega
    rw [gr_map hj']
    have v := V _ (gr_mem hj')
    have l1 := v.lt
    have l2 := hk.lt
    have iff := v.inj hk
    show (nI (keyN (g5 (gr rows j))) == nI (keyN k)) = smF (g5 (gr rows j)) 0 k 5 0
    by_cases q : keyN (g5 (gr rows j)) = keyN k
    · rw [smF5.mpr (iff.mp q), q]
      simp
    · have q1 : ¬ nI (keyN (g5 (gr rows j))) = nI (keyN k) := fun z => q ((nI_eq (by omega) (by omega)).mp z)
      have q2 : smF (g5 (gr rows j)) 0 k 5 0 = false := by
        cases y : smF (g5 (gr rows j)) 0 k 5 0 with
        | false => rfl
        | true => exact absurd (iff.mpr (smF5.mp y)) q
      rw [q2, beq_eq_false_iff_ne]
      exact q1
  rw [e]
  unfold hdIx
  rcases sIx_two (P := hPt rows k) (d := rows.length) (k := 0) (by omega) with q | ⟨j, -, h2, h3, h4, -⟩
  · exact Or.inl q
  · exact Or.inr ⟨j, by omega, h3, h4⟩
theorem RWd.len7 {h : Mem} {b : Nat} {st : St} (R : RWd h b st) : (st.2.1 7).length ≤ 36 := by
  have := R.2.2.1.2.2.2.1
  rwa [List.length_map] at this
theorem C_latest {h : Mem} {b : Nat} {st : St} {k : Nat → Int32} (W : WK b) (R : RWd h b st) (H : HdV st) (hk : KV k) : f_X6_latestOf b (nI (keyN k)) h = some (if hdIx (st.2.1 7) k = -4 then -4 else g5 (gr (st.2.1 7) (hdIx (st.2.1 7) k).toNatClampNeg) 5, h) := by
  have T := R.2.2.1
  have l36 := R.len7
  have z := C_find (j := 0) W.2.1.2 T (by omega) (nI (keyN k))
  unfold f_X6_latestOf
  rw [W.1.2.2, show f_X3_find (b + 4) 0 (nI (keyN k)) h = _ from z, b2_some]
  rcases fnd_had l36 H hk with ⟨e1, e2⟩ | ⟨j, hj, e1, e2⟩
  · rw [e1, e2, if_neg (by decide), if_pos rfl]
  · have y := C_cell (i := j) (j := 1) W.2.1.2 T (by rw [List.length_map]; exact hj) (by omega)
    rw [gr_map hj] at y
    rw [e1, e2, if_pos (nI_pos' (by omega)), show f_X3_cell (b + 4) (nI j) 1 h = _ from y, b2_some, if_neg (nI_ne4 (by omega)), nI_clamp (by omega)]
    rfl
theorem C_mb36 {h : Mem} {b : Nat} {st : St} {k : Nat → Int32} (W : WK b) (R : RWd h b st) (S : SbW st) (hk : KV k) (s : Int32) {fi fr : Nat} (hfi : fi ≤ 6) (hf : ∀ j, (fi + j) % 6 = (fr + (j + 1)) % 6) : ∀ (d i n : Nat), i + d = 6 → d < n → f_X6_memberBehind_36 n b s (pth (lvO (fun j => k (1 + j)))) (k 0) (nI fi) (nI i) h = some (cvg (tuF st.2.2 k fr s d (i + 1)), h) := by
  intro d
  induction d with
  | zero =>
    intro i n h1 h2
    obtain ⟨n, rfl⟩ : ∃ z, n = z + 1 := ⟨n - 1, by omega⟩
    unfold f_X6_memberBehind_36 tuF
    rw [if_pos (by rw [li_6, nI_leI (by omega) (by omega)]; omega)]
    rfl
  | succ d ih =>
    intro i n h1 h2
    obtain ⟨n, rfl⟩ : ∃ z, n = z + 1 := ⟨n - 1, by omega⟩
    have z := ih (i + 1) n (by omega) (by omega)
    have hc : (fi + i) % 6 < 6 := Nat.mod_lt _ (by omega)
    have Rc := R.2.2.2 _ hc
    have Sc := S _ hc
    have em : nI fi + nI i - (nI fi + nI i) / 6 * 6 = nI ((fi + i) % 6) := by
      rw [nI_add]
      exact mod6 (fi + i) (by omega)
    unfold f_X6_memberBehind_36 tuF f_X6_memberBehind_86
    rw [if_neg (by rw [li_6, nI_leI (by omega) (by omega)]; omega), W.1.1, em, wcl W hc, wcl W hc, Rc.1.1, show nI i + 1 = nI (i + 1) by rw [li_1, nI_add], ← hf i]
    unfold tPt
    rw [← hf i]
    generalize (fi + i) % 6 = c at hc Rc Sc ⊢
    have fs := C_findSub (W.2.2.2.1 c hc).2.2 Rc Sc.1 hk.2 (k 0)
    have l3 := Rc.len3
    by_cases es : (st.2.2 c).1 0 = s
    · rw [if_pos es, fs, b2_some]
      rcases mem_fs (k := k) Sc.2 l3 with ⟨e1, e2⟩ | ⟨j, hj, e1, e2, -, -⟩
      · rw [e1, e2, if_pos (by decide), z, if_neg (by simp)]
      · have b4 : (nI j == -4) = false := by
          rw [beq_eq_false_iff_ne]
          exact nI_ne4 (by omega)
        rw [e1, e2, if_neg (by rw [li_0, nI_ltI (by omega) (by omega)]; omega), b4, if_pos (by simp [es])]
        unfold cvg
        rw [if_neg (nI_ne4 (by omega))]
    · rw [if_neg es, z, if_neg (by simp [es])]
def HdF (st : St) : Prop := ∀ r ∈ st.2.1 7, ∃ f, f < 6 ∧ g5 r 5 = nI f
theorem C_memberBehind {h : Mem} {b : Nat} {st : St} {k : Nat → Int32} (W : WK b) (R : RWd h b st) (S : SbW st) (H : HdV st) (F : HdF st) (hk : KV k) (s : Int32) : f_X6_memberBehind b (nI (keyN k)) s h = some (cvg (tuA st.2.2 k (shFr (st.2.1 7) k) s), h) := by
  obtain ⟨g, hg, e, n, l⟩ := hk.n
  have lt := C_latest W R H hk
  have l36 := R.len7
  unfold f_X6_memberBehind f_X6_memberBehind_31
  have ff : f_X1_filterOf (nI (keyN k)) h = some (nI (pN (lvO (fun j => k (1 + j)))), h) := by rw [n, C_filterOf hg l]
  have gg : f_X1_groupOf (nI (keyN k)) h = some (k 0, h) := by rw [n, C_groupOf hg l, e]
  rw [ff, b2_some, gg, b2_some, lt, b2_some]
  unfold shFr
  rcases fnd_had l36 H hk with ⟨e1, e2⟩ | ⟨j, hj, e1, e2⟩
  · rw [e2, if_pos rfl, if_neg (by decide), if_pos rfl]
    exact C_mb36 W R S hk s (fi := 0) (fr := 5) (by omega) (fun j => by omega) 6 0 xFU (by omega) (by unfold xFU; omega)
  · obtain ⟨f, hf, ef⟩ := F _ (gr_mem hj)
    rw [e2, if_neg (nI_ne4 (by omega)), nI_clamp (by omega), ef, if_pos (nI_pos' (by omega)), if_neg (nI_ne4 (by omega)), nI_clamp (by omega), show nI f + 1 = nI (f + 1) by rw [li_1, nI_add]]
    exact C_mb36 W R S hk s (fi := f + 1) (fr := f) (by omega) (fun j => by omega) 6 0 xFU (by omega) (by unfold xFU; omega)
theorem keyN_c {a b : Nat → Int32} (h : ∀ j, j < 5 → a j = b j) : keyN a = keyN b := by
  have el : lvO (fun j => a (1 + j)) = lvO (fun j => b (1 + j)) := by
    funext j
    unfold lvO
    split
    · show (a (1 + j)).toNatClampNeg = (b (1 + j)).toNatClampNeg
      rw [h (1 + j) (by omega)]
    · rfl
  unfold keyN
  rw [h 0 (by omega), el]
theorem hm_set5 {r : List Int32} (hr : r.length = 6) (c : Int32) : (hmR r).set 1 c = hmR (r.set 5 c) := by
  match r, hr with
  | [a0, a1, a2, a3, a4, a5], _ =>
    have q : keyN (g5 [a0, a1, a2, a3, a4, a5]) = keyN (g5 ([a0, a1, a2, a3, a4, a5].set 5 c)) := by
      refine keyN_c (fun j hj => ?_)
      rcases (show j = 0 ∨ j = 1 ∨ j = 2 ∨ j = 3 ∨ j = 4 by omega) with rfl | rfl | rfl | rfl | rfl <;> rfl
    unfold hmR
    rw [← q]
    rfl
theorem hm_new (k : Nat → Int32) (c : Int32) : hmR [k 0, k 1, k 2, k 3, k 4, c] = [nI (keyN k), c] := by
  have q : keyN (g5 [k 0, k 1, k 2, k 3, k 4, c]) = keyN k := by
    refine keyN_c (fun j hj => ?_)
    rcases (show j = 0 ∨ j = 1 ∨ j = 2 ∨ j = 3 ∨ j = 4 by omega) with rfl | rfl | rfl | rfl | rfl <;> rfl
  unfold hmR
  rw [q]
  rfl
theorem xmax_0 {c : Nat} (hc : c < 6) : xmax (nI c) 0 = nI c := by
  unfold xmax
  rw [if_neg (by rw [li_0, nI_ltI (by omega) (by omega)]; omega)]
theorem C_nm18 {h : Mem} {b c : Nat} {st : St} {k : Nat → Int32} (W : WK b) (hc : c < 6) (R : RWd h b st) (H : HdV st) (h6 : ∀ r ∈ st.2.1 7, r.length = 6) (hk : KV k) (room : hdIx (st.2.1 7) k = -4 → (st.2.1 7).length < 36) : Tr (f_X6_nextMember_18 b (nI (keyN k)) (nI c) h) (fun r h' => r = b + 6 + 15 * c ∧ RWd h' b (sK st 7 (shHad (st.2.1 7) k (nI c))) ∧ FrW b h h') := by
  have T := R.2.2.1
  have I := W.2.1.2
  have l36 := R.len7
  have z := C_find (j := 0) I T (by omega) (nI (keyN k))
  unfold f_X6_nextMember_18 f_X6_nextMember_56
  rw [W.1.2.2, W.1.1, show f_X3_find (b + 4) 0 (nI (keyN k)) h = _ from z, b2_some, xmax_0 hc]
  unfold shHad
  rcases fnd_had l36 H hk with ⟨e1, e2⟩ | ⟨j, hj, e1, e2⟩
  · have rm := room e2
    rw [e1, e2, if_neg (by decide), if_pos rfl]
    refine wB (C_open I T (by rw [List.length_map]; exact rm)) (fun r g0 P0 => ?_)
    rw [P0.1]
    refine wB (C_putL (j := 0) I P0.2.1 (by omega) rfl _) (fun _ g1 P1 => ?_)
    refine wB (C_putL (j := 1) I P1.1 (by omega) rfl (nI c)) (fun _ g2 P2 => ?_)
    have f := (P0.2.2.tr P1.2).tr P2.2
    rw [wcl W hc]
    refine wR ⟨rfl, R.k7 ?_ f, f.w (i := 4) (by omega)⟩
    have q : (st.2.1 7 ++ [[k 0, k 1, k 2, k 3, k 4, nI c]]).map hmR = (st.2.1 7).map hmR ++ [[nI (keyN k), nI c]] := by
      rw [List.map_append, List.map_singleton, hm_new]
    rw [q]
    exact P2.1
  · rw [e1, e2, if_pos (nI_pos' (by omega)), if_neg (nI_ne4 (by omega)), nI_clamp (by omega)]
    have eg := gr_map hj hmR
    refine wB (C_put (i := j) (j := 1) I T (by rw [List.length_map]; exact hj) (by omega) (by rw [eg]; rfl) (nI c)) (fun _ g1 P1 => ?_)
    rw [wcl W hc]
    refine wR ⟨rfl, R.k7 ?_ P1.2, P1.2.w (i := 4) (by omega)⟩
    have q := P1.1
    rw [eg, hm_set5 (h6 _ (gr_mem hj)), ← List.map_set] at q
    exact q
theorem C_nextMember {h : Mem} {b : Nat} {st : St} {k : Nat → Int32} (W : WK b) (R : RWd h b st) (S : SbW st) (H : HdV st) (O : ShOk st) (hk : KV k) (hm : ¬ shC st k = -4) (room : hdIx (st.2.1 7) k = -4 → (st.2.1 7).length < 36) : ∃ c, c < 6 ∧ shC st k = nI c ∧ ¬ memIx (st.2.2 c) k = -4 ∧ Tr (f_X6_nextMember b (nI (keyN k)) h) (fun r h' => r = b + 6 + 15 * c ∧ RWd h' b (sK st 7 (shHad (st.2.1 7) k (nI c))) ∧ FrW b h h') := by
  obtain ⟨c, hc, ec, hmm, -⟩ := shC_in hm
  have F : HdF st := fun r hr => (O.1 r hr).2
  have h6 : ∀ r ∈ st.2.1 7, r.length = 6 := fun r hr => (O.1 r hr).1
  have fin := C_nm18 W hc R H h6 hk room
  refine ⟨c, hc, ec, hmm, ?_⟩
  unfold f_X6_nextMember
  rw [C_memberBehind W R S H F hk 1, b2_some, C_memberBehind W R S H F hk 2, b2_some]
  unfold shC at ec
  by_cases q : tuA st.2.2 k (shFr (st.2.1 7) k) 1 = -4
  · rw [if_pos q] at ec
    rw [q, if_neg (show ¬ (0 : Int32) ≤ cvg (-4) by decide), ec]
    have e2 : cvg (nI c) = nI c := by
      unfold cvg
      rw [if_neg (nI_ne4 (by omega))]
    rw [e2]
    exact fin
  · rw [if_neg q] at ec
    have e2 : cvg (nI c) = nI c := by
      unfold cvg
      rw [if_neg (nI_ne4 (by omega))]
    rw [ec, e2, if_pos (nI_pos' (by omega))]
    exact fin
