/-! the class: shares are forgotten, a session ends, a client is roused -/
def SbW (st : St) : Prop := ∀ c, c < 6 → (∀ r ∈ (st.2.2 c).2 3, SbV r) ∧ ((st.2.2 c).1 0 = 0 → (st.2.2 c).2 3 = [])
def HdV (st : St) : Prop := ∀ r ∈ st.2.1 7, KV (g5 r)
theorem RK.len3 {h : Mem} {K : Nat} {cl : Cl} (R : RK h K cl) : (cl.2 3).length ≤ 6 := by
  have := R.2.1.2.2.2.1
  rwa [List.length_map] at this
theorem C_findShare {h : Mem} {K : Nat} {cl : Cl} {k : Nat → Int32} (c : CK K) (R : RK h K cl) (V : ∀ r ∈ cl.2 3, SbV r) (hk : KV k) : f_X0_findShare K (nI (keyN k)) h = some (fsIx (cl.2 3) (fun j => k (1 + j)) (k 0), h) := by
  obtain ⟨g, hg, e, n, l⟩ := hk.n
  unfold f_X0_findShare
  rw [n, C_filterOf hg l, b2_some, C_groupOf hg l, b2_some, ← e]
  have z := C_findSub c R V hk.2 (k 0)
  unfold pth at z
  rw [z, b2_some]
theorem mem_fs {cl : Cl} {k : Nat → Int32} (S : cl.1 0 = 0 → cl.2 3 = []) (hl : (cl.2 3).length ≤ 6) : (fsIx (cl.2 3) (fun j => k (1 + j)) (k 0) = -1 ∧ memIx cl k = -4) ∨ ∃ j, j < (cl.2 3).length ∧ fsIx (cl.2 3) (fun j => k (1 + j)) (k 0) = nI j ∧ memIx cl k = nI j ∧ sP (cl.2 3) (fun j => k (1 + j)) (k 0) j = true ∧ ¬ cl.1 0 = 0 := by
  unfold memIx
  by_cases e : cl.1 0 = 0
  · rw [if_pos e, S e]
    exact Or.inl ⟨rfl, rfl⟩
  · rw [if_neg e]
    rcases fs_sb hl (fun j => k (1 + j)) (k 0) with q | ⟨j, a, b, c, d⟩
    · exact Or.inl q
    · exact Or.inr ⟨j, a, b, c, d, e⟩
theorem C_hm2 {h : Mem} {b : Nat} {st : St} {k : Nat → Int32} (W : WK b) (R : RWd h b st) (S : SbW st) (hk : KV k) : ∀ (d c n : Nat), c + d = 6 → d < n → f_X6_hasMember_2 n b (nI (keyN k)) (nI c) h = some (bI (amF st.2.2 k d c), h) := by
  intro d
  induction d with
  | zero =>
    intro c n h1 h2
    obtain ⟨n, rfl⟩ : ∃ z, n = z + 1 := ⟨n - 1, by omega⟩
    unfold f_X6_hasMember_2 amF
    rw [if_pos (by rw [li_6, nI_leI (by omega) (by omega)]; omega)]
    rfl
  | succ d ih =>
    intro c n h1 h2
    obtain ⟨n, rfl⟩ : ∃ z, n = z + 1 := ⟨n - 1, by omega⟩
    have z := ih (c + 1) n (by omega) (by omega)
    have Rc := R.2.2.2 c (by omega)
    have Sc := S c (by omega)
    unfold f_X6_hasMember_2 amF
    rw [if_neg (by rw [li_6, nI_leI (by omega) (by omega)]; omega), W.1.1, wcl W (by omega), C_findShare (W.2.2.2.1 c (by omega)).2.2 Rc Sc.1 hk, b2_some, show nI c + 1 = nI (c + 1) by rw [li_1, nI_add]]
    have l3 := Rc.len3
    rcases mem_fs (k := k) Sc.2 l3 with ⟨e1, e2⟩ | ⟨j, hj, e1, e2, -, -⟩
    · rw [e1, e2, if_pos (by decide), z]
      rfl
    · rw [e1, e2, if_neg (by rw [li_0, nI_ltI (by omega) (by omega)]; omega)]
      have : (nI j == -4) = false := by
        rw [beq_eq_false_iff_ne]
        exact nI_ne4 (by omega)
      rw [this]
      rfl
theorem C_hasMember {h : Mem} {b : Nat} {st : St} {k : Nat → Int32} (W : WK b) (R : RWd h b st) (S : SbW st) (hk : KV k) : f_X6_hasMember b (nI (keyN k)) h = some (bI (amA st.2.2 k), h) := C_hm2 W R S hk 6 0 xFU (by omega) (by unfold xFU; omega)
theorem sK_sK (st : St) (t : Nat) (a b : List (List Int32)) : sK (sK st t a) t b = sK st t b := by
  show (st.1, ud (ud st.2.1 t a) t b, st.2.2) = (st.1, ud st.2.1 t b, st.2.2)
  congr 2
  funext j
  by_cases e : j = t
  · subst e
    rw [ud_eq, ud_eq]
  · rw [ud_ne e, ud_ne e, ud_ne e]
theorem sK_self (st : St) (t : Nat) : sK st t (st.2.1 t) = st := by
  obtain ⟨a, b, c⟩ := st
  show (a, ud b t (b t), c) = (a, b, c)
  congr 2
  funext j
  by_cases e : j = t
  · subst e
    rw [ud_eq]
  · rw [ud_ne e]
theorem sub1 (x : Int32) : x + -1 = x - 1 := (Int32.sub_eq_add_neg x 1).symm
theorem nI_s1 (i : Nat) : nI (i + 1) - 1 = nI i := by
  rw [li_1, nI_subP (by omega)]
  rfl
theorem C_fg10 {b : Nat} {st : St} {rows : List (List Int32)} (W : WK b) (S : SbW st) (hk : ∀ r ∈ rows, KV (g5 r)) : ∀ (i n : Nat) (h : Mem) (L : List (List Int32)), i < n → i ≤ rows.length → RWd h b (sK st 7 (rows.take i ++ L)) → Tr (f_X6_forgetEmptyShares_10 n b (nI i - 1) h) (fun _ h' => RWd h' b (sK st 7 ((rows.take i).filter (fgP st.2.2) ++ L)) ∧ FrW b h h') := by
  intro i
  induction i with
  | zero =>
    intro n h L hn hi R
    obtain ⟨n, rfl⟩ : ∃ z, n = z + 1 := ⟨n - 1, by omega⟩
    unfold f_X6_forgetEmptyShares_10
    rw [if_pos (by decide)]
    exact wR ⟨R, FrW.rf⟩
  | succ i ih =>
    intro n h L hn hi R
    obtain ⟨n, rfl⟩ : ∃ z, n = z + 1 := ⟨n - 1, by omega⟩
    have T := R.2.2.1
    rw [sK_eq] at T
    have l36 := T.2.2.2.1
    rw [List.length_map, List.length_append, List.length_take] at l36
    have e1 : rows.take (i + 1) = rows.take i ++ [gr rows i] := by
      have : gr rows i = rows[i] := by simp [gr, List.getD, show i < rows.length by omega]
      rw [this, List.take_succ_eq_append_getElem]
    have hlen : (rows.take i).length = i := by rw [List.length_take]; omega
    have eg : gr (rows.take (i + 1) ++ L) i = gr rows i := by
      rw [e1, List.append_assoc]
      have : gr (rows.take i ++ ([gr rows i] ++ L)) i = gr rows i := by
        unfold gr
        rw [List.getD, List.getElem?_append_right (by omega), hlen, Nat.sub_self]
        rfl
      exact this
    have hlt : i < (rows.take (i + 1) ++ L).length := by
      rw [List.length_append, List.length_take]
      omega
    have c0 : f_X3_cell (b + 4) (nI i) 0 h = some (nI (keyN (g5 (gr rows i))), h) := by
      have y := C_cell (i := i) (j := 0) W.2.1.2 T (by rw [List.length_map]; exact hlt) (by omega)
      rw [gr_map hlt, eg] at y
      exact y
    have kv : KV (g5 (gr rows i)) := hk _ (gr_mem (by omega))
    have hm := C_hasMember (st := sK st 7 (rows.take (i + 1) ++ L)) W R S kv
    have hm' : f_X6_hasMember b (nI (keyN (g5 (gr rows i)))) h = some (bI (fgP st.2.2 (gr rows i)), h) := hm
    unfold f_X6_forgetEmptyShares_10 f_X6_forgetEmptyShares_38
    rw [nI_s1, if_neg (by rw [li_0, nI_ltI (by omega) (by omega)]; omega), W.1.2.2, c0, b2_some, hm', b2_some, sub1]
    cases hP : fgP st.2.2 (gr rows i) with
    | false =>
      rw [if_pos (show bI false = 0 from rfl)]
      refine wB (C_remove (i := i) W.2.1.2 T (by rw [List.length_map]; exact hlt)) (fun _ g P => ?_)
      have er : (rows.take (i + 1) ++ L).eraseIdx i = rows.take i ++ L := by
        rw [e1, List.append_assoc, List.eraseIdx_append_of_length_le (by omega), hlen, Nat.sub_self]
        rfl
      have D := P.1
      rw [er_map, er] at D
      have R2 := R.k7 D P.2
      rw [sK_sK] at R2
      refine wM (ih n g L (by omega) (by omega) R2) (fun _ g2 Q => ⟨?_, (P.2.w (i := 4) (by omega)).tr Q.2⟩)
      have q := Q.1
      rw [e1, List.filter_append, List.filter_cons_of_neg (by rw [hP]; decide), List.filter_nil, List.append_nil]
      exact q
    | true =>
      rw [if_neg (show ¬ bI true = 0 by decide)]
      rw [e1, List.append_assoc] at R
      refine wM (ih n h ([gr rows i] ++ L) (by omega) (by omega) R) (fun _ g2 Q => ⟨?_, Q.2⟩)
      have q := Q.1
      rw [e1, List.filter_append, List.filter_cons_of_pos hP, List.filter_nil, List.append_assoc]
      exact q
theorem C_forget {h : Mem} {b : Nat} {st : St} (W : WK b) (R : RWd h b st) (S : SbW st) (H : HdV st) : Tr (f_X6_forgetEmptyShares b h) (fun _ h' => RWd h' b (A_fgt st) ∧ FrW b h h') := by
  have e3 := R.2.2.1.2.2.1
  have l36 := R.2.2.1.2.2.2.1
  rw [List.length_map] at e3 l36
  unfold f_X6_forgetEmptyShares
  rw [W.1.2.2, e3]
  have R' : RWd h b (sK st 7 ((st.2.1 7).take (st.2.1 7).length ++ [])) := by
    rw [List.take_length, List.append_nil, sK_self]
    exact R
  refine wM (C_fg10 W S H (st.2.1 7).length xFU h [] (by unfold xFU; omega) (Nat.le_refl _) R') (fun _ g P => ⟨?_, P.2⟩)
  have q := P.1
  rw [List.take_length, List.append_nil] at q
  exact q
theorem SbW.put {st : St} {c : Nat} {cl : Cl} (S : SbW st) (h1 : ∀ r ∈ cl.2 3, SbV r) (h2 : cl.1 0 = 0 → cl.2 3 = []) : SbW (sC st c cl) := by
  intro d hd
  by_cases e : d = c
  · subst e
    rw [sC_eq]
    exact ⟨h1, h2⟩
  · rw [sC_ne e]
    exact S d hd
theorem A_new_3 (cl : Cl) (s : Int32) : (A_new cl s).2 3 = [] := rfl
theorem SbW.new {st : St} {c : Nat} {cl : Cl} {s : Int32} (S : SbW st) : SbW (sC st c (A_new cl s)) := S.put (fun r hr => by rw [A_new_3] at hr; cases hr) (fun _ => rfl)
theorem C_endSession {h : Mem} {b c : Nat} {st : St} (W : WK b) (hc : c < 6) (R : RWd h b st) (S : SbW st) (H : HdV st) (h12 : ¬ (st.2.2 c).1 12 = 1) : Tr (f_X6_endSession b (b + 6 + 15 * c) h) (fun _ h' => RWd h' b (A_end st c) ∧ FrW b h h') := by
  unfold f_X6_endSession
  refine wB (C_clearSession (W.2.2.2.1 c hc).2.2 (R.2.2.2 c hc) h12) (fun _ g P => ?_)
  have R1 := R.cl hc P.1 P.2
  exact wB (C_forget W R1 S.new H) (fun _ g2 Q => wR ⟨Q.1, (P.2.w hc).tr Q.2⟩)
theorem sbIx_nil (s : Nat → Int32) (g : Int32) : sbIx [] s g = -4 := rfl
theorem fgP_new (st : St) (c : Nat) (cl : Cl) (s : Int32) : fgP (sC st c (A_new cl s)).2.2 = fgP (sC st c (A_new cl 0)).2.2 := by
  have m : ∀ (i : Nat) (k : Nat → Int32), memIx ((sC st c (A_new cl s)).2.2 i) k = memIx ((sC st c (A_new cl 0)).2.2 i) k := by
    intro i k
    by_cases e : i = c
    · subst e
      rw [sC_eq, sC_eq]
      unfold memIx
      rw [A_new_3, A_new_3, sbIx_nil]
      split <;> split <;> rfl
    · rw [sC_ne e, sC_ne e]
  have am : ∀ (k : Nat → Int32) (d i : Nat), amF (sC st c (A_new cl s)).2.2 k d i = amF (sC st c (A_new cl 0)).2.2 k d i := by
    intro k d
    induction d with
    | zero => intro i; rfl
    | succ d ih =>
      intro i
      unfold amF
      rw [m, ih]
  funext r
  exact am (g5 r) 6 0
theorem A_wk_new (cl : Cl) (s lf : Int32) : A_wk (A_new cl s) lf = A_wk (A_new cl 0) lf := by
  have e : A_wk0 (A_new cl s) lf = A_wk0 (A_new cl 0) lf := by
    show (_, _) = (_, _)
    congr 1
    funext k
    show ud (ud (ud (ud (A_new cl s).1 0 1) 1 lf) 12 0) 21 (-4) k = ud (ud (ud (ud (A_new cl 0).1 0 1) 1 lf) 12 0) 21 (-4) k
    by_cases e0 : k = 0
    · subst e0
      rfl
    · have : ud (A_new cl s).1 0 1 = ud (A_new cl 0).1 0 1 := by
        funext i
        by_cases ei : i = 0
        · rw [ei, ud_eq, ud_eq]
        · rw [ud_ne ei, ud_ne ei]
          show (if i = 0 then _ else _) = (if i = 0 then _ else _)
          rw [if_neg ei, if_neg ei]
      rw [this]
  unfold A_wk
  rw [e]
  rfl
theorem sC_sK (st : St) (c t : Nat) (cl : Cl) (rows : List (List Int32)) : sC (sK st t rows) c cl = sK (sC st c cl) t rows := rfl
def A_rou (st : St) (c : Nat) (cln lf : Int32) : Int32 × St := if ¬ (st.2.2 c).1 0 = 0 ∧ cln = 0 then (1, sC st c (A_wk (st.2.2 c) lf)) else (0, sC (A_end st c) c (A_wk ((A_end st c).2.2 c) lf))
theorem A_rou_ref (st : St) (c : Nat) (lf : Int32) : sC (A_fgt (sC st c (A_new (st.2.2 c) 1))) c (A_wk ((A_fgt (sC st c (A_new (st.2.2 c) 1))).2.2 c) lf) = sC (A_end st c) c (A_wk ((A_end st c).2.2 c) lf) := by
  have h1 : ∀ s, (A_fgt (sC st c (A_new (st.2.2 c) s))).2.2 c = A_new (st.2.2 c) s := fun s => sC_eq st c _
  have h0 : (A_end st c).2.2 c = A_new (st.2.2 c) 0 := h1 0
  rw [h1, h0, A_wk_new]
  unfold A_end A_fgt
  rw [sC_sK, sC_sK, sC_sC, sC_sC, fgP_new st c (st.2.2 c) 1]
  rfl
theorem C_rouse {h : Mem} {b c : Nat} {st : St} (W : WK b) (hc : c < 6) (R : RWd h b st) (S : SbW st) (H : HdV st) (h12 : ¬ (st.2.2 c).1 12 = 1) (cln lf : Int32) : Tr (f_X6_rouse b (b + 6 + 15 * c) cln lf h) (fun r h' => r = (A_rou st c cln lf).1 ∧ RWd h' b (A_rou st c cln lf).2 ∧ FrW b h h') := by
  have K := (W.2.2.2.1 c hc).2.2
  have fin : Tr (f_X6_rouse_15 b (b + 6 + 15 * c) lf h) (fun r h' => r = 0 ∧ RWd h' b (sC (A_end st c) c (A_wk ((A_end st c).2.2 c) lf)) ∧ FrW b h h') := by
    unfold f_X6_rouse_15 f_X6_rouse_16 f_X6_rouse_28
    rw [if_pos rfl]
    refine wB (C_endSession W hc R S H h12) (fun _ g P => ?_)
    refine wB (C_awaken K (P.1.2.2.2 c hc) lf) (fun _ g2 Q => ?_)
    rw [zg_0]
    exact wR ⟨rfl, P.1.cl hc Q.1 Q.2, P.2.tr (Q.2.w hc)⟩
  unfold f_X6_rouse A_rou
  rw [(R.2.2.2 c hc).1.1]
  by_cases e0 : (st.2.2 c).1 0 = 0
  · rw [if_pos e0, if_neg (fun z => z.1 e0)]
    exact fin
  · rw [if_neg e0]
    by_cases ec : cln = 0
    · rw [if_pos ec, if_pos ⟨e0, ec⟩]
      unfold f_X6_rouse_16 f_X6_rouse_28
      rw [if_neg (by decide)]
      refine wB (C_awaken K (R.2.2.2 c hc) lf) (fun _ g2 Q => ?_)
      rw [zg_1]
      exact wR ⟨rfl, R.cl hc Q.1 Q.2, Q.2.w hc⟩
    · rw [if_neg ec, if_neg (fun z => ec z.2)]
      exact fin
