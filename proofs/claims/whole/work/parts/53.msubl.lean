/-! the reader: a line 'sub' -/
theorem RM.blk {f f' : Nat → Int32} {st : St} {c : Nat} {cl : Cl} (hc : c < 6) (R : RM f st) (B : RB (bk f' c) cl) (e : ∀ x, x < 308 + 961 * c ∨ 308 + 961 * c + 961 ≤ x → f' x = f x) (e1 : cl.1 50 = (st.2.2 c).1 50) (e2 : cl.1 51 = (st.2.2 c).1 51) (e3 : cl.1 10 = (st.2.2 c).1 10) (e4 : cl.1 52 = (st.2.2 c).1 52) : RM f' (sC st c cl) := by
  have key : ∀ (h h' : Mem), h 391 = f → h' 391 = f' → (∀ a, a ≠ 391 → h' a = h a) → RM f' (sC st c cl) := by
    intro h h' a1 a2 a3
    have z := RM.cl (h := h) (h' := h') hc (by rw [a1]; exact R) ⟨by rw [a2]; exact B, bE.g ⟨a3, fun x hx => by rw [a1, a2]; exact e x hx⟩ e1 e2 e3 e4⟩
    rw [a2] at z
    exact z
  exact key (mA (fun _ _ => 0) 391 f) (mA (fun _ _ => 0) 391 f') (by rw [mA_eq]) (by rw [mA_eq]) (fun a ha => by rw [mA_ne ha, mA_ne ha])
def FrD (h h' : Mem) : Prop := (∀ a, a ≠ 390 → a ≠ 392 → a ≠ 397 → h' a = h a) ∧ ∀ x, x < 8 → h' 390 x = h 390 x
theorem FrD.tr {h h1 h2 : Mem} (a : FrD h h1) (b : FrD h1 h2) : FrD h h2 := ⟨fun z h1 h2 h3 => (b.1 z h1 h2 h3).trans (a.1 z h1 h2 h3), fun x hx => (b.2 x hx).trans (a.2 x hx)⟩
theorem FrL.d {h h' : Mem} (f : FrL h h') : FrD h h' := ⟨fun a h1 _ h3 => f.1 a h1 h3, f.2⟩
theorem p_num_in {tape : List Int32} {lo hi : Int32} {p : PS} {t : Tok} (h : (p_num tape lo hi p).2 = .inr t) : inR (p_num tape lo hi p).1 lo hi = true ∧ ∃ u, p = .inr u := by
  match p, h with
  | .inl e, h => cases h
  | .inr (s, n, k, v), h =>
    rw [p_num_r] at h ⊢
    by_cases e : k = 2
    · rw [if_neg (show ¬ ¬ k = 2 from fun z => z e)] at h ⊢
      cases e2 : inR v lo hi
      · rw [if_pos e2] at h
        cases h
      · rw [if_neg (show ¬ true = false by decide)]
        exact ⟨e2, _, rfl⟩
    · rw [if_pos e] at h
      cases h
theorem p_path_inl {tape : List Int32} {top : Int32} {d : Nat} {l : List Int32} {e : Int32 × Nat} : p_path tape top d (l, .inl e) = (l, .inl e) := by cases d <;> rfl
theorem p_fil_in {tape : List Int32} {top : Int32} {p : PS} {t : Tok} (h : (p_fil tape top p).2 = .inr t) : ∃ u, p = .inr u := by
  match p, h with
  | .inl e, h =>
    have : p_fil tape top (.inl e) = ([], .inl e) := p_path_inl
    rw [this] at h
    cases h
  | .inr u, h => exact ⟨u, rfl⟩
def A_dsub (dr : St) (c : Nat) (l : List Int32) (pr g : Int32) : St := sC dr c (sS (sS (sS (sT (dr.2.2 c) 3 ((dr.2.2 c).2 3 ++ [[g5 l 0, g5 l 1, g5 l 2, g5 l 3, pr, g]])) 0 2) 1 99) 2 99)
def p_sub1 (dr : St) (c : Int32) (l : List Int32) (pr g : Int32) : PS → St × PS
  | .inl e => (dr, .inl e)
  | .inr (s, n, k, v) => if ¬ k = 59 then (dr, .inl (2, s)) else if ¬ sbIx ((dr.2.2 c.toNatClampNeg).2 3) (g5 l) g = -4 then (dr, .inl (4, s)) else if 6 ≤ ((dr.2.2 c.toNatClampNeg).2 3).length then (dr, .inl (5, s)) else (A_dsub dr c.toNatClampNeg l pr g, .inr (s, n, k, v))
theorem p_sub1_r (dr : St) (c : Int32) (l : List Int32) (pr g : Int32) (s n : Nat) (k v : Int32) : p_sub1 dr c l pr g (.inr (s, n, k, v)) = if ¬ k = 59 then (dr, .inl (2, s)) else if ¬ sbIx ((dr.2.2 c.toNatClampNeg).2 3) (g5 l) g = -4 then (dr, .inl (4, s)) else if 6 ≤ ((dr.2.2 c.toNatClampNeg).2 3).length then (dr, .inl (5, s)) else (A_dsub dr c.toNatClampNeg l pr g, .inr (s, n, k, v)) := rfl
def p_sub (tape : List Int32) (dr : St) (p : PS) : St × PS :=
  p_sub1 dr (p_num tape 0 5 p).1 (p_fil tape 0 (p_num tape 0 5 p).2).1 (p_num tape 0 2 (p_fil tape 0 (p_num tape 0 5 p).2).2).1 (p_num tape 0 3 (p_num tape 0 2 (p_fil tape 0 (p_num tape 0 5 p).2).2).2).1 (p_num tape 0 3 (p_num tape 0 2 (p_fil tape 0 (p_num tape 0 5 p).2).2).2).2
theorem M_sub115F {h : Mem} {tape : List Int32} {e : Int32 × Nat} (ht : tape.length ≤ 200) (R : RPm h tape (.inl e)) (a1 a2 a3 x : Int32) : Tr (f_X8_readsSub_115 390 a1 a2 a3 390 x h) (fun _ h' => RPm h' tape (.inl e) ∧ Fr h h') := by
  unfold f_X8_readsSub_115
  refine wB (M_must R ht x 5 (by decide)) (fun _ g1 P => ?_)
  have P1 : RPm g1 tape (.inl e) := by
    have := P.1
    split at this <;> exact this
  rw [if_neg (by rw [P1.1]; exact pos_n0 P1.2.1)]
  exact wR ⟨P1, P.2⟩
theorem M_sub83F {h : Mem} {tape : List Int32} {e : Int32 × Nat} (ht : tape.length ≤ 200) (R : RPm h tape (.inl e)) (a1 a2 a3 x : Int32) : Tr (f_X8_readsSub_83 390 a1 a2 a3 390 x h) (fun _ h' => RPm h' tape (.inl e) ∧ Fr h h') := by
  unfold f_X8_readsSub_83 f_X8_readsSub_110
  refine wB (M_must R ht x 4 (by decide)) (fun _ g1 P => ?_)
  have P1 : RPm g1 tape (.inl e) := by
    have := P.1
    split at this <;> exact this
  rw [if_pos (by rw [P1.1]; exact P1.2.1)]
  exact wM (M_sub115F ht P1 a1 a2 a3 1) (fun _ g2 Q => ⟨Q.1, P.2.tr Q.2⟩)
theorem M_sub48F {h : Mem} {tape : List Int32} {e : Int32 × Nat} (ht : tape.length ≤ 200) (R : RPm h tape (.inl e)) (a1 a2 a3 x : Int32) : Tr (f_X8_readsSub_48 390 a1 a2 a3 390 x h) (fun _ h' => RPm h' tape (.inl e) ∧ Fr h h') := by
  unfold f_X8_readsSub_48 f_X8_readsSub_78
  refine wB (M_must R ht x 2 (by decide)) (fun _ g1 P => ?_)
  have P1 : RPm g1 tape (.inl e) := by
    have := P.1
    split at this <;> exact this
  rw [if_pos (by rw [P1.1]; exact P1.2.1)]
  exact wM (M_sub83F ht P1 a1 a2 a3 1) (fun _ g2 Q => ⟨Q.1, P.2.tr Q.2⟩)
theorem xl_397' : 4 ≤ xln 397 := by rw [xl_397]; omega
theorem M_sub115 {h : Mem} {tape : List Int32} {dr : St} {c s n : Nat} {k v : Int32} {l : List Int32} (ht : tape.length ≤ 200) (hc : c < 6) (R : RPm h tape (.inr (s, n, k, v))) (L : LvM h l) (D : RM (h 392) dr) (hl : ((dr.2.2 c).2 3).length < 6) (pr g : Int32) : Tr (f_X8_readsSub_115 390 (nI c) pr g 390 1 h) (fun _ h' => RPm h' tape (.inr (s, n, k, v)) ∧ RM (h' 392) (A_dsub dr c l pr g) ∧ FrD h h') := by
  unfold f_X8_readsSub_115
  refine wB (M_must R ht 1 5 (by decide)) (fun _ g1 P => ?_)
  rw [if_neg (show ¬ (1 : Int32) = 0 by decide)] at P
  have D1 : RM (g1 392) dr := by rw [P.2.1 392 (by omega)]; exact D
  have L1 := L.fr P.2
  rw [if_pos P.1.1, xr_1, xr_14]
  refine wB (M_subComes hc xl_392 xl_397' (by omega) (D1.2.2.2.2 c hc) hl pr g) (fun _ g2 Q => ?_)
  rw [L1.2.2 0 (by omega), L1.2.2 1 (by omega), L1.2.2 2 (by omega), L1.2.2 3 (by omega)] at Q
  have o0 : f_X8_at (nI c) 0 g2 = some (nI (308 + 961 * c + 0), g2) := by rw [li_0, M_at]
  have o1 : ∀ q, f_X8_at (nI c) 1 q = some (nI (308 + 961 * c + 1), q) := fun q => by rw [li_1, M_at]
  have o2 : ∀ q, f_X8_at (nI c) 2 q = some (nI (308 + 961 * c + 2), q) := fun q => by rw [li_2, M_at]
  rw [o0, b2_some, as_392 (by omega), o1, b2_some, as_392 (by omega), o2, b2_some, as_392 (by omega)]
  refine wR ⟨?_, ?_, ?_⟩
  · refine P.1.fz (fun x hx => ?_)
    rw [mu_rdk (by omega), mu_rdk (by omega), mu_rdk (by omega), Q.1 390 (by omega)]
  · refine RM.blk hc D1 ?_ (fun x hx => ?_) rfl rfl rfl rfl
    · refine ((Q.2.1.sc (k0 := 0) (v := 2) (b' := bk (mu g2 392 (308 + 961 * c + 0) 2 392) c) (by omega) rfl ?_ ?_).sc (k0 := 1) (v := 99) (b' := bk (mu (mu g2 392 (308 + 961 * c + 0) 2) 392 (308 + 961 * c + 1) 99 392) c) (by omega) rfl ?_ ?_).sc (k0 := 2) (v := 99) (by omega) rfl ?_ ?_
      · simp only [bk]; rw [mu_rde rfl]
      · intro j hj hj2; simp only [bk]; rw [mu_rdn (by omega)]
      · simp only [bk]; rw [mu_rde rfl]
      · intro j hj hj2; simp only [bk]; rw [mu_rdn (by omega)]
      · simp only [bk]; rw [mu_rde rfl]
      · intro j hj hj2; simp only [bk]; rw [mu_rdn (by omega)]
    · rw [mu_rdn (by omega), mu_rdn (by omega), mu_rdn (by omega), Q.2.2 x hx]
  · refine ⟨fun a h1 h2 h3 => ?_, fun x hx => ?_⟩
    · rw [mu_ne h2, mu_ne h2, mu_ne h2, Q.1 a h2, P.2.1 a h1]
    · rw [mu_rdk (by omega), mu_rdk (by omega), mu_rdk (by omega), Q.1 390 (by omega), P.2.2 x (by omega)]
theorem M_sub43 {h : Mem} {tape : List Int32} {dr : St} {c s n : Nat} {k v : Int32} {l : List Int32} (ht : tape.length ≤ 200) (hc : c < 6) (R : RPm h tape (.inr (s, n, k, v))) (L : LvM h l) (D : RM (h 392) dr) (ek : k = 59) (pr g : Int32) : Tr (f_X8_readsSub_48 390 (nI c) pr g 390 1 h) (fun _ h' => RPm h' tape (p_sub1 dr (nI c) l pr g (.inr (s, n, k, v))).2 ∧ RM (h' 392) (p_sub1 dr (nI c) l pr g (.inr (s, n, k, v))).1 ∧ FrD h h') := by
  have e0 : p_sub1 dr (nI c) l pr g (.inr (s, n, k, v)) = if ¬ sbIx ((dr.2.2 c).2 3) (g5 l) g = -4 then (dr, .inl (4, s)) else if 6 ≤ ((dr.2.2 c).2 3).length then (dr, .inl (5, s)) else (A_dsub dr c l pr g, .inr (s, n, k, v)) := by
    rw [p_sub1_r, if_neg (show ¬ ¬ k = 59 from fun z => z ek), nI_clamp (by omega)]
  rw [e0]
  have Dc := D.2.2.2.2 c hc
  have q3 := (Dc.2 3 rfl).2.1
  rw [tc_3] at q3
  unfold f_X8_readsSub_48 f_X8_readsSub_78
  refine wB (M_must R ht 1 2 (by decide)) (fun _ g1 P => ?_)
  rw [if_neg (show ¬ (1 : Int32) = 0 by decide)] at P
  have D1 : RM (g1 392) dr := by rw [P.2.1 392 (by omega)]; exact D
  have L1 := L.fr P.2
  rw [if_neg (by rw [P.1.1]; decide), xr_1, xr_14, M_subOf hc xl_392 xl_397' (D1.2.2.2.2 c hc), b2_some, sbIx_congr L1.2.2]
  by_cases e1 : sbIx ((dr.2.2 c).2 3) (g5 l) g = -4
  · rw [if_pos e1, if_neg (show ¬ ¬ sbIx ((dr.2.2 c).2 3) (g5 l) g = -4 from fun z => z e1)]
    unfold f_X8_readsSub_83 f_X8_readsSub_110
    refine wB (M_must P.1 ht 1 4 (by decide)) (fun _ g2 Q => ?_)
    rw [if_neg (show ¬ (1 : Int32) = 0 by decide)] at Q
    have D2 : RM (g2 392) dr := by rw [Q.2.1 392 (by omega)]; exact D1
    have L2 := L1.fr Q.2
    have c3 : g2 392 (308 + 961 * c + 3) = nI ((dr.2.2 c).2 3).length := ((D2.2.2.2.2 c hc).2 3 rfl).1
    have o3 : f_X8_at (nI c) 3 g2 = some (nI (308 + 961 * c + 3), g2) := by rw [li_3, M_at]
    rw [if_neg (by rw [Q.1.1]; decide), o3, b2_some, xr_1, al_392 (by omega), c3]
    by_cases e6 : 6 ≤ ((dr.2.2 c).2 3).length
    · rw [if_pos (by rw [li_6, nI_leI (by omega) (by omega)]; exact e6), if_pos e6]
      unfold f_X8_readsSub_115
      refine wB (M_must Q.1 ht 0 5 (by decide)) (fun _ g3 S => ?_)
      rw [if_pos rfl] at S
      have S1 : RPm g3 tape (.inl (5, s)) := S.1
      rw [if_neg (by rw [S1.1]; decide)]
      exact wR ⟨S1, by rw [S.2.1 392 (by omega)]; exact D2, ((P.2.tr Q.2).tr S.2).l.d⟩
    · rw [if_neg (by rw [li_6, nI_leI (by omega) (by omega)]; exact e6), if_neg e6]
      exact wM (M_sub115 ht hc Q.1 L2 D2 (by omega) pr g) (fun _ g3 S => ⟨S.1, S.2.1, (P.2.tr Q.2).l.d.tr S.2.2⟩)
  · rw [if_neg e1, if_pos e1]
    unfold f_X8_readsSub_83 f_X8_readsSub_110
    refine wB (M_must P.1 ht 0 4 (by decide)) (fun _ g2 Q => ?_)
    rw [if_pos rfl] at Q
    have Q1 : RPm g2 tape (.inl (4, s)) := Q.1
    rw [if_pos (by rw [Q1.1]; decide)]
    refine wM (M_sub115F ht Q1 (nI c) pr g 1) (fun _ g3 S => ⟨S.1, ?_, ((P.2.tr Q.2).tr S.2).l.d⟩)
    rw [S.2.1 392 (by omega), Q.2.1 392 (by omega)]
    exact D1
theorem p_sub1_ok {dr : St} {c : Int32} {l : List Int32} {pr g : Int32} {p : PS} (h : TkO p) : TkO (p_sub1 dr c l pr g p).2 := by
  match p, h with
  | .inl _, _ => trivial
  | .inr (s, n, k, v), h =>
    rw [p_sub1_r]
    split
    · trivial
    split
    · trivial
    split
    · trivial
    · exact h
theorem M_readsSub {h : Mem} {tape : List Int32} {dr : St} {p : PS} (t : TpM h tape) (R : RPm h tape p) (ok : TkO p) (D : RM (h 392) dr) : Tr (f_X8_readsSub 390 h) (fun _ h' => RPm h' tape (p_sub tape dr p).2 ∧ TkO (p_sub tape dr p).2 ∧ RM (h' 392) (p_sub tape dr p).1 ∧ FrD h h') := by
  have t2 := t.2.1
  unfold f_X8_readsSub p_sub
  refine wB (M_number t R 0 5) (fun c g1 P1 => ?_)
  have ta := t.fr P1.2.2
  refine wB (M_readsFilter ta P1.2.1 (p_num_ok _ _ _ _) 0) (fun _ g2 P2 => ?_)
  have tb := ta.frl P2.2.2.2
  refine wB (M_number tb P2.1 0 2) (fun pr g3 P3 => ?_)
  have tc := tb.fr P3.2.2
  have L3 := P2.2.2.1.fr P3.2.2
  refine wB (M_number tc P3.2.1 0 3) (fun g g4 P4 => ?_)
  have L4 := L3.fr P4.2.2
  have F4 : FrL h g4 := ((P1.2.2.l.tr P2.2.2.2).tr P3.2.2.l).tr P4.2.2.l
  have D4 : RM (g4 392) dr := by rw [F4.1 392 (by omega) (by omega)]; exact D
  have P4r := P4.2.1
  have o4 := p_num_ok tape 0 3 (p_num tape 0 2 (p_fil tape 0 (p_num tape 0 5 p).2).2).2
  rw [← P1.1, ← P3.1, ← P4.1]
  have hin : ∀ u, (p_num tape 0 3 (p_num tape 0 2 (p_fil tape 0 (p_num tape 0 5 p).2).2).2).2 = .inr u → ∃ m, m < 6 ∧ c = nI m := by
    intro u hu
    obtain ⟨_, u1, e1⟩ := p_num_in hu
    obtain ⟨_, u2, e2⟩ := p_num_in e1
    obtain ⟨u3, e3⟩ := p_fil_in e2
    obtain ⟨z, _⟩ := p_num_in e3
    rw [← P1.1] at z
    obtain ⟨m, hm, e⟩ := inR_ex (b := 5) (by omega) z
    exact ⟨m, by omega, e⟩
  generalize (p_num tape 0 3 (p_num tape 0 2 (p_fil tape 0 (p_num tape 0 5 p).2).2).2).2 = q at P4r o4 hin ⊢
  unfold f_X8_readsSub_43
  match q, P4r, o4, hin with
  | .inl e, Rq, oq, _ =>
    rw [if_pos (by rw [Rq.1]; exact Rq.2.1)]
    refine wM (M_sub48F t2 Rq c pr g 1) (fun _ g5' S => ⟨S.1, trivial, ?_, F4.d.tr S.2.l.d⟩)
    show RM (g5' 392) dr
    rw [S.2.1 392 (by omega)]
    exact D4
  | .inr (s, n, k, v), Rq, oq, hin =>
    obtain ⟨m, hm, rfl⟩ := hin _ rfl
    rw [if_neg (by rw [Rq.1]; decide), M_isSign Rq oq (c := 59) (by decide), b2_some]
    by_cases ek : k = 59
    · rw [if_pos ek, if_neg (by decide)]
      exact wM (M_sub43 t2 hm Rq L4 D4 ek pr g) (fun _ g5' S => ⟨S.1, p_sub1_ok oq, S.2.1, F4.d.tr S.2.2⟩)
    · rw [if_neg ek, if_pos rfl]
      have e0 : ∀ l, p_sub1 dr (nI m) l pr g (.inr (s, n, k, v)) = (dr, .inl (2, s)) := by
        intro l
        rw [p_sub1_r, if_pos ek]
      rw [e0]
      unfold f_X8_readsSub_48 f_X8_readsSub_78
      refine wB (M_must Rq t2 0 2 (by decide)) (fun _ g5' S => ?_)
      rw [if_pos rfl] at S
      have S1 : RPm g5' tape (.inl (2, s)) := S.1
      rw [if_pos (by rw [S1.1]; decide)]
      refine wM (M_sub83F t2 S1 (nI m) pr g 1) (fun _ g6 U => ⟨U.1, trivial, ?_, F4.d.tr (S.2.tr U.2).l.d⟩)
      show RM (g6 392) dr
      rw [U.2.1 392 (by omega), S.2.1 392 (by omega)]
      exact D4
