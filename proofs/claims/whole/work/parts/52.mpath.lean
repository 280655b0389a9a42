/-! the reader: levels and paths -/
theorem p_lev_r (tape : List Int32) (top : Int32) (l : List Int32) (s n : Nat) (k v : Int32) : p_lev tape top l (.inr (s, n, k, v)) = match lvAt top s n k v with
    | none => (l, .inl (2, s))
    | some x => (l ++ [x], tkA tape n) := rfl
theorem M_readsLevel {h : Mem} {tape : List Int32} {p : PS} {l : List Int32} (t : TpM h tape) (R : RPm h tape p) (ok : TkO p) (L : LvM h l) (hl : l.length < 4) (top : Int32) : Tr (f_X8_readsLevel 390 top h) (fun _ h' => RPm h' tape (p_lev tape top l p).2 ∧ LvM h' (p_lev tape top l p).1 ∧ FrL h h') := by
  have t2 := t.2.1
  unfold f_X8_readsLevel f_X8_readsLevel_25
  match p, R, ok with
  | .inl (f, pl), R, ok =>
    show Tr _ (fun _ h' => RPm h' tape (.inl (f, pl)) ∧ LvM h' l ∧ FrL h h')
    have b59 : ∀ a2 s1, Tr (f_X8_readsLevel_59 390 a2 390 s1 h) (fun _ h' => RPm h' tape (.inl (f, pl)) ∧ LvM h' l ∧ FrL h h') := by
      intro a2 s1
      unfold f_X8_readsLevel_59 f_X8_readsLevel_121
      refine wB (M_must R t2 s1 2 (by decide)) (fun _ g1 P => ?_)
      have P1 : RPm g1 tape (.inl (f, pl)) := by
        have := P.1
        split at this <;> exact this
      rw [if_neg (by rw [P1.1]; exact pos_n0 P1.2.1)]
      exact wB (M_reads (t.fr P.2) P1) (fun _ g2 Q => wR ⟨Q.1, (L.fr P.2).fr Q.2, (P.2.tr Q.2).l⟩)
    have b26 : ∀ s0, Tr (f_X8_readsLevel_26 390 top s0 h) (fun _ h' => RPm h' tape (.inl (f, pl)) ∧ LvM h' l ∧ FrL h h') := by
      intro s0
      unfold f_X8_readsLevel_26 f_X8_readsLevel_54 f_X8_readsLevel_58
      obtain ⟨b1, e1⟩ := M_isSign' (h := h) (c := 43)
      obtain ⟨b2, e2⟩ := M_isSign' (h := h) (c := 35)
      rw [e1, b2_some, e2, b2_some]
      exact wIf (fun _ => wIf (fun _ => wIf (fun _ => wIf (fun _ => b59 _ _) (fun _ => b59 _ _)) (fun _ => b59 _ _)) (fun _ => b59 _ _)) (fun _ => b59 _ _)
    exact wIf (fun _ => wIf (fun _ => b26 _) (fun _ => b26 _)) (fun _ => b26 _)
  | .inr (s, n, k, v), R, ok =>
    obtain ⟨r1, r2, r3, r4, r5, r6, r7⟩ := id R
    rw [p_lev_r, r6, r2, r3, nI_subP r4]
    -- no level
    have no : ∀ a2, Tr (f_X8_readsLevel_59 390 a2 390 0 h) (fun _ h' => RPm h' tape (.inl (2, s)) ∧ LvM h' l ∧ FrL h h') := by
      intro a2
      unfold f_X8_readsLevel_59 f_X8_readsLevel_121
      refine wB (M_must R t2 0 2 (by decide)) (fun _ g1 P => ?_)
      rw [if_pos rfl] at P
      have P1 : RPm g1 tape (.inl (2, s)) := P.1
      rw [if_neg (by rw [P1.1]; decide)]
      exact wB (M_reads (t.fr P.2) P1) (fun _ g2 Q => wR ⟨Q.1, (L.fr P.2).fr Q.2, (P.2.tr Q.2).l⟩)
    have yes : ∀ a2, ¬ k = 0 → Tr (f_X8_readsLevel_59 390 a2 390 1 h) (fun _ h' => RPm h' tape (tkA tape n) ∧ LvM h' (l ++ [if a2 = 0 then (if v = 43 then 27 else 28) else v - 97 + 1]) ∧ FrL h h') := by
      intro a2 k0
      unfold f_X8_readsLevel_59
      refine wB (M_must R t2 1 2 (by decide)) (fun _ g1 P => ?_)
      rw [if_neg (show ¬ (1 : Int32) = 0 by decide)] at P
      have q8 : g1 390 8 = 0 := P.1.1
      have q13 : g1 390 13 = v := P.1.2.2.2.2.2.2 k0
      rw [if_pos q8, q13, xr_14]
      by_cases ea : a2 = 0
      · rw [if_pos ea, if_pos ea]
        by_cases ev : v = 43
        · rw [if_pos ev, if_pos ev]
          exact wM (M_rl110 (t.fr P.2) P.1 (L.fr P.2) hl 27) (fun _ g2 Q => ⟨Q.1, Q.2.1, P.2.l.tr Q.2.2⟩)
        · rw [if_neg ev, if_neg ev]
          exact wM (M_rl110 (t.fr P.2) P.1 (L.fr P.2) hl 28) (fun _ g2 Q => ⟨Q.1, Q.2.1, P.2.l.tr Q.2.2⟩)
      · rw [if_neg ea, if_neg ea]
        exact wM (M_rl110 (t.fr P.2) P.1 (L.fr P.2) hl _) (fun _ g2 Q => ⟨Q.1, Q.2.1, P.2.l.tr Q.2.2⟩)
    have ns : ¬ (k = 1 ∧ n - s = 1) → Tr (f_X8_readsLevel_26 390 top 0 h) (fun _ h' => RPm h' tape (match lvAt top s n k v with | none => (l, (.inl (2, s) : PS)) | some x => (l ++ [x], tkA tape n)).2 ∧ LvM h' (match lvAt top s n k v with | none => (l, (.inl (2, s) : PS)) | some x => (l ++ [x], tkA tape n)).1 ∧ FrL h h') := by
      intro hn
      have hlv : lvAt top s n k v = if top = 0 ∧ k = 43 then some 27 else if top = 0 ∧ k = 35 then some 28 else none := by
        unfold lvAt
        rw [if_neg hn]
      rw [hlv]
      unfold f_X8_readsLevel_26 f_X8_readsLevel_54 f_X8_readsLevel_58
      rw [if_pos rfl]
      by_cases et : top = 0
      · rw [if_pos et, M_isSign R ok (c := 43) (by decide), b2_some]
        by_cases e1 : k = 43
        · rw [if_pos e1, if_neg (by decide), if_pos ⟨et, e1⟩]
          have z := yes 0 (by rw [e1]; decide)
          rw [if_pos rfl, ok.1 (by rw [e1]; decide), if_pos e1] at z
          exact z
        · rw [if_neg e1, if_pos rfl, if_neg (fun z => e1 z.2), M_isSign R ok (c := 35) (by decide), b2_some]
          by_cases e2 : k = 35
          · rw [if_pos e2, if_neg (by decide), if_pos ⟨et, e2⟩]
            have z := yes 0 (by rw [e2]; decide)
            rw [if_pos rfl, ok.1 (by rw [e2]; decide), if_neg e1] at z
            exact z
          · rw [if_neg e2, if_pos rfl, if_neg (fun z => e2 z.2)]
            exact no 0
      · rw [if_neg et, if_neg (fun z => et z.1), if_neg (fun z => et z.1)]
        exact no 0
    by_cases e1 : k = 1
    · rw [if_pos (tkk_1.mpr e1)]
      by_cases e2 : n - s = 1
      · have hlv : lvAt top s n k v = some (v - 97 + 1) := by
          unfold lvAt
          rw [if_pos ⟨e1, e2⟩]
        rw [if_pos (by rw [e2]; rfl), hlv]
        unfold f_X8_readsLevel_26 f_X8_readsLevel_54
        rw [if_neg (by decide)]
        have z := yes 1 (by rw [e1]; decide)
        rw [if_neg (by decide)] at z
        exact z
      · rw [if_neg (by rw [li_1, nI_eq (by omega) (by omega)]; exact e2)]
        exact ns (fun z => e2 z.2)
    · rw [if_neg (fun z => e1 (tkk_1.mp z))]
      exact ns (fun z => e1 z.1)
theorem p_lev_ok (tape : List Int32) (top : Int32) (l : List Int32) (p : PS) : TkO (p_lev tape top l p).2 := by
  match p with
  | .inl _ => trivial
  | .inr (s, n, k, v) =>
    rw [p_lev_r]
    cases lvAt top s n k v with
    | none => trivial
    | some x => exact tkA_ok _ _
theorem p_lev_len (tape : List Int32) (top : Int32) (l : List Int32) (p : PS) : (p_lev tape top l p).1.length = l.length + 1 ∨ ((p_lev tape top l p).1 = l ∧ ∃ e, (p_lev tape top l p).2 = .inl e) := by
  match p with
  | .inl e => exact Or.inr ⟨rfl, e, rfl⟩
  | .inr (s, n, k, v) =>
    rw [p_lev_r]
    cases lvAt top s n k v with
    | none => exact Or.inr ⟨rfl, _, rfl⟩
    | some x => exact Or.inl (by simp)
def p_path (tape : List Int32) (top : Int32) : Nat → List Int32 × PS → List Int32 × PS
  | 0, s => s
  | _ + 1, (l, .inl e) => (l, .inl e)
  | d + 1, (l, .inr (s, n, k, v)) => if k = 47 then (if 4 ≤ l.length ∨ g5 l (l.length - 1) = 28 then (l, .inl (2, s)) else p_path tape top d (p_lev tape top l (tkA tape n))) else (l, .inr (s, n, k, v))
theorem M_rf30 {tape : List Int32} (top : Int32) : ∀ (d m : Nat) (lp : List Int32 × PS) (h : Mem), d + 1 < m → TpM h tape → RPm h tape lp.2 → TkO lp.2 → LvM h lp.1 → (1 ≤ lp.1.length ∧ 5 ≤ d + lp.1.length ∨ ∃ e, lp.2 = .inl e) → Tr (f_X8_readsFilter_30 m 390 top h) (fun _ h' => RPm h' tape (p_path tape top d lp).2 ∧ TkO (p_path tape top d lp).2 ∧ LvM h' (p_path tape top d lp).1 ∧ FrL h h') := by
  have flt : ∀ (m d : Nat) (l : List Int32) (e : Int32 × Nat) (h : Mem), RPm h tape (.inl e) → LvM h l → Tr (f_X8_readsFilter_30 (m + 1) 390 top h) (fun _ h' => RPm h' tape (p_path tape top d (l, .inl e)).2 ∧ TkO (p_path tape top d (l, .inl e)).2 ∧ LvM h' (p_path tape top d (l, .inl e)).1 ∧ FrL h h') := by
    intro m d l e h R L
    unfold f_X8_readsFilter_30
    have e0 : p_path tape top d (l, .inl e) = (l, .inl e) := by cases d <;> rfl
    rw [e0, if_neg (by rw [R.1]; exact pos_n0 R.2.1)]
    exact wR ⟨R, trivial, L, Fr.rf.l⟩
  intro d
  induction d with
  | zero =>
    intro m lp h hm t R ok L hd
    obtain ⟨m, rfl⟩ : ∃ z, m = z + 1 := ⟨m - 1, by omega⟩
    rcases hd with hd | ⟨e, he⟩
    · have := L.2.1
      omega
    · obtain ⟨l, p⟩ := lp
      have he : p = .inl e := he
      subst he
      exact flt m 0 l e h R L
  | succ d ih =>
    intro m lp h hm t R ok L hd
    obtain ⟨m, rfl⟩ : ∃ z, m = z + 1 := ⟨m - 1, by omega⟩
    obtain ⟨l, p⟩ := lp
    match p, R, ok, hd with
    | .inl e, R, ok, hd => exact flt m (d + 1) l e h R L
    | .inr (s, n, k, v), R, ok, hd =>
      have hl : 1 ≤ l.length ∧ 5 ≤ d + 1 + l.length := by
        rcases hd with z | ⟨e, z⟩
        · exact z
        · cases z
      have t2 := t.2.1
      have l4 : l.length ≤ 4 := L.2.1
      have q15 : h 390 15 = nI l.length := L.1
      have e0 : p_path tape top (d + 1) (l, .inr (s, n, k, v)) = if k = 47 then (if 4 ≤ l.length ∨ g5 l (l.length - 1) = 28 then (l, .inl (2, s)) else p_path tape top d (p_lev tape top l (tkA tape n))) else (l, .inr (s, n, k, v)) := rfl
      have R : RPm h tape (.inr (s, n, k, v)) := R
      have L : LvM h l := L
      rw [e0]
      unfold f_X8_readsFilter_30 f_X8_readsFilter_75
      rw [if_pos R.1, M_isSign R ok (c := 47) (by decide), b2_some]
      by_cases ek : k = 47
      · rw [if_pos ek, if_neg (by decide), if_pos ek, q15]
        have bad : Tr (f_X8_readsFilter_76 (f_X8_readsFilter_30 m) 390 top 390 0 h) (fun _ h' => RPm h' tape (.inl (2, s)) ∧ True ∧ LvM h' l ∧ FrL h h') := by
          unfold f_X8_readsFilter_76
          refine wB (M_must R t2 0 2 (by decide)) (fun _ g1 P => ?_)
          rw [if_pos rfl] at P
          refine wB (M_reads (t.fr P.2) P.1) (fun _ g2 Q => ?_)
          have Q1 : RPm g2 tape (.inl (2, s)) := Q.1
          rw [if_neg (by rw [Q1.1]; decide)]
          obtain ⟨m, rfl⟩ : ∃ z, m = z + 1 := ⟨m - 1, by omega⟩
          exact wM (flt m 0 l (2, s) g2 Q1 ((L.fr P.2).fr Q.2)) (fun _ g3 S => ⟨S.1, trivial, S.2.2.1, (P.2.tr Q.2).l.tr S.2.2.2⟩)
        by_cases e4 : 4 ≤ l.length
        · rw [if_pos (show (4 : Int32) ≤ nI l.length by rw [li_4, nI_leI (by omega) (by omega)]; exact e4), if_pos (Or.inl e4)]
          exact bad
        · rw [if_neg (show ¬ (4 : Int32) ≤ nI l.length by rw [li_4, nI_leI (by omega) (by omega)]; exact e4), li_1, nI_subP (by omega), xr_14, al_397 (by omega), L.2.2 _ (by omega)]
          by_cases e5 : g5 l (l.length - 1) = 28
          · rw [if_pos e5, if_pos (Or.inr e5)]
            exact bad
          · rw [if_neg e5, if_neg (fun z => z.elim e4 e5)]
            unfold f_X8_readsFilter_76
            refine wB (M_must R t2 (nI 1) 2 (by decide)) (fun _ g1 P => ?_)
            rw [if_neg (show ¬ nI 1 = 0 by decide)] at P
            refine wB (M_reads (t.fr P.2) P.1) (fun _ g2 Q => ?_)
            have Q1 : RPm g2 tape (tkA tape n) := Q.1
            have tg := (t.fr P.2).fr Q.2
            have Lg := (L.fr P.2).fr Q.2
            have og := tkA_ok tape n
            have fg := (P.2.tr Q.2).l
            generalize tkA tape n = q at Q1 og ⊢
            match q, Q1, og with
            | .inl e, Q1, og =>
              rw [if_neg (by rw [Q1.1]; exact pos_n0 Q1.2.1)]
              obtain ⟨m, rfl⟩ : ∃ z, m = z + 1 := ⟨m - 1, by omega⟩
              exact wM (flt m d l e g2 Q1 Lg) (fun _ g3 S => ⟨S.1, S.2.1, S.2.2.1, fg.tr S.2.2.2⟩)
            | .inr (s2, n2, k2, v2), Q1, og =>
              rw [if_pos Q1.1]
              refine wB (M_readsLevel tg Q1 og Lg (by omega) top) (fun _ g3 S => ?_)
              refine wM (ih m _ g3 (by omega) (tg.frl S.2.2) S.1 (p_lev_ok _ _ _ _) S.2.1 ?_) (fun _ g4 U => ⟨U.1, U.2.1, U.2.2.1, (fg.tr S.2.2).tr U.2.2.2⟩)
              rcases p_lev_len tape top l (.inr (s2, n2, k2, v2)) with z | ⟨_, z⟩
              · exact Or.inl ⟨by omega, by omega⟩
              · exact Or.inr z
      · rw [if_neg ek, if_pos rfl, if_neg ek]
        exact wR ⟨R, ok, L, Fr.rf.l⟩
def p_fil (tape : List Int32) (top : Int32) (p : PS) : List Int32 × PS := p_path tape top 4 (p_lev tape top [] p)
theorem M_readsFilter {h : Mem} {tape : List Int32} {p : PS} (t : TpM h tape) (R : RPm h tape p) (ok : TkO p) (top : Int32) : Tr (f_X8_readsFilter 390 top h) (fun _ h' => RPm h' tape (p_fil tape top p).2 ∧ TkO (p_fil tape top p).2 ∧ LvM h' (p_fil tape top p).1 ∧ FrL h h') := by
  unfold f_X8_readsFilter
  rw [mlet_eq]
  obtain ⟨z, hz⟩ := xFUs
  have e : f_X8_readsFilter_7 xFU 390 top 0 (mu h 390 15 0) = b2 (f_X8_readsLevel 390 top (set4 (mu h 390 15 0) 397 (fun _ => 0))) fun _ h1 => f_X8_readsFilter_30 xFU 390 top h1 := by
    rw [← mu4]
    have st : ∀ (n k : Nat) (g : Mem), k < 4 → f_X8_readsFilter_7 (n + 1) 390 top (nI k) g = f_X8_readsFilter_7 n 390 top (nI (k + 1)) (mu g 397 k 0) := by
      intro n k g hk
      generalize hY : f_X8_readsFilter_7 n 390 top (nI (k + 1)) (mu g 397 k 0) = Y
      unfold f_X8_readsFilter_7
      rw [if_neg (by rw [li_4, nI_leI (by omega) (by omega)]; omega), xr_14, as_397 (by omega), show nI k + 1 = nI (k + 1) by rw [li_1, nI_add]]
      exact hY
    have fin : ∀ (n : Nat) (g : Mem), f_X8_readsFilter_7 (n + 1) 390 top (nI 4) g = b2 (f_X8_readsLevel 390 top g) fun _ h1 => f_X8_readsFilter_30 xFU 390 top h1 := by
      intro n g
      unfold f_X8_readsFilter_7
      rw [if_pos (show (4 : Int32) ≤ nI 4 by decide)]
    have e0 : f_X8_readsFilter_7 xFU 390 top 0 (mu h 390 15 0) = f_X8_readsFilter_7 (z + 5 + 5) 390 top (nI 0) (mu h 390 15 0) := by rw [hz]; rfl
    rw [e0, st _ 0 _ (by omega), st _ 1 _ (by omega), st _ 2 _ (by omega), st _ 3 _ (by omega), fin]
  rw [e]
  have f1 : FrL h (set4 (mu h 390 15 0) 397 (fun _ => 0)) := ⟨fun a h1 h2 => by rw [set4_ne h2, mu_ne h1], fun x hx => by rw [set4_ne (by omega), mu_rdn (by omega)]⟩
  have R1 : RPm (set4 (mu h 390 15 0) 397 (fun _ => 0)) tape p := R.fz (fun x hx => by rw [set4_ne (by omega), mu_rdn (by omega)])
  have L1 : LvM (set4 (mu h 390 15 0) 397 (fun _ => 0)) [] := ⟨by rw [set4_ne (by omega), mu_rde rfl]; rfl, by simp, fun j hj => by rw [set4_in hj]; rfl⟩
  refine wB (M_readsLevel (t.frl f1) R1 ok L1 (by simp) top) (fun _ g P => ?_)
  refine wM (M_rf30 top 4 xFU _ g (by unfold xFU; omega) ((t.frl f1).frl P.2.2) P.1 (p_lev_ok _ _ _ _) P.2.1 ?_) (fun _ g2 Q => ⟨Q.1, Q.2.1, Q.2.2.1, (f1.tr P.2.2).tr Q.2.2.2⟩)
  rcases p_lev_len tape top [] p with q | ⟨_, q⟩
  · exact Or.inl ⟨by simp at q; omega, by simp at q; omega⟩
  · exact Or.inr q
