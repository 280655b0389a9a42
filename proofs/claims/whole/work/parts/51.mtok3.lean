/-! the reader: numbers, levels, paths -/
def TkO : PS → Prop
  | .inl _ => True
  | .inr (s, n, k, v) => (tkk k = 3 → v = k) ∧ (¬ k = 0 → s < n)
theorem tk1_ok (tape : List Int32) (s : Nat) : TkO (tk1 tape s) := by
  unfold tk1
  split
  · exact ⟨fun z => absurd z (by decide), fun z => absurd rfl z⟩
  split
  · rename_i e0 e
    refine ⟨fun z => absurd z (by decide), fun _ => ?_⟩
    have hl : s < tape.length := by
      rcases Nat.lt_or_ge s tape.length with z | z
      · exact z
      · exact absurd (byt_end z) e0
    have e5 : tape.length - s = (tape.length - s - 1) + 1 := by omega
    show s < ltF tape (tape.length - s) s
    rw [e5]
    unfold ltF
    rw [if_pos e]
    have := (ltF_le tape (tape.length - s - 1) (s + 1)).1
    omega
  split
  · rename_i e0 _ e
    split
    · trivial
    · refine ⟨fun z => absurd z (by decide), fun _ => ?_⟩
      have hl : s < tape.length := by
        rcases Nat.lt_or_ge s tape.length with z | z
        · exact z
        · exact absurd (byt_end z) e0
      have e5 : tape.length - s = (tape.length - s - 1) + 1 := by omega
      show s < fgF tape (tape.length - s) s
      rw [e5]
      unfold fgF
      rw [if_pos e]
      have := (fgF_le tape (tape.length - s - 1) (s + 1)).1
      omega
  split
  · exact ⟨fun _ => rfl, fun _ => Nat.lt_succ_self s⟩
  · trivial
theorem tkA_ok (tape : List Int32) (k : Nat) : TkO (tkA tape k) := tk1_ok tape _
def p_adv (tape : List Int32) : PS → PS
  | .inl e => .inl e
  | .inr t => tkA tape t.2.1
theorem pos_n0 {f : Int32} (h : 0 < f) : ¬ f = 0 := by
  intro z
  rw [z] at h
  exact absurd h (by decide)
theorem M_reads {h : Mem} {tape : List Int32} {p : PS} (t : TpM h tape) (R : RPm h tape p) : Tr (f_X8_reads 390 h) (fun _ h' => RPm h' tape (p_adv tape p) ∧ Fr h h') := by
  unfold f_X8_reads
  match p, R with
  | .inl (f, pl), R =>
    obtain ⟨r1, r2, r3, r4⟩ := R
    rw [r1, if_neg (Int32.not_le.mpr r2)]
    exact wR ⟨⟨r1, r2, r3, r4⟩, Fr.rf⟩
  | .inr (s, n, k, v), R =>
    obtain ⟨r1, r2, r3, r4, r5, r6, r7⟩ := R
    have t2 := t.2.1
    rw [if_pos (by rw [r1]; decide)]
    exact M_rd8 (tape.length - n) n xFU h (by omega) (by unfold xFU; omega) t r1 r2
def p_num (tape : List Int32) (lo hi : Int32) : PS → Int32 × PS
  | .inl e => (0, .inl e)
  | .inr (s, n, k, v) => if ¬ k = 2 then (0, .inl (2, s)) else if inR v lo hi = false then (0, .inl (3, s)) else (v, tkA tape n)
theorem tkk_2 {k : Int32} : tkk k = 2 ↔ k = 2 := by
  unfold tkk
  constructor
  · intro h
    split at h
    · exact absurd h (by decide)
    split at h
    · exact absurd h (by decide)
    split at h
    · assumption
    · exact absurd h (by decide)
  · intro h
    subst h
    decide
theorem tkk_1 {k : Int32} : tkk k = 1 ↔ k = 1 := by
  unfold tkk
  constructor
  · intro h
    split at h
    · exact absurd h (by decide)
    split at h
    · assumption
    split at h
    · exact absurd h (by decide)
    · exact absurd h (by decide)
  · intro h
    subst h
    decide
theorem tkk_0 {k : Int32} : tkk k = 0 ↔ k = 0 := by
  unfold tkk
  constructor
  · intro h
    split at h
    · assumption
    split at h
    · exact absurd h (by decide)
    split at h
    · exact absurd h (by decide)
    · exact absurd h (by decide)
  · intro h
    subst h
    decide
theorem p_num_r (tape : List Int32) (lo hi : Int32) (s n : Nat) (k v : Int32) : p_num tape lo hi (.inr (s, n, k, v)) = if ¬ k = 2 then (0, .inl (2, s)) else if inR v lo hi = false then (0, .inl (3, s)) else (v, tkA tape n) := rfl
theorem M_number {h : Mem} {tape : List Int32} {p : PS} (t : TpM h tape) (R : RPm h tape p) (lo hi : Int32) : Tr (f_X8_number 390 lo hi h) (fun r h' => r = (p_num tape lo hi p).1 ∧ RPm h' tape (p_num tape lo hi p).2 ∧ Fr h h') := by
  have t2 := t.2.1
  -- with a fault
  have ft : ∀ (g : Mem) (f : Int32) (pl : Nat), TpM g tape → RPm g tape (.inl (f, pl)) → ∀ x, Tr (f_X8_number_46 390 390 x g) (fun r h' => r = 0 ∧ RPm h' tape (.inl (f, pl)) ∧ Fr g h') := by
    intro g f pl tg Rg x
    unfold f_X8_number_46 f_X8_number_65
    refine wB (M_must Rg t2 x 3 (by decide)) (fun _ g1 P => ?_)
    have P1 : RPm g1 tape (.inl (f, pl)) := by
      have := P.1
      split at this <;> exact this
    rw [if_neg (by rw [P1.1]; exact Int32.not_le.mpr P1.2.1)]
    exact wB (M_reads (tg.fr P.2) P1) (fun _ g2 Q => wR ⟨rfl, Q.1, P.2.tr Q.2⟩)
  have f14 : ∀ (g : Mem) (f : Int32) (pl : Nat), TpM g tape → RPm g tape (.inl (f, pl)) → ∀ x, Tr (f_X8_number_14 390 lo hi 390 x g) (fun r h' => r = 0 ∧ RPm h' tape (.inl (f, pl)) ∧ Fr g h') := by
    intro g f pl tg Rg x
    unfold f_X8_number_14 f_X8_number_41
    refine wB (M_must Rg t2 x 2 (by decide)) (fun _ g1 P => ?_)
    have P1 : RPm g1 tape (.inl (f, pl)) := by
      have := P.1
      split at this <;> exact this
    rw [if_pos (by rw [P1.1]; exact P1.2.1)]
    exact wM (ft g1 f pl (tg.fr P.2) P1 1) (fun r g2 Q => ⟨Q.1, Q.2.1, P.2.tr Q.2.2⟩)
  unfold f_X8_number
  match p, R with
  | .inl (f, pl), R =>
    show Tr _ (fun r h' => r = 0 ∧ RPm h' tape (.inl (f, pl)) ∧ Fr h h')
    refine wIf (fun _ => f14 h f pl t R 1) (fun _ => f14 h f pl t R 0)
  | .inr (s, n, k, v), R =>
    obtain ⟨r1, r2, r3, r4, r5, r6, r7⟩ := id R
    rw [r6, p_num_r]
    by_cases e : k = 2
    · rw [if_pos (tkk_2.mpr e), if_neg (show ¬ ¬ k = 2 from fun z => z e)]
      unfold f_X8_number_14 f_X8_number_41
      refine wB (M_must R t2 1 2 (by decide)) (fun _ g1 P => ?_)
      rw [if_neg (show ¬ (1 : Int32) = 0 by decide)] at P
      have q8 : g1 390 8 = 0 := P.1.1
      have q13 : g1 390 13 = v := P.1.2.2.2.2.2.2 (by rw [e]; decide)
      rw [if_neg (by rw [q8]; decide), M_in, b2_some, q13]
      simp only [bI_0]
      have tg := t.fr P.2
      cases e2 : inR v lo hi
      · rw [if_pos rfl, if_pos rfl]
        unfold f_X8_number_46 f_X8_number_65
        refine wB (M_must P.1 t2 0 3 (by decide)) (fun _ g2 Q => ?_)
        rw [if_pos rfl] at Q
        have Q1 : RPm g2 tape (.inl (3, s)) := Q.1
        rw [if_neg (by rw [Q1.1]; decide)]
        exact wB (M_reads (tg.fr Q.2) Q1) (fun _ g3 S => wR ⟨rfl, S.1, (P.2.tr Q.2).tr S.2⟩)
      · rw [if_neg (by decide), if_neg (by decide)]
        unfold f_X8_number_46 f_X8_number_65
        refine wB (M_must P.1 t2 1 3 (by decide)) (fun _ g2 Q => ?_)
        rw [if_neg (show ¬ (1 : Int32) = 0 by decide)] at Q
        have q8 : g2 390 8 = 0 := Q.1.1
        have q13 : g2 390 13 = v := Q.1.2.2.2.2.2.2 (by rw [e]; decide)
        rw [if_pos (by rw [q8]; decide), q13]
        exact wB (M_reads (tg.fr Q.2) Q.1) (fun _ g3 S => wR ⟨rfl, S.1, (P.2.tr Q.2).tr S.2⟩)
    · rw [if_neg (fun z => e (tkk_2.mp z)), if_pos e]
      unfold f_X8_number_14 f_X8_number_41
      refine wB (M_must R t2 0 2 (by decide)) (fun _ g1 P => ?_)
      rw [if_pos rfl] at P
      have P1 : RPm g1 tape (.inl (2, s)) := P.1
      rw [if_pos (by rw [P1.1]; decide)]
      exact wM (ft g1 2 s (t.fr P.2) P1 1) (fun r g2 Q => ⟨Q.1, Q.2.1, P.2.tr Q.2.2⟩)
theorem p_num_ok (tape : List Int32) (lo hi : Int32) (p : PS) : TkO (p_num tape lo hi p).2 := by
  unfold p_num
  split
  · trivial
  split
  · trivial
  split
  · trivial
  · exact tkA_ok _ _
theorem M_isSign {h : Mem} {tape : List Int32} {s n : Nat} {k v : Int32} (R : RPm h tape (.inr (s, n, k, v))) (ok : TkO (.inr (s, n, k, v))) {c : Int32} (hc : tkk c = 3) : f_X8_isSign 390 c h = some (if k = c then 1 else 0, h) := by
  obtain ⟨r1, r2, r3, r4, r5, r6, r7⟩ := R
  unfold f_X8_isSign
  rw [r6]
  by_cases e : tkk k = 3
  · have k0 : ¬ k = 0 := fun z => by rw [z] at e; exact absurd e (by decide)
    rw [if_pos e, r7 k0, ok.1 e]
    by_cases e2 : k = c
    · rw [if_pos e2, if_pos e2]
    · rw [if_neg e2, if_neg e2]
  · rw [if_neg e, if_neg (fun z => e (by rw [z]; exact hc))]
theorem M_isSign' {h : Mem} {c : Int32} : ∃ b, f_X8_isSign 390 c h = some (b, h) := by
  unfold f_X8_isSign
  split
  · split
    · exact ⟨_, rfl⟩
    · exact ⟨_, rfl⟩
  · exact ⟨_, rfl⟩
/-- the level at hand -/
def lvAt (top : Int32) (s n : Nat) (k v : Int32) : Option Int32 :=
  if k = 1 ∧ n - s = 1 then some (v - 97 + 1) else if top = 0 ∧ k = 43 then some 27 else if top = 0 ∧ k = 35 then some 28 else none
def p_lev (tape : List Int32) (top : Int32) (l : List Int32) : PS → List Int32 × PS
  | .inl e => (l, .inl e)
  | .inr (s, n, k, v) => match lvAt top s n k v with
    | none => (l, .inl (2, s))
    | some x => (l ++ [x], tkA tape n)
def LvM (h : Mem) (l : List Int32) : Prop := h 390 15 = nI l.length ∧ l.length ≤ 4 ∧ ∀ j, j < 4 → h 397 j = g5 l j
def FrL (h h' : Mem) : Prop := (∀ a, a ≠ 390 → a ≠ 397 → h' a = h a) ∧ ∀ x, x < 8 → h' 390 x = h 390 x
theorem FrL.tr {h h1 h2 : Mem} (a : FrL h h1) (b : FrL h1 h2) : FrL h h2 := ⟨fun z h1 h2 => (b.1 z h1 h2).trans (a.1 z h1 h2), fun x hx => (b.2 x hx).trans (a.2 x hx)⟩
theorem Fr.l {h h' : Mem} (f : Fr h h') : FrL h h' := ⟨fun a h1 _ => f.1 a h1, fun x hx => f.2 x (by omega)⟩
theorem LvM.fr {h h' : Mem} {l : List Int32} (L : LvM h l) (f : Fr h h') : LvM h' l := ⟨by rw [f.2 15 (by omega)]; exact L.1, L.2.1, fun j hj => by rw [f.1 397 (by omega)]; exact L.2.2 j hj⟩
theorem TpM.frl {h h' : Mem} {tape : List Int32} (t : TpM h tape) (f : FrL h h') : TpM h' tape := ⟨by rw [f.2 7 (by omega)]; exact t.1, t.2.1, fun j hj => by rw [f.1 396 (by omega) (by omega)]; exact t.2.2 j hj⟩
theorem RPm.fz {h h' : Mem} {tape : List Int32} {p : PS} (R : RPm h tape p) (e : ∀ x, x ≤ 13 → h' 390 x = h 390 x) : RPm h' tape p := by
  match p, R with
  | .inl (f, pl), R =>
    obtain ⟨r1, r2, r3, r4⟩ := R
    exact ⟨by rw [e 8 (by omega)]; exact r1, r2, by rw [e 9 (by omega)]; exact r3, r4⟩
  | .inr (s, n, k, v), R =>
    obtain ⟨r1, r2, r3, r4, r5, r6, r7⟩ := R
    exact ⟨by rw [e 8 (by omega)]; exact r1, by rw [e 10 (by omega)]; exact r2, by rw [e 11 (by omega)]; exact r3, r4, r5, by rw [e 12 (by omega)]; exact r6, fun z => by rw [e 13 (by omega)]; exact r7 z⟩
theorem M_rl110 {h : Mem} {tape : List Int32} {s n : Nat} {k v : Int32} {l : List Int32} (t : TpM h tape) (R : RPm h tape (.inr (s, n, k, v))) (L : LvM h l) (hl : l.length < 4) (x : Int32) : Tr (f_X8_readsLevel_110 390 397 (h 390 15) x h) (fun _ h' => RPm h' tape (tkA tape n) ∧ LvM h' (l ++ [x]) ∧ FrL h h') := by
  obtain ⟨l1, l2, l3⟩ := L
  unfold f_X8_readsLevel_110 f_X8_readsLevel_121
  rw [l1, as_397 (by omega), mlet_eq, mu_rdk (by omega), l1, li_1, nI_add]
  have f1 : FrL h (mu (mu h 397 l.length x) 390 15 (nI (l.length + 1))) := ⟨fun a h1 h2 => by rw [mu_ne h1, mu_ne h2], fun y hy => by rw [mu_rdn (by omega), mu_rdk (by omega)]⟩
  have R1 : RPm (mu (mu h 397 l.length x) 390 15 (nI (l.length + 1))) tape (.inr (s, n, k, v)) := R.fz (fun y hy => by rw [mu_rdn (by omega), mu_rdk (by omega)])
  have L1 : LvM (mu (mu h 397 l.length x) 390 15 (nI (l.length + 1))) (l ++ [x]) := by
    refine ⟨by rw [mu_rde rfl]; simp, by simp; omega, fun j hj => ?_⟩
    rw [mu_rdk (by omega), g5_app]
    by_cases e1 : j < l.length
    · rw [if_pos e1, mu_rdn (by omega)]; exact l3 j hj
    · rw [if_neg e1]
      by_cases e2 : j = l.length
      · rw [if_pos e2, mu_rde e2]
      · rw [if_neg e2, mu_rdn e2, l3 j hj]
        unfold g5
        simp [List.getD, List.getElem?_eq_none (Nat.le_of_not_lt e1)]
  exact wB (M_reads (t.frl f1) R1) (fun _ g P => wR ⟨P.1, L1.fr P.2, f1.tr P.2.l⟩)
