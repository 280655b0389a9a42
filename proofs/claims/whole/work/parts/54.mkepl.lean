/-! the reader: a line 'kept', a line -/
def A_dkep (dr : St) (l : List Int32) (v pr : Int32) : St := sG (sK dr 6 (dr.2.1 6 ++ [[g5 l 0, g5 l 1, g5 l 2, g5 l 3, v, pr, dr.1 1]])) 1 (dr.1 1 + 1)
def p_kep1 (dr : St) (l : List Int32) (x pr : Int32) : PS → St × PS
  | .inl e => (dr, .inl e)
  | .inr (s, n, k, v) => if ¬ k = 59 then (dr, .inl (2, s)) else if ¬ ktIx (dr.2.1 6) (g5 l) = -4 then (dr, .inl (4, s)) else if 12 ≤ (dr.2.1 6).length then (dr, .inl (5, s)) else (A_dkep dr l x pr, .inr (s, n, k, v))
theorem p_kep1_r (dr : St) (l : List Int32) (x pr : Int32) (s n : Nat) (k v : Int32) : p_kep1 dr l x pr (.inr (s, n, k, v)) = if ¬ k = 59 then (dr, .inl (2, s)) else if ¬ ktIx (dr.2.1 6) (g5 l) = -4 then (dr, .inl (4, s)) else if 12 ≤ (dr.2.1 6).length then (dr, .inl (5, s)) else (A_dkep dr l x pr, .inr (s, n, k, v)) := rfl
def p_kep (tape : List Int32) (dr : St) (p : PS) : St × PS :=
  p_kep1 dr (p_fil tape 1 p).1 (p_num tape 1 99 (p_fil tape 1 p).2).1 (p_num tape 0 2 (p_num tape 1 99 (p_fil tape 1 p).2).2).1 (p_num tape 0 2 (p_num tape 1 99 (p_fil tape 1 p).2).2).2
theorem ktIx_congr {rows : List (List Int32)} {s s' : Nat → Int32} (h : ∀ j, j < 4 → s j = s' j) : ktIx rows s = ktIx rows s' := by
  have e : kPt rows s = kPt rows s' := by
    funext i
    unfold kPt
    rw [sm4_congr h]
  unfold ktIx
  rw [e]
theorem M_kep104F {h : Mem} {tape : List Int32} {e : Int32 × Nat} (ht : tape.length ≤ 200) (R : RPm h tape (.inl e)) (a1 a2 x : Int32) : Tr (f_X8_readsKept_104 390 a1 a2 390 x h) (fun _ h' => RPm h' tape (.inl e) ∧ Fr h h') := by
  unfold f_X8_readsKept_104
  refine wB (M_must R ht x 5 (by decide)) (fun _ g1 P => ?_)
  have P1 : RPm g1 tape (.inl e) := by
    have := P.1
    split at this <;> exact this
  rw [if_neg (by rw [P1.1]; exact pos_n0 P1.2.1)]
  exact wR ⟨P1, P.2⟩
theorem M_kep75F {h : Mem} {tape : List Int32} {e : Int32 × Nat} (ht : tape.length ≤ 200) (R : RPm h tape (.inl e)) (a1 a2 x : Int32) : Tr (f_X8_readsKept_75 390 a1 a2 390 x h) (fun _ h' => RPm h' tape (.inl e) ∧ Fr h h') := by
  unfold f_X8_readsKept_75 f_X8_readsKept_99
  refine wB (M_must R ht x 4 (by decide)) (fun _ g1 P => ?_)
  have P1 : RPm g1 tape (.inl e) := by
    have := P.1
    split at this <;> exact this
  rw [if_pos (by rw [P1.1]; exact P1.2.1)]
  exact wM (M_kep104F ht P1 a1 a2 1) (fun _ g2 Q => ⟨Q.1, P.2.tr Q.2⟩)
theorem M_kep42F {h : Mem} {tape : List Int32} {e : Int32 × Nat} (ht : tape.length ≤ 200) (R : RPm h tape (.inl e)) (a1 a2 x : Int32) : Tr (f_X8_readsKept_42 390 a1 a2 390 x h) (fun _ h' => RPm h' tape (.inl e) ∧ Fr h h') := by
  unfold f_X8_readsKept_42 f_X8_readsKept_70
  refine wB (M_must R ht x 2 (by decide)) (fun _ g1 P => ?_)
  have P1 : RPm g1 tape (.inl e) := by
    have := P.1
    split at this <;> exact this
  rw [if_pos (by rw [P1.1]; exact P1.2.1)]
  exact wM (M_kep75F ht P1 a1 a2 1) (fun _ g2 Q => ⟨Q.1, P.2.tr Q.2⟩)
theorem M_kep104 {h : Mem} {tape : List Int32} {dr : St} {s n : Nat} {k v : Int32} {l : List Int32} (ht : tape.length ≤ 200) (R : RPm h tape (.inr (s, n, k, v))) (L : LvM h l) (D : RM (h 392) dr) (hl : (dr.2.1 6).length < 12) (x pr : Int32) : Tr (f_X8_readsKept_104 390 x pr 390 1 h) (fun _ h' => RPm h' tape (.inr (s, n, k, v)) ∧ RM (h' 392) (A_dkep dr l x pr) ∧ FrD h h') := by
  unfold f_X8_readsKept_104
  refine wB (M_must R ht 1 5 (by decide)) (fun _ g1 P => ?_)
  rw [if_neg (show ¬ (1 : Int32) = 0 by decide)] at P
  have D1 : RM (g1 392) dr := by rw [P.2.1 392 (by omega)]; exact D
  have L1 := L.fr P.2
  have c1 : g1 392 1 = dr.1 1 := D1.1.2
  have a1 : ∀ (q : Mem) (kk : Int32 → Option (Unit × Mem)), ald q 392 1 kk = kk (q 392 1) := fun q kk => by rw [li_1, al_392 (by omega)]
  rw [if_pos P.1.1, xr_1, xr_14, a1, c1]
  refine wB (M_keptComes xl_392 xl_397' (by omega) D1.2.2.1 hl x pr (dr.1 1)) (fun _ g2 Q => ?_)
  rw [L1.2.2 0 (by omega), L1.2.2 1 (by omega), L1.2.2 2 (by omega), L1.2.2 3 (by omega)] at Q
  have c2 : g2 392 1 = dr.1 1 := by rw [Q.2.2 1 (by omega) (by omega)]; exact c1
  have a2 : ∀ (q : Mem) (y : Int32) (kk : Mem → Option (Unit × Mem)), ast q 392 1 y kk = kk (mu q 392 1 y) := fun q y kk => by rw [li_1, as_392 (by omega)]
  rw [a1, c2, a2]
  have R2 := (D1.k6 Q.2.1 Q.2.2).sg (k := 1) (by omega) (dr.1 1 + 1)
  refine wR ⟨P.1.fz (fun y hy => by rw [mu_rdk (by omega), Q.1 390 (by omega)]), ?_, fun a h1 h2 h3 => by rw [mu_ne h2, Q.1 a h2, P.2.1 a h1], fun y hy => by rw [mu_rdk (by omega), Q.1 390 (by omega), P.2.2 y (by omega)]⟩
  rw [mu_eq]
  exact R2
theorem M_kep37 {h : Mem} {tape : List Int32} {dr : St} {s n : Nat} {k v : Int32} {l : List Int32} (ht : tape.length ≤ 200) (R : RPm h tape (.inr (s, n, k, v))) (L : LvM h l) (D : RM (h 392) dr) (ek : k = 59) (x pr : Int32) : Tr (f_X8_readsKept_42 390 x pr 390 1 h) (fun _ h' => RPm h' tape (p_kep1 dr l x pr (.inr (s, n, k, v))).2 ∧ RM (h' 392) (p_kep1 dr l x pr (.inr (s, n, k, v))).1 ∧ FrD h h') := by
  rw [p_kep1_r, if_neg (show ¬ ¬ k = 59 from fun z => z ek)]
  have q3 := D.2.2.1.2.1
  unfold f_X8_readsKept_42 f_X8_readsKept_70
  refine wB (M_must R ht 1 2 (by decide)) (fun _ g1 P => ?_)
  rw [if_neg (show ¬ (1 : Int32) = 0 by decide)] at P
  have D1 : RM (g1 392) dr := by rw [P.2.1 392 (by omega)]; exact D
  have L1 := L.fr P.2
  rw [if_neg (by rw [P.1.1]; decide), xr_1, xr_14, M_keptOf xl_392 xl_397' D1.2.2.1, b2_some, ktIx_congr L1.2.2]
  by_cases e1 : ktIx (dr.2.1 6) (g5 l) = -4
  · rw [if_pos e1, if_neg (show ¬ ¬ ktIx (dr.2.1 6) (g5 l) = -4 from fun z => z e1)]
    unfold f_X8_readsKept_75 f_X8_readsKept_99
    refine wB (M_must P.1 ht 1 4 (by decide)) (fun _ g2 Q => ?_)
    rw [if_neg (show ¬ (1 : Int32) = 0 by decide)] at Q
    have D2 : RM (g2 392) dr := by rw [Q.2.1 392 (by omega)]; exact D1
    have L2 := L1.fr Q.2
    have c6 : g2 392 6 = nI (dr.2.1 6).length := D2.2.2.1.1
    have a6 : ∀ (kk : Int32 → Option (Unit × Mem)), ald g2 392 6 kk = kk (g2 392 6) := fun kk => by rw [li_6, al_392 (by omega)]
    rw [if_neg (by rw [Q.1.1]; decide), xr_1, a6, c6]
    by_cases e6 : 12 ≤ (dr.2.1 6).length
    · rw [if_pos (by rw [li_12, nI_leI (by omega) (by omega)]; exact e6), if_pos e6]
      unfold f_X8_readsKept_104
      refine wB (M_must Q.1 ht 0 5 (by decide)) (fun _ g3 S => ?_)
      rw [if_pos rfl] at S
      have S1 : RPm g3 tape (.inl (5, s)) := S.1
      rw [if_neg (by rw [S1.1]; decide)]
      exact wR ⟨S1, by rw [S.2.1 392 (by omega)]; exact D2, ((P.2.tr Q.2).tr S.2).l.d⟩
    · rw [if_neg (by rw [li_12, nI_leI (by omega) (by omega)]; exact e6), if_neg e6]
      exact wM (M_kep104 ht Q.1 L2 D2 (by omega) x pr) (fun _ g3 S => ⟨S.1, S.2.1, (P.2.tr Q.2).l.d.tr S.2.2⟩)
  · rw [if_neg e1, if_pos e1]
    unfold f_X8_readsKept_75 f_X8_readsKept_99
    refine wB (M_must P.1 ht 0 4 (by decide)) (fun _ g2 Q => ?_)
    rw [if_pos rfl] at Q
    have Q1 : RPm g2 tape (.inl (4, s)) := Q.1
    rw [if_pos (by rw [Q1.1]; decide)]
    refine wM (M_kep104F ht Q1 x pr 1) (fun _ g3 S => ⟨S.1, ?_, ((P.2.tr Q.2).tr S.2).l.d⟩)
    rw [S.2.1 392 (by omega), Q.2.1 392 (by omega)]
    exact D1
theorem p_kep1_ok {dr : St} {l : List Int32} {x pr : Int32} {p : PS} (h : TkO p) : TkO (p_kep1 dr l x pr p).2 := by
  match p, h with
  | .inl _, _ => trivial
  | .inr (s, n, k, v), h =>
    rw [p_kep1_r]
    split
    · trivial
    split
    · trivial
    split
    · trivial
    · exact h
theorem M_readsKept {h : Mem} {tape : List Int32} {dr : St} {p : PS} (t : TpM h tape) (R : RPm h tape p) (ok : TkO p) (D : RM (h 392) dr) : Tr (f_X8_readsKept 390 h) (fun _ h' => RPm h' tape (p_kep tape dr p).2 ∧ TkO (p_kep tape dr p).2 ∧ RM (h' 392) (p_kep tape dr p).1 ∧ FrD h h') := by
  have t2 := t.2.1
  unfold f_X8_readsKept p_kep
  refine wB (M_readsFilter t R ok 1) (fun _ g2 P2 => ?_)
  have tb := t.frl P2.2.2.2
  refine wB (M_number tb P2.1 1 99) (fun x g3 P3 => ?_)
  have tc := tb.fr P3.2.2
  have L3 := P2.2.2.1.fr P3.2.2
  refine wB (M_number tc P3.2.1 0 2) (fun pr g4 P4 => ?_)
  have L4 := L3.fr P4.2.2
  have F4 : FrL h g4 := (P2.2.2.2.tr P3.2.2.l).tr P4.2.2.l
  have D4 : RM (g4 392) dr := by rw [F4.1 392 (by omega) (by omega)]; exact D
  have P4r := P4.2.1
  have o4 := p_num_ok tape 0 2 (p_num tape 1 99 (p_fil tape 1 p).2).2
  rw [← P3.1, ← P4.1]
  generalize (p_num tape 0 2 (p_num tape 1 99 (p_fil tape 1 p).2).2).2 = q at P4r o4 ⊢
  unfold f_X8_readsKept_37
  match q, P4r, o4 with
  | .inl e, Rq, oq =>
    rw [if_pos (by rw [Rq.1]; exact Rq.2.1)]
    refine wM (M_kep42F t2 Rq x pr 1) (fun _ g5' S => ⟨S.1, trivial, ?_, F4.d.tr S.2.l.d⟩)
    show RM (g5' 392) dr
    rw [S.2.1 392 (by omega)]
    exact D4
  | .inr (s, n, k, v), Rq, oq =>
    rw [if_neg (by rw [Rq.1]; decide), M_isSign Rq oq (c := 59) (by decide), b2_some]
    by_cases ek : k = 59
    · rw [if_pos ek, if_neg (by decide)]
      exact wM (M_kep37 t2 Rq L4 D4 ek x pr) (fun _ g5' S => ⟨S.1, p_kep1_ok oq, S.2.1, F4.d.tr S.2.2⟩)
    · rw [if_neg ek, if_pos rfl]
      have e0 : ∀ l, p_kep1 dr l x pr (.inr (s, n, k, v)) = (dr, .inl (2, s)) := by
        intro l
        rw [p_kep1_r, if_pos ek]
      rw [e0]
      unfold f_X8_readsKept_42 f_X8_readsKept_70
      refine wB (M_must Rq t2 0 2 (by decide)) (fun _ g5' S => ?_)
      rw [if_pos rfl] at S
      have S1 : RPm g5' tape (.inl (2, s)) := S.1
      rw [if_pos (by rw [S1.1]; decide)]
      refine wM (M_kep75F t2 S1 x pr 1) (fun _ g6 U => ⟨U.1, trivial, ?_, F4.d.tr (S.2.tr U.2).l.d⟩)
      show RM (g6 392) dr
      rw [U.2.1 392 (by omega), S.2.1 392 (by omega)]
      exact D4
def spB (tape : List Int32) (s n : Nat) (k : Int32) : List Int32 → Bool := fun w => k == 1 && n - s == w.length && byt tape s == g5 w 0 && byt tape (s + 1) == g5 w 1 && byt tape (s + 2) == g5 w 2 && (w.length == 3 || byt tape (s + 3) == g5 w 3)
def wSub : List Int32 := [115, 117, 98]
def wKep : List Int32 := [107, 101, 112, 116]
theorem M_isSub {h : Mem} {tape : List Int32} {s n : Nat} {k v : Int32} (t : TpM h tape) (R : RPm h tape (.inr (s, n, k, v))) : f_X8_isSub 390 h = some (bI (spB tape s n k wSub), h) := by
  obtain ⟨r1, r2, r3, r4, r5, r6, r7⟩ := R
  have t2 := t.2.1
  have fin : ∀ b : Bool, b = false → some ((0 : Int32), h) = some (bI b, h) := fun b e => by rw [e]; rfl
  have b0 : f_X8_byteAt 390 (nI s) h = some (byt tape s, h) := M_byteAt t (by omega)
  have b1 : f_X8_byteAt 390 (nI s + 1) h = some (byt tape (s + 1), h) := by rw [li_1, nI_add]; exact M_byteAt t (by omega)
  have b2 : f_X8_byteAt 390 (nI s + 2) h = some (byt tape (s + 2), h) := by rw [li_2, nI_add]; exact M_byteAt t (by omega)
  have e3 : (nI n - nI s = 3) = (n - s = 3) := by rw [nI_subP r4, li_3]; exact propext (nI_eq (by omega) (by omega))
  unfold f_X8_isSub spB
  simp only [r6, r2, r3, b0, b1, b2, b2_some]
  have w0 : g5 wSub 0 = 115 := rfl
  have w1 : g5 wSub 1 = 117 := rfl
  have w2 : g5 wSub 2 = 98 := rfl
  have wl : wSub.length = 3 := rfl
  rw [w0, w1, w2, wl]
  by_cases ek : k = 1
  · rw [if_pos (tkk_1.mpr ek)]
    by_cases el : n - s = 3
    · rw [if_pos (by rw [e3]; exact el)]
      by_cases c0 : byt tape s = 115
      · rw [if_pos c0]
        by_cases c1 : byt tape (s + 1) = 117
        · rw [if_pos c1]
          by_cases c2 : byt tape (s + 2) = 98
          · rw [if_pos c2]
            simp [ek, el, c0, c1, c2]
            rfl
          · rw [if_neg c2]
            exact fin _ (by simp [c2])
        · rw [if_neg c1]
          exact fin _ (by simp [c1])
      · rw [if_neg c0]
        exact fin _ (by simp [c0])
    · rw [if_neg (by rw [e3]; exact el)]
      exact fin _ (by simp [el])
  · rw [if_neg (fun z => ek (tkk_1.mp z))]
    exact fin _ (by simp [ek])
theorem M_isKept {h : Mem} {tape : List Int32} {s n : Nat} {k v : Int32} (t : TpM h tape) (R : RPm h tape (.inr (s, n, k, v))) : f_X8_isKeptNow 390 h = some (bI (spB tape s n k wKep), h) := by
  obtain ⟨r1, r2, r3, r4, r5, r6, r7⟩ := R
  have t2 := t.2.1
  have fin : ∀ b : Bool, b = false → some ((0 : Int32), h) = some (bI b, h) := fun b e => by rw [e]; rfl
  have b0 : f_X8_byteAt 390 (nI s) h = some (byt tape s, h) := M_byteAt t (by omega)
  have b1 : f_X8_byteAt 390 (nI s + 1) h = some (byt tape (s + 1), h) := by rw [li_1, nI_add]; exact M_byteAt t (by omega)
  have b2 : f_X8_byteAt 390 (nI s + 2) h = some (byt tape (s + 2), h) := by rw [li_2, nI_add]; exact M_byteAt t (by omega)
  have b3 : f_X8_byteAt 390 (nI s + 3) h = some (byt tape (s + 3), h) := by rw [li_3, nI_add]; exact M_byteAt t (by omega)
  have e3 : (nI n - nI s = 4) = (n - s = 4) := by rw [nI_subP r4, li_4]; exact propext (nI_eq (by omega) (by omega))
  unfold f_X8_isKeptNow spB
  simp only [r6, r2, r3, b0, b1, b2, b3, b2_some]
  have w0 : g5 wKep 0 = 107 := rfl
  have w1 : g5 wKep 1 = 101 := rfl
  have w2 : g5 wKep 2 = 112 := rfl
  have w3 : g5 wKep 3 = 116 := rfl
  have wl : wKep.length = 4 := rfl
  rw [w0, w1, w2, w3, wl]
  by_cases ek : k = 1
  · rw [if_pos (tkk_1.mpr ek)]
    by_cases el : n - s = 4
    · rw [if_pos (by rw [e3]; exact el)]
      by_cases c0 : byt tape s = 107
      · rw [if_pos c0]
        by_cases c1 : byt tape (s + 1) = 101
        · rw [if_pos c1]
          by_cases c2 : byt tape (s + 2) = 112
          · rw [if_pos c2]
            by_cases c3 : byt tape (s + 3) = 116
            · rw [if_pos c3]
              simp [ek, el, c0, c1, c2, c3]
              rfl
            · rw [if_neg c3]
              exact fin _ (by simp [c3])
          · rw [if_neg c2]
            exact fin _ (by simp [c2])
        · rw [if_neg c1]
          exact fin _ (by simp [c1])
      · rw [if_neg c0]
        exact fin _ (by simp [c0])
    · rw [if_neg (by rw [e3]; exact el)]
      exact fin _ (by simp [el])
  · rw [if_neg (fun z => ek (tkk_1.mp z))]
    exact fin _ (by simp [ek])
