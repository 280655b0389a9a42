/-! the reader: lines; text -/
def SG (b : Nat) : PS → Prop
  | .inl _ => True
  | .inr (s, _, _, _) => b ≤ s
theorem tk1_sg (tape : List Int32) {b s : Nat} (h : b ≤ s) : SG b (tk1 tape s) := by
  unfold tk1
  split
  · exact h
  split
  · exact h
  split
  · split
    · trivial
    · exact h
  split
  · exact h
  · trivial
theorem tkA_sg (tape : List Int32) {b k : Nat} (h : b ≤ k) : SG b (tkA tape k) := tk1_sg tape (Nat.le_trans h (spF_le tape _ k).1)
theorem p_num_sg {tape : List Int32} {lo hi : Int32} {b : Nat} {p : PS} (ok : TkO p) (h : SG b p) : SG b (p_num tape lo hi p).2 := by
  match p, ok, h with
  | .inl _, _, _ => trivial
  | .inr (s, n, k, v), ok, h =>
    rw [p_num_r]
    by_cases e : k = 2
    · rw [if_neg (show ¬ ¬ k = 2 from fun z => z e)]
      split
      · trivial
      · have z : s < n := ok.2 (by rw [e]; decide)
        have h' : b ≤ s := h
        exact tkA_sg tape (by omega)
    · rw [if_pos e]
      trivial
theorem p_lev_sg {tape : List Int32} {top : Int32} {l : List Int32} {b : Nat} {p : PS} (ok : TkO p) (h : SG b p) : SG b (p_lev tape top l p).2 := by
  match p, ok, h with
  | .inl _, _, _ => trivial
  | .inr (s, n, k, v), ok, h =>
    rw [p_lev_r]
    cases e : lvAt top s n k v with
    | none => trivial
    | some x =>
      have k0 : ¬ k = 0 := by
        intro z
        rw [z] at e
        unfold lvAt at e
        rw [if_neg (fun q => absurd q.1 (by decide)), if_neg (fun q => absurd q.2 (by decide)), if_neg (fun q => absurd q.2 (by decide))] at e
        cases e
      have z : s < n := ok.2 k0
      have h' : b ≤ s := h
      exact tkA_sg tape (by omega)
theorem p_path_sg {tape : List Int32} {top : Int32} {b : Nat} : ∀ (d : Nat) (lp : List Int32 × PS), TkO lp.2 → SG b lp.2 → SG b (p_path tape top d lp).2
  | 0, _, _, h => h
  | d + 1, (l, .inl e), _, _ => trivial
  | d + 1, (l, .inr (s, n, k, v)), ok, h => by
    have e0 : p_path tape top (d + 1) (l, .inr (s, n, k, v)) = if k = 47 then (if 4 ≤ l.length ∨ g5 l (l.length - 1) = 28 then (l, .inl (2, s)) else p_path tape top d (p_lev tape top l (tkA tape n))) else (l, .inr (s, n, k, v)) := rfl
    rw [e0]
    by_cases e : k = 47
    · rw [if_pos e]
      split
      · trivial
      · have z : s < n := ok.2 (by rw [e]; decide)
        have h' : b ≤ s := h
        exact p_path_sg d _ (p_lev_ok _ _ _ _) (p_lev_sg (tkA_ok _ _) (tkA_sg tape (by omega)))
    · rw [if_neg e]
      exact h
theorem p_fil_sg {tape : List Int32} {top : Int32} {b : Nat} {p : PS} (ok : TkO p) (h : SG b p) : SG b (p_fil tape top p).2 := p_path_sg 4 _ (p_lev_ok _ _ _ _) (p_lev_sg ok h)
theorem p_path_ok {tape : List Int32} {top : Int32} : ∀ (d : Nat) (lp : List Int32 × PS), TkO lp.2 → TkO (p_path tape top d lp).2
  | 0, _, h => h
  | d + 1, (l, .inl e), _ => trivial
  | d + 1, (l, .inr (s, n, k, v)), ok => by
    have e0 : p_path tape top (d + 1) (l, .inr (s, n, k, v)) = if k = 47 then (if 4 ≤ l.length ∨ g5 l (l.length - 1) = 28 then (l, .inl (2, s)) else p_path tape top d (p_lev tape top l (tkA tape n))) else (l, .inr (s, n, k, v)) := rfl
    rw [e0]
    by_cases e : k = 47
    · rw [if_pos e]
      split
      · trivial
      · exact p_path_ok d _ (p_lev_ok _ _ _ _)
    · rw [if_neg e]
      exact ok
theorem p_fil_ok {tape : List Int32} {top : Int32} {p : PS} : TkO (p_fil tape top p).2 := p_path_ok 4 _ (p_lev_ok _ _ _ _)
theorem p_sub_sg {tape : List Int32} {dr : St} {b : Nat} {p : PS} (ok : TkO p) (h : SG b p) : SG b (p_sub tape dr p).2 := by
  unfold p_sub
  have z := p_num_sg (tape := tape) (lo := 0) (hi := 3) (p_num_ok tape 0 2 _) (p_num_sg (tape := tape) (lo := 0) (hi := 2) (p_fil_ok (tape := tape) (top := 0) (p := (p_num tape 0 5 p).2)) (p_fil_sg (top := 0) (p_num_ok tape 0 5 p) (p_num_sg (tape := tape) (lo := 0) (hi := 5) ok h)))
  generalize (p_num tape 0 3 (p_num tape 0 2 (p_fil tape 0 (p_num tape 0 5 p).2).2).2).2 = q at z ⊢
  match q, z with
  | .inl _, _ => trivial
  | .inr (s, n, k, v), z =>
    rw [p_sub1_r]
    split
    · trivial
    split
    · trivial
    split
    · trivial
    · exact z
theorem p_kep_sg {tape : List Int32} {dr : St} {b : Nat} {p : PS} (ok : TkO p) (h : SG b p) : SG b (p_kep tape dr p).2 := by
  unfold p_kep
  have z := p_num_sg (tape := tape) (lo := 0) (hi := 2) (p_num_ok tape 1 99 _) (p_num_sg (tape := tape) (lo := 1) (hi := 99) (p_fil_ok (tape := tape) (top := 1) (p := p)) (p_fil_sg (top := 1) ok h))
  generalize (p_num tape 0 2 (p_num tape 1 99 (p_fil tape 1 p).2).2).2 = q at z ⊢
  match q, z with
  | .inl _, _ => trivial
  | .inr (s, n, k, v), z =>
    rw [p_kep1_r]
    split
    · trivial
    split
    · trivial
    split
    · trivial
    · exact z
theorem p_adv_ok (tape : List Int32) (p : PS) : TkO (p_adv tape p) := by
  match p with
  | .inl _ => trivial
  | .inr t => exact tkA_ok _ _
theorem p_sub1_59 {dr : St} {c : Int32} {l : List Int32} {pr g : Int32} {p : PS} {s n : Nat} {k v : Int32} (h : (p_sub1 dr c l pr g p).2 = .inr (s, n, k, v)) : k = 59 := by
  match p, h with
  | .inl _, h => cases h
  | .inr (s', n', k', v'), h =>
    rw [p_sub1_r] at h
    by_cases e : k' = 59
    · rw [if_neg (show ¬ ¬ k' = 59 from fun z => z e)] at h
      split at h
      · cases h
      split at h
      · cases h
      · cases h
        exact e
    · rw [if_pos e] at h
      cases h
theorem p_kep1_59 {dr : St} {l : List Int32} {x pr : Int32} {p : PS} {s n : Nat} {k v : Int32} (h : (p_kep1 dr l x pr p).2 = .inr (s, n, k, v)) : k = 59 := by
  match p, h with
  | .inl _, h => cases h
  | .inr (s', n', k', v'), h =>
    rw [p_kep1_r] at h
    by_cases e : k' = 59
    · rw [if_neg (show ¬ ¬ k' = 59 from fun z => z e)] at h
      split at h
      · cases h
      split at h
      · cases h
      · cases h
        exact e
    · rw [if_pos e] at h
      cases h
theorem p_adv_sg {tape : List Int32} {b : Nat} {p : PS} (ok : TkO p) (h : SG b p) (h9 : ∀ s n k v, p = .inr (s, n, k, v) → k = 59) : SG b (p_adv tape p) := by
  match p, ok, h, h9 with
  | .inl _, _, _, _ => trivial
  | .inr (s, n, k, v), ok, h, h9 =>
    have e := h9 s n k v rfl
    have z : s < n := ok.2 (by rw [e]; decide)
    have h' : b ≤ s := h
    exact tkA_sg tape (by show b ≤ n; omega)
def p_line (tape : List Int32) (dr : St) (s n : Nat) (k : Int32) : St × PS :=
  if spB tape s n k wSub = true then ((p_sub tape dr (tkA tape n)).1, p_adv tape (p_sub tape dr (tkA tape n)).2)
  else if spB tape s n k wKep = true then ((p_kep tape dr (tkA tape n)).1, p_adv tape (p_kep tape dr (tkA tape n)).2)
  else (dr, .inl (2, s))
theorem p_line_sg {tape : List Int32} {dr : St} {s n : Nat} {k : Int32} (h : s < n) : SG (s + 1) (p_line tape dr s n k).2 ∧ TkO (p_line tape dr s n k).2 := by
  unfold p_line
  split
  · refine ⟨p_adv_sg (p_sub1_ok (p_num_ok _ _ _ _)) (p_sub_sg (tkA_ok _ _) (tkA_sg tape (by omega))) (fun _ _ _ _ e => p_sub1_59 e), p_adv_ok _ _⟩
  split
  · refine ⟨p_adv_sg (p_kep1_ok (p_num_ok _ _ _ _)) (p_kep_sg (tkA_ok _ _) (tkA_sg tape (by omega))) (fun _ _ _ _ e => p_kep1_59 e), p_adv_ok _ _⟩
  · exact ⟨trivial, trivial⟩
theorem TpM.frd {h h' : Mem} {tape : List Int32} (t : TpM h tape) (f : FrD h h') : TpM h' tape := ⟨by rw [f.2 7 (by omega)]; exact t.1, t.2.1, fun j hj => by rw [f.1 396 (by omega) (by omega) (by omega)]; exact t.2.2 j hj⟩
theorem M_readsLine {h : Mem} {tape : List Int32} {dr : St} {s n : Nat} {k v : Int32} (t : TpM h tape) (R : RPm h tape (.inr (s, n, k, v))) (D : RM (h 392) dr) : Tr (f_X8_readsLine 390 h) (fun _ h' => RPm h' tape (p_line tape dr s n k).2 ∧ RM (h' 392) (p_line tape dr s n k).1 ∧ FrD h h') := by
  have t2 := t.2.1
  unfold f_X8_readsLine f_X8_readsLine_17 p_line
  rw [M_isSub t R, b2_some]
  -- the word stands
  have go : ∀ (a1 : Int32) (F : St × PS), (∀ e, tkA tape n = .inl e → F = (dr, .inl e)) → (∀ g1, TpM g1 tape → RPm g1 tape (tkA tape n) → RM (g1 392) dr → Tr (if a1 = 0 then b2 (f_X8_readsKept 390 g1) fun _ h3 => f_X8_readsLine_53 390 h3 else b2 (f_X8_readsSub 390 g1) fun _ h4 => f_X8_readsLine_53 390 h4) (fun _ h' => RPm h' tape F.2 ∧ RM (h' 392) F.1 ∧ FrD g1 h')) → Tr (f_X8_readsLine_22 390 a1 390 1 h) (fun _ h' => RPm h' tape F.2 ∧ RM (h' 392) F.1 ∧ FrD h h') := by
    intro a1 F hF hk
    unfold f_X8_readsLine_22
    refine wB (M_must R t2 1 2 (by decide)) (fun _ g1 P => ?_)
    rw [if_neg (show ¬ (1 : Int32) = 0 by decide)] at P
    refine wB (M_reads (t.fr P.2) P.1) (fun _ g2 Q => ?_)
    have Q1 : RPm g2 tape (tkA tape n) := Q.1
    have tg := (t.fr P.2).fr Q.2
    have fg := (P.2.tr Q.2)
    have Dg : RM (g2 392) dr := by rw [fg.1 392 (by omega)]; exact D
    refine wIf (fun e8 => wM (hk g2 tg Q1 Dg) (fun _ g3 S => ⟨S.1, S.2.1, fg.l.d.tr S.2.2⟩)) (fun e8 => ?_)
    match hq : tkA tape n, Q1 with
    | .inl e, Q1 =>
      rw [hF e hq]
      exact wR ⟨Q1, Dg, fg.l.d⟩
    | .inr (s', n', k', v'), Q1 => exact absurd (by rw [Q1.1]; decide) e8
  cases eS : spB tape s n k wSub
  · rw [if_pos (show bI false = 0 from rfl), M_isKept t R, b2_some, if_neg (show ¬ false = true by decide)]
    cases eK : spB tape s n k wKep
    · rw [if_pos (show bI false = 0 from rfl), if_neg (show ¬ false = true by decide)]
      unfold f_X8_readsLine_22
      refine wB (M_must R t2 0 2 (by decide)) (fun _ g1 P => ?_)
      rw [if_pos rfl] at P
      refine wB (M_reads (t.fr P.2) P.1) (fun _ g2 Q => ?_)
      have Q1 : RPm g2 tape (.inl (2, s)) := Q.1
      rw [if_neg (by rw [Q1.1]; decide)]
      have fg := (P.2.tr Q.2)
      exact wR ⟨Q1, by rw [fg.1 392 (by omega)]; exact D, fg.l.d⟩
    · rw [if_neg (show ¬ bI true = 0 by decide), if_pos (show true = true from rfl)]
      refine go (bI false) ((p_kep tape dr (tkA tape n)).1, p_adv tape (p_kep tape dr (tkA tape n)).2) (fun e he => by rw [he]; rfl) (fun g1 tg Rg Dg => ?_)
      rw [if_pos (show bI false = 0 from rfl)]
      unfold f_X8_readsLine_53
      refine wB (M_readsKept tg Rg (tkA_ok _ _) Dg) (fun _ g2 P => ?_)
      have tg2 := tg.frd P.2.2.2
      refine wB (M_reads tg2 P.1) (fun _ g3 Q => wR ⟨Q.1, ?_, P.2.2.2.tr Q.2.l.d⟩)
      show RM (g3 392) _
      rw [Q.2.1 392 (by omega)]
      exact P.2.2.1
  · rw [if_neg (show ¬ bI true = 0 by decide), if_pos (show true = true from rfl)]
    refine go (bI true) ((p_sub tape dr (tkA tape n)).1, p_adv tape (p_sub tape dr (tkA tape n)).2) (fun e he => by rw [he]; rfl) (fun g1 tg Rg Dg => ?_)
    rw [if_neg (show ¬ bI true = 0 by decide)]
    unfold f_X8_readsLine_53
    refine wB (M_readsSub tg Rg (tkA_ok _ _) Dg) (fun _ g2 P => ?_)
    have tg2 := tg.frd P.2.2.2
    refine wB (M_reads tg2 P.1) (fun _ g3 Q => wR ⟨Q.1, ?_, P.2.2.2.tr Q.2.l.d⟩)
    show RM (g3 392) _
    rw [Q.2.1 392 (by omega)]
    exact P.2.2.1
def p_lines (tape : List Int32) : Nat → Nat × St × PS → Nat × St × PS
  | 0, s => s
  | _ + 1, (m, dr, .inl e) => (m, dr, .inl e)
  | d + 1, (m, dr, .inr (s, n, k, v)) => if k = 0 then (m, dr, .inr (s, n, k, v)) else p_lines tape d (m + 1, p_line tape dr s n k)
theorem M_t23 {tape : List Int32} : ∀ (d m : Nat) (S : Nat × St × PS) (h : Mem), d < m → d ≤ 201 → TpM h tape → RPm h tape S.2.2 → TkO S.2.2 → SG (201 - d) S.2.2 → RM (h 392) S.2.1 → ∃ h2, f_X8_text_23 m 390 (nI S.1) h = f_X8_text_47 390 (nI (p_lines tape d S).1) h2 ∧ TpM h2 tape ∧ RPm h2 tape (p_lines tape d S).2.2 ∧ RM (h2 392) (p_lines tape d S).2.1 ∧ FrD h h2 := by
  intro d
  induction d with
  | zero =>
    intro m S h hm hd t R ok g D
    obtain ⟨m, rfl⟩ : ∃ z, m = z + 1 := ⟨m - 1, by omega⟩
    obtain ⟨a, dr, p⟩ := S
    match p, R, ok, g with
    | .inl e, R, ok, g =>
      refine ⟨h, ?_, t, R, D, Fr.rf.l.d⟩
      unfold f_X8_text_23
      have R : RPm h tape (.inl e) := R
      rw [if_neg (by rw [R.1]; exact pos_n0 R.2.1)]
      rfl
    | .inr (s, n, k, v), R, ok, g =>
      have g' : 201 - 0 ≤ s := g
      have R : RPm h tape (.inr (s, n, k, v)) := R
      have t2 := t.2.1
      have r4 := R.2.2.2.1
      have r5 := R.2.2.2.2.1
      omega
  | succ d ih =>
    intro m S h hm hd t R ok g D
    obtain ⟨m, rfl⟩ : ∃ z, m = z + 1 := ⟨m - 1, by omega⟩
    obtain ⟨a, dr, p⟩ := S
    match p, R, ok, g with
    | .inl e, R, ok, g =>
      refine ⟨h, ?_, t, R, D, Fr.rf.l.d⟩
      unfold f_X8_text_23
      have R : RPm h tape (.inl e) := R
      rw [if_neg (by rw [R.1]; exact pos_n0 R.2.1)]
      rfl
    | .inr (s, n, k, v), R, ok, g =>
      have g' : 201 - (d + 1) ≤ s := g
      have R : RPm h tape (.inr (s, n, k, v)) := R
      have D : RM (h 392) dr := D
      have e0 : p_lines tape (d + 1) (a, dr, .inr (s, n, k, v)) = if k = 0 then (a, dr, .inr (s, n, k, v)) else p_lines tape d (a + 1, p_line tape dr s n k) := rfl
      rw [e0]
      by_cases ek : k = 0
      · refine ⟨h, ?_, t, ?_, ?_, Fr.rf.l.d⟩
        · unfold f_X8_text_23
          rw [if_pos R.1, if_pos (by rw [R.2.2.2.2.2.1]; exact tkk_0.mpr ek), if_pos ek]
        · rw [if_pos ek]; exact R
        · rw [if_pos ek]; exact D
      · have sn : s < n := ok.2 ek
        obtain ⟨u, g1, e1, P⟩ := M_readsLine t R D
        have q := p_line_sg (tape := tape) (dr := dr) (k := k) sn
        have q1 : SG (201 - d) (p_line tape dr s n k).2 := by
          have q0 := q.1
          generalize (p_line tape dr s n k).2 = z at q0 ⊢
          match z, q0 with
          | .inl _, _ => trivial
          | .inr (s', _, _, _), q0 =>
            have q0 : s + 1 ≤ s' := q0
            show 201 - d ≤ s'
            omega
        obtain ⟨h2, w1, w2, w3, w4, w5⟩ := ih m (a + 1, p_line tape dr s n k) g1 (by omega) (by omega) (t.frd P.2.2) P.1 q.2 q1 P.2.1
        rw [if_neg ek]
        refine ⟨h2, ?_, w2, w3, w4, P.2.2.tr w5⟩
        refine Eq.trans ?_ w1
        show (if h 390 8 = 0 then (if h 390 12 = 0 then f_X8_text_47 390 (nI a) h else b2 (f_X8_readsLine 390 h) fun _ h1 => f_X8_text_23 m 390 (nI a + 1) h1) else f_X8_text_47 390 (nI a) h) = f_X8_text_23 m 390 (nI (a + 1)) g1
        rw [if_pos R.1, if_neg (by rw [R.2.2.2.2.2.1]; exact fun z => ek (tkk_0.mp z)), e1, b2_some, li_1, nI_add]
