/-! the reader: a number, a token -/
def fgW (tape : List Int32) (s n : Nat) : Int32 := if n = s then 0 else fgV tape s n
theorem fgW_2 {tape : List Int32} {s k : Nat} (h : s + 2 ≤ k) : fgW tape s (k + 1) = fgW tape s k := by
  unfold fgW fgV
  rw [if_neg (by omega), if_neg (by omega), if_neg (by omega), if_neg (by omega)]
theorem fgW_s {tape : List Int32} {s k : Nat} (h : s ≤ k) (h2 : k < s + 2) : fgW tape s (k + 1) = 10 * fgW tape s k + byt tape k - 48 := by
  rcases (show k = s ∨ k = s + 1 by omega) with rfl | rfl
  · unfold fgW fgV
    rw [if_neg (by omega), if_pos (by omega), if_pos rfl]
  · unfold fgW fgV
    rw [if_neg (by omega), if_neg (by omega), if_neg (by omega), if_pos (by omega)]
theorem M_rd243 {h : Mem} {tape : List Int32} {s n : Nat} {v : Int32} (ht : tape.length ≤ 200) (h8 : h 390 8 = 0) (h10 : h 390 10 = nI n) (h11 : h 390 11 = nI s) (h12 : h 390 12 = 2) (h13 : h 390 13 = v) (hs : s ≤ n) (hn : n ≤ tape.length) : Tr (if (2 : Int32) < h 390 10 - h 390 11 then f_X8_reads_243 390 0 h else f_X8_reads_243 390 1 h) (fun _ h' => RPm h' tape (if 2 < n - s then .inl (1, s) else .inr (s, n, 2, v)) ∧ Fr h h') := by
  have R : RPm h tape (.inr (s, n, 2, v)) := ⟨h8, h10, h11, hs, hn, h12, fun _ => h13⟩
  unfold f_X8_reads_243
  have e : h 390 10 - h 390 11 = nI (n - s) := by rw [h10, h11, nI_subP hs]
  rw [e]
  by_cases e2 : 2 < n - s
  · rw [if_pos (by rw [li_2, nI_ltI (by omega) (by omega)]; exact e2), if_pos e2]
    exact wB (M_must R ht 0 1 (by decide)) (fun _ g P => wR P)
  · rw [if_neg (by rw [li_2, nI_ltI (by omega) (by omega)]; exact e2), if_neg e2]
    exact wB (M_must R ht 1 1 (by decide)) (fun _ g P => wR P)
theorem M_rd147 {tape : List Int32} {s : Nat} : ∀ (d k n : Nat) (h : Mem), k + d = tape.length → s ≤ k → d < n → TpM h tape → h 390 8 = 0 → h 390 10 = nI k → h 390 11 = nI s → h 390 12 = 2 → h 390 13 = fgW tape s k → Tr (f_X8_reads_147 n 390 h) (fun _ h' => RPm h' tape (if 2 < fgF tape d k - s then .inl (1, s) else .inr (s, fgF tape d k, 2, fgW tape s (fgF tape d k))) ∧ Fr h h') := by
  intro d
  induction d with
  | zero =>
    intro k n h h1 hs h2 t h8 h10 h11 h12 h13
    obtain ⟨n, rfl⟩ : ∃ z, n = z + 1 := ⟨n - 1, by omega⟩
    have t2 := t.2.1
    have e0 : f_X8_byteAt 390 (h 390 10) h = some (-4, h) := by rw [h10, M_byteAt t (by omega), byt_end (by omega)]
    unfold f_X8_reads_147 fgF
    rw [e0, b2_some, lo_48, lo_57, M_in, b2_some]
    simp only [bI_0]
    rw [if_pos (show inR (-4) 48 57 = false by decide)]
    exact M_rd243 t2 h8 h10 h11 h12 h13 hs (by omega)
  | succ d ih =>
    intro k n h h1 hs h2 t h8 h10 h11 h12 h13
    obtain ⟨n, rfl⟩ : ∃ z, n = z + 1 := ⟨n - 1, by omega⟩
    have t2 := t.2.1
    have e0 : f_X8_byteAt 390 (h 390 10) h = some (byt tape k, h) := by rw [h10, M_byteAt t (by omega)]
    unfold f_X8_reads_147 fgF
    rw [e0, b2_some, lo_48, lo_57, M_in, b2_some]
    simp only [bI_0]
    cases e : inR (byt tape k) 48 57
    · rw [if_pos (show false = false from rfl), if_neg (show ¬ false = true by decide)]
      exact M_rd243 t2 h8 h10 h11 h12 h13 hs (by omega)
    · rw [if_neg (show ¬ true = false by decide), if_pos (show true = true from rfl)]
      have es : h 390 10 - h 390 11 = nI (k - s) := by rw [h10, h11, nI_subP hs]
      have go : ∀ v, v = fgW tape s (k + 1) → Tr (f_X8_reads_208 (f_X8_reads_147 n) 390 390 v h) (fun _ h' => RPm h' tape (if 2 < fgF tape d (k + 1) - s then .inl (1, s) else .inr (s, fgF tape d (k + 1), 2, fgW tape s (fgF tape d (k + 1)))) ∧ Fr h h') := by
        intro v hv
        unfold f_X8_reads_208
        rw [mlet_eq, mlet_eq, mu_rdn (by omega), h10, li_1, nI_add]
        have f1 : Fr h (mu (mu h 390 13 v) 390 10 (nI (k + 1))) := (Fr.mu (by omega) (by omega)).tr (Fr.mu (by omega) (by omega))
        refine wM (ih (k + 1) n _ (by omega) (by omega) (by omega) (t.fr f1) ?_ ?_ ?_ ?_ ?_) (fun _ g P => ⟨P.1, f1.tr P.2⟩)
        · rw [mu_rdn (by omega), mu_rdn (by omega)]; exact h8
        · rw [mu_rde rfl]
        · rw [mu_rdn (by omega), mu_rdn (by omega)]; exact h11
        · rw [mu_rdn (by omega), mu_rdn (by omega)]; exact h12
        · rw [mu_rdn (by omega), mu_rde rfl]; exact hv
      rw [es]
      by_cases e2 : 2 ≤ k - s
      · rw [if_pos (by rw [li_2, nI_leI (by omega) (by omega)]; exact e2)]
        exact go _ (by rw [h13, fgW_2 (by omega)])
      · rw [if_neg (by rw [li_2, nI_leI (by omega) (by omega)]; exact e2), e0, b2_some]
        exact go _ (by rw [h13, fgW_s hs (by omega)])
theorem M_rd285 {h : Mem} {tape : List Int32} {s : Nat} {b : Int32} (ht : tape.length ≤ 200) (h8 : h 390 8 = 0) (h10 : h 390 10 = nI s) (h11 : h 390 11 = nI s) (h12 : h 390 12 = 3) (h13 : h 390 13 = b) (hs : s < tape.length) (hb : tkk b = 3) (x : Int32) : Tr (f_X8_reads_285 390 390 x h) (fun _ h' => RPm h' tape (if x = 0 then .inl (1, s) else .inr (s, s + 1, b, b)) ∧ Fr h h') := by
  unfold f_X8_reads_285 f_X8_must
  by_cases e : x = 0
  · rw [if_pos e, if_pos h8, if_pos e, mlet_eq, mlet_eq, b2_some, mlet_eq]
    refine wR ⟨⟨?_, by decide, ?_, by show s ≤ 200; omega⟩, ((Fr.mu (by omega) (by omega)).tr (Fr.mu (by omega) (by omega))).tr (Fr.mu (by omega) (by omega))⟩
    · simp (disch := omega) only [mu_rdn, mu_rde]
    · simp (disch := omega) only [mu_rdn, mu_rde, h11]
  · rw [if_neg e, if_neg e, b2_some, mlet_eq]
    refine wR ⟨⟨?_, ?_, ?_, by omega, by omega, ?_, fun _ => ?_⟩, Fr.mu (by omega) (by omega)⟩
    · rw [mu_rdn (by omega)]; exact h8
    · rw [mu_rde rfl, h10, li_1, nI_add]
    · rw [mu_rdn (by omega)]; exact h11
    · rw [mu_rdn (by omega), h12, hb]
    · rw [mu_rdn (by omega)]; exact h13
theorem tkk_of {b : Int32} (h0 : ¬ b = 0) (h1 : ¬ b = 1) (h2 : ¬ b = 2) : tkk b = 3 := by
  unfold tkk
  rw [if_neg h0, if_neg h1, if_neg h2]
theorem RPm.free {h : Mem} {tape : List Int32} {f : Int32} {pl : Nat} : RPm h tape (.inl (f, pl)) = (h 390 8 = f ∧ 0 < f ∧ h 390 9 = nI pl ∧ pl ≤ 200) := rfl
theorem M_rd8 {tape : List Int32} : ∀ (d k n : Nat) (h : Mem), k + d = tape.length → d < n → TpM h tape → h 390 8 = 0 → h 390 10 = nI k → Tr (f_X8_reads_8 n 390 h) (fun _ h' => RPm h' tape (tk1 tape (spF tape d k)) ∧ Fr h h') := by
  have stop : ∀ (k n : Nat) (h : Mem), k ≤ tape.length → TpM h tape → h 390 8 = 0 → h 390 10 = nI k → ¬ byt tape k = 32 → Tr (f_X8_reads_8 (n + 1) 390 h) (fun _ h' => RPm h' tape (tk1 tape k) ∧ Fr h h') := by
    intro k n h hkl t h8 h10 hsp
    have t2 := t.2.1
    have e0 : f_X8_byteAt 390 (h 390 10) h = some (byt tape k, h) := by rw [h10, M_byteAt t (by omega)]
    unfold f_X8_reads_8 tk1
    rw [e0, b2_some, if_neg hsp, mlet_eq, h10]
    have f1 : Fr h (mu h 390 11 (nI k)) := Fr.mu (by omega) (by omega)
    have t1 := t.fr f1
    have e1 : f_X8_byteAt 390 (mu h 390 11 (nI k) 390 10) (mu h 390 11 (nI k)) = some (byt tape k, mu h 390 11 (nI k)) := by rw [mu_rdn (by omega), h10, M_byteAt t1 (by omega)]
    have f2 : Fr h (mu (mu h 390 11 (nI k)) 390 13 (byt tape k)) := f1.tr (Fr.mu (by omega) (by omega))
    rw [e1, b2_some, mlet_eq]
    have g8 : mu (mu h 390 11 (nI k)) 390 13 (byt tape k) 390 8 = 0 := by rw [mu_rdn (by omega), mu_rdn (by omega)]; exact h8
    have g10 : mu (mu h 390 11 (nI k)) 390 13 (byt tape k) 390 10 = nI k := by rw [mu_rdn (by omega), mu_rdn (by omega)]; exact h10
    have g11 : mu (mu h 390 11 (nI k)) 390 13 (byt tape k) 390 11 = nI k := by rw [mu_rdn (by omega), mu_rde rfl]
    have g13 : mu (mu h 390 11 (nI k)) 390 13 (byt tape k) 390 13 = byt tape k := by rw [mu_rde rfl]
    have tg := t.fr f2
    generalize mu (mu h 390 11 (nI k)) 390 13 (byt tape k) = g at f2 g8 g10 g11 g13 tg ⊢
    by_cases eE : byt tape k = -4
    · rw [if_pos eE, if_pos eE, mlet_eq]
      refine wR ⟨⟨?_, ?_, ?_, Nat.le_refl _, hkl, ?_, fun z => absurd rfl z⟩, f2.tr (Fr.mu (by omega) (by omega))⟩
      · rw [mu_rdn (by omega)]; exact g8
      · rw [mu_rdn (by omega)]; exact g10
      · rw [mu_rdn (by omega)]; exact g11
      · rw [mu_rde rfl]; rfl
    · have hkl2 : k < tape.length := by
        rcases Nat.lt_or_ge k tape.length with z | z
        · exact z
        · exact absurd (byt_end z) eE
      rw [if_neg eE, if_neg eE, lo_97, lo_122, lo_48, lo_57, M_in, b2_some]
      simp only [bI_0]
      cases eL : inR (byt tape k) 97 122
      · rw [if_pos (show false = false from rfl), if_neg (show ¬ false = true by decide), M_in, b2_some]
        simp only [bI_0]
        cases eF : inR (byt tape k) 48 57
        · rw [if_pos (show false = false from rfl), if_neg (show ¬ false = true by decide), mlet_eq]
          have f3 : Fr g (mu g 390 12 3) := Fr.mu (by omega) (by omega)
          have c8 : mu g 390 12 3 390 8 = 0 := by rw [mu_rdn (by omega)]; exact g8
          have c10 : mu g 390 12 3 390 10 = nI k := by rw [mu_rdn (by omega)]; exact g10
          have c11 : mu g 390 12 3 390 11 = nI k := by rw [mu_rdn (by omega)]; exact g11
          have c12 : mu g 390 12 3 390 12 = 3 := by rw [mu_rde rfl]
          have c13 : mu g 390 12 3 390 13 = byt tape k := by rw [mu_rdn (by omega)]; exact g13
          unfold f_X8_reads_280
          by_cases b1 : byt tape k = 47
          · rw [if_pos b1, if_pos (Or.inl b1)]
            exact wM (M_rd285 t2 c8 c10 c11 c12 c13 hkl2 (by rw [b1]; decide) 1) (fun _ q P => ⟨P.1, (f2.tr f3).tr P.2⟩)
          rw [if_neg b1]
          by_cases b2 : byt tape k = 43
          · rw [if_pos b2, if_pos (Or.inr (Or.inl b2))]
            exact wM (M_rd285 t2 c8 c10 c11 c12 c13 hkl2 (by rw [b2]; decide) 1) (fun _ q P => ⟨P.1, (f2.tr f3).tr P.2⟩)
          rw [if_neg b2]
          by_cases b3 : byt tape k = 35
          · rw [if_pos b3, if_pos (Or.inr (Or.inr (Or.inl b3)))]
            exact wM (M_rd285 t2 c8 c10 c11 c12 c13 hkl2 (by rw [b3]; decide) 1) (fun _ q P => ⟨P.1, (f2.tr f3).tr P.2⟩)
          rw [if_neg b3]
          by_cases b4 : byt tape k = 59
          · rw [if_pos b4, if_pos (Or.inr (Or.inr (Or.inr b4)))]
            exact wM (M_rd285 t2 c8 c10 c11 c12 c13 hkl2 (by rw [b4]; decide) 1) (fun _ q P => ⟨P.1, (f2.tr f3).tr P.2⟩)
          rw [if_neg b4, if_neg (by rintro (z | z | z | z) <;> contradiction)]
          unfold f_X8_reads_285 f_X8_must
          rw [if_pos rfl, if_pos c8, mlet_eq, mlet_eq, b2_some, mlet_eq]
          refine wR ⟨⟨?_, by decide, ?_, by show k ≤ 200; omega⟩, (f2.tr f3).tr (((Fr.mu (by omega) (by omega)).tr (Fr.mu (by omega) (by omega))).tr (Fr.mu (by omega) (by omega)))⟩
          · simp (disch := omega) only [mu_rdn, mu_rde]
          · simp (disch := omega) only [mu_rdn, mu_rde, c11, g11]
        · rw [if_neg (show ¬ true = false by decide), if_pos (show true = true from rfl), mlet_eq, mlet_eq]
          have f3 : Fr g (mu (mu g 390 12 2) 390 13 0) := (Fr.mu (by omega) (by omega)).tr (Fr.mu (by omega) (by omega))
          have hn : ¬ fgF tape (tape.length - k) k = k := by
            have e5 : tape.length - k = (tape.length - k - 1) + 1 := by omega
            rw [e5]
            unfold fgF
            rw [if_pos eF]
            have := (fgF_le tape (tape.length - k - 1) (k + 1)).1
            omega
          have z := M_rd147 (tape := tape) (s := k) (tape.length - k) k xFU (mu (mu g 390 12 2) 390 13 0) (by omega) (Nat.le_refl _) (by unfold xFU; omega) (tg.fr f3) (by rw [mu_rdn (by omega), mu_rdn (by omega)]; exact g8) (by rw [mu_rdn (by omega), mu_rdn (by omega)]; exact g10) (by rw [mu_rdn (by omega), mu_rdn (by omega)]; exact g11) (by rw [mu_rdn (by omega), mu_rde rfl]) (by rw [mu_rde rfl]; unfold fgW; rw [if_pos rfl])
          unfold fgW at z
          rw [if_neg hn] at z
          exact wM z (fun _ q P => ⟨P.1, (f2.tr f3).tr P.2⟩)
      · rw [if_neg (show ¬ true = false by decide), if_pos (show true = true from rfl), mlet_eq]
        have f3 : Fr g (mu g 390 12 1) := Fr.mu (by omega) (by omega)
        obtain ⟨h', p1, p2, p3, p4⟩ := M_rd89 (tape := tape) (tape.length - k) k xFU (mu g 390 12 1) (by omega) (by unfold xFU; omega) (tg.fr f3) (by rw [mu_rdn (by omega)]; exact g10)
        have le := ltF_le tape (tape.length - k) k
        refine wE p1 ⟨⟨?_, p4, ?_, le.1, by omega, ?_, fun _ => ?_⟩, (f2.tr f3).tr ⟨p2, fun x hx => p3 x (by omega)⟩⟩
        · rw [p3 8 (by omega), mu_rdn (by omega)]; exact g8
        · rw [p3 11 (by omega), mu_rdn (by omega)]; exact g11
        · rw [p3 12 (by omega), mu_rde rfl]; rfl
        · rw [p3 13 (by omega), mu_rdn (by omega)]; exact g13
  intro d
  induction d with
  | zero =>
    intro k n h h1 h2 t h8 h10
    obtain ⟨n, rfl⟩ : ∃ z, n = z + 1 := ⟨n - 1, by omega⟩
    exact stop k n h (by omega) t h8 h10 (by rw [byt_end (by omega)]; decide)
  | succ d ih =>
    intro k n h h1 h2 t h8 h10
    obtain ⟨n, rfl⟩ : ∃ z, n = z + 1 := ⟨n - 1, by omega⟩
    have t2 := t.2.1
    by_cases e : byt tape k = 32
    · have e0 : f_X8_byteAt 390 (h 390 10) h = some (byt tape k, h) := by rw [h10, M_byteAt t (by omega)]
      have f1 : Fr h (mu h 390 10 (nI (k + 1))) := Fr.mu (by omega) (by omega)
      unfold f_X8_reads_8 spF
      rw [e0, b2_some, if_pos e, if_pos e, mlet_eq, h10, li_1, nI_add]
      exact wM (ih (k + 1) n _ (by omega) (by omega) (t.fr f1) (by rw [mu_rdn (by omega)]; exact h8) (by rw [mu_rde rfl])) (fun _ g P => ⟨P.1, f1.tr P.2⟩)
    · have z := stop k n h (by omega) t h8 h10 e
      unfold spF
      rw [if_neg e]
      exact z
