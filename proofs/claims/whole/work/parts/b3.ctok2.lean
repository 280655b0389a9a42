/-! the class: the next token, a number -/
theorem fgF_gt {tape : List Int32} {s : Nat} (hs : s < tape.length) (h : inR (byt tape s) 48 57 = true) : s < fgF tape (tape.length - s) s := by
  obtain ⟨d, hd⟩ : ∃ d, tape.length - s = d + 1 := ⟨tape.length - s - 1, by omega⟩
  rw [hd]
  unfold fgF
  rw [if_pos h]
  have := (fgF_le tape d (s + 1)).1
  omega
theorem C_adv47 {h : Mem} {tape : List Int32} {s : Nat} (t : TpC h tape) (h6 : h 1 6 = 0) (h2 : h 1 2 = nI s) (hs : s ≤ tape.length) : Tr (f_X2_advance_47 1 h) (fun _ h' => RPc h' tape (tk1 tape s) ∧ FrC h h') := by
  have l := t.1.2.1
  unfold f_X2_advance_47
  rw [mlet_eq, h2, x1_0, mu_rde rfl]
  have f0 : FrC h (mu h 1 3 (nI s)) := FrC.mu (by omega)
  have t0 := t.fr f0
  have k6 : mu h 1 3 (nI s) 1 6 = 0 := by rw [mu_rdn (by omega)]; exact h6
  have k2 : mu h 1 3 (nI s) 1 2 = nI s := by rw [mu_rdn (by omega)]; exact h2
  have k3 : mu h 1 3 (nI s) 1 3 = nI s := mu_rde rfl
  generalize mu h 1 3 (nI s) = g at f0 t0 k6 k2 k3 ⊢
  rw [C_at t0 (by omega), b2_some]
  unfold tk1
  rcases Nat.lt_or_ge s tape.length with q | q
  · obtain ⟨m, hm, em⟩ := byt_v t.2 q
    have n4 : ¬ byt tape s = -4 := by rw [em]; exact nI_ne4 (by omega)
    rw [atc_in q, if_pos (by rw [em]; exact nI_pos' (by omega)), C_letter', b2_some, if_neg n4]
    cases hl : inR (byt tape s) 97 122 with
    | true =>
      rw [if_neg (show ¬ bI true = 0 by decide), if_pos rfl]
      unfold f_X2_scanName
      rw [mlet_eq]
      obtain ⟨h', g1, g2, g3, g4⟩ := C_name5 (tape := tape) (tape.length - s) s xFU (mu g 1 4 1) (by omega) (by unfold xFU; omega) (t0.fr (FrC.mu (by omega))) (by rw [mu_rdn (by omega)]; exact k2)
      rw [g1, b2_some]
      have lf := ltF_le tape (tape.length - s) s
      refine wR ⟨⟨?_, g2, ?_, lf.1, by omega, ?_, fun z => absurd z (by decide)⟩, f0.tr ⟨fun a ha => by rw [g3 a ha, mu_ne ha], by rw [g4 8 (by omega), mu_rdn (by omega)]⟩⟩
      · rw [g4 6 (by omega), mu_rdn (by omega)]; exact k6
      · rw [g4 3 (by omega), mu_rdn (by omega)]; exact k3
      · rw [g4 4 (by omega), mu_rde rfl]
    | false =>
      rw [if_pos (show bI false = 0 from rfl), C_figure, b2_some, if_neg (show ¬ false = true by decide)]
      cases hf : inR (byt tape s) 48 57 with
      | true =>
        rw [if_neg (show ¬ bI true = 0 by decide), if_pos rfl]
        unfold f_X2_scanNumber
        rw [mlet_eq, mlet_eq]
        obtain ⟨h', g1, g2, g3, g4, g5'⟩ := C_num10 (tape := tape) (s := s) (tape.length - s) s xFU (mu (mu g 1 4 2) 1 5 0) (by omega) (by omega) (by unfold xFU; omega) (t0.fr ((FrC.mu (by omega)).tr (FrC.mu (by omega)))) (by rw [mu_rdn (by omega), mu_rdn (by omega)]; exact k2) (by rw [mu_rde rfl, Nat.sub_self]; rfl)
        have lf := fgF_le tape (tape.length - s) s
        have gt := fgF_gt q hf
        have fr : FrC g h' := ⟨fun a ha => by rw [g4 a ha, mu_ne ha, mu_ne ha], by rw [g5' 8 (by omega) (by omega), mu_rdn (by omega), mu_rdn (by omega)]⟩
        have b6 : h' 1 6 = 0 := by rw [g5' 6 (by omega) (by omega), mu_rdn (by omega), mu_rdn (by omega)]; exact k6
        have b3 : h' 1 3 = nI s := by rw [g5' 3 (by omega) (by omega), mu_rdn (by omega), mu_rdn (by omega)]; exact k3
        have b4 : h' 1 4 = 2 := by rw [g5' 4 (by omega) (by omega), mu_rdn (by omega), mu_rde rfl]
        rw [g1]
        unfold f_X2_scanNumber_76
        rw [g2, b3, nI_subP (by omega)]
        have R0 : RPc h' tape (.inr (s, fgF tape (tape.length - s) s, 2, cnm tape s (fgF tape (tape.length - s) s - s))) := ⟨b6, g2, b3, by omega, by omega, b4, fun _ => g3⟩
        by_cases z : fgF tape (tape.length - s) s - s ≤ 2
        · rw [if_pos (by rw [li_2, nI_leI (by omega) (by omega)]; exact z), b2_some, if_neg (by omega)]
          rw [cnm_v gt z] at R0
          exact wR ⟨R0, f0.tr fr⟩
        · rw [if_neg (by rw [li_2, nI_leI (by omega) (by omega)]; exact z), if_pos (by omega)]
          obtain ⟨u, h2', e2, P⟩ := C_fail R0 1 (by decide)
          rw [e2, b2_some, b2_some]
          exact wR ⟨P.1, (f0.tr fr).tr P.2⟩
      | false =>
        rw [if_pos (show bI false = 0 from rfl), if_neg (show ¬ false = true by decide)]
        unfold f_X2_scanSign
        rw [mlet_eq, mlet_eq, mu_rdn (by omega), k2, show nI s + 1 = nI (s + 1) by rw [li_1, nI_add]]
        have fr : FrC g (mu (mu g 1 4 (byt tape s)) 1 2 (nI (s + 1))) := (FrC.mu (by omega)).tr (FrC.mu (by omega))
        have R0 : ∀ v, ¬ byt tape s = 2 → RPc (mu (mu g 1 4 (byt tape s)) 1 2 (nI (s + 1))) tape (.inr (s, s + 1, byt tape s, v)) := by
          intro v n2
          refine ⟨?_, mu_rde rfl, ?_, by omega, by omega, ?_, fun z => absurd z n2⟩
          · rw [mu_rdn (by omega), mu_rdn (by omega)]; exact k6
          · rw [mu_rdn (by omega), mu_rdn (by omega)]; exact k3
          · rw [mu_rdn (by omega), mu_rde rfl]
        have F6 : (mu (mu g 1 4 (byt tape s)) 1 2 (nI (s + 1))) 1 6 = 0 := by rw [mu_rdn (by omega), mu_rdn (by omega)]; exact k6
        have F3 : (mu (mu g 1 4 (byt tape s)) 1 2 (nI (s + 1))) 1 3 = nI s := by rw [mu_rdn (by omega), mu_rdn (by omega)]; exact k3
        generalize mu (mu g 1 4 (byt tape s)) 1 2 (nI (s + 1)) = g2 at fr R0 F6 F3 ⊢
        by_cases a : byt tape s = 47
        · rw [if_pos a, if_pos (Or.inl a), b2_some]
          exact wR ⟨R0 _ (by rw [a]; decide), f0.tr fr⟩
        by_cases b : byt tape s = 43
        · rw [if_neg a, if_pos b, if_pos (Or.inr (Or.inl b)), b2_some]
          exact wR ⟨R0 _ (by rw [b]; decide), f0.tr fr⟩
        by_cases c : byt tape s = 35
        · rw [if_neg a, if_neg b, if_pos c, if_pos (Or.inr (Or.inr (Or.inl c))), b2_some]
          exact wR ⟨R0 _ (by rw [c]; decide), f0.tr fr⟩
        by_cases d : byt tape s = 59
        · rw [if_neg a, if_neg b, if_neg c, if_pos d, if_pos (Or.inr (Or.inr (Or.inr d))), b2_some]
          exact wR ⟨R0 _ (by rw [d]; decide), f0.tr fr⟩
        · rw [if_neg a, if_neg b, if_neg c, if_neg d, if_neg (fun z => z.elim a (fun z => z.elim b (fun z => z.elim c d)))]
          unfold f_X2_fail
          rw [if_pos F6, mlet_eq, mlet_eq, mu_rdn (by omega), F3, b2_some, b2_some]
          refine wR ⟨⟨?_, by decide, mu_rde rfl⟩, (f0.tr fr).tr ((FrC.mu (by omega)).tr (FrC.mu (by omega)))⟩
          rw [mu_rdn (by omega), mu_rde rfl]
  · rw [(atc_out q).1, if_neg (by decide), (atc_out q).2, if_pos rfl, mlet_eq]
    refine wR ⟨⟨?_, ?_, ?_, Nat.le_refl _, hs, mu_rde rfl, fun z => absurd z (by decide)⟩, f0.tr (FrC.mu (by omega))⟩
    · rw [mu_rdn (by omega)]; exact k6
    · rw [mu_rdn (by omega)]; exact k2
    · rw [mu_rdn (by omega)]; exact k3
theorem C_tkA {h : Mem} {tape : List Int32} {n : Nat} (t : TpC h tape) (h6 : h 1 6 = 0) (h2 : h 1 2 = nI n) (hn : n ≤ tape.length) : Tr (f_X2_advance 1 h) (fun _ h' => RPc h' tape (tkA tape n) ∧ FrC h h') := by
  have l := t.1.2.1
  unfold f_X2_advance tkA
  rw [if_pos h6]
  obtain ⟨h', g1, g2, g3, g4⟩ := C_skip (tape := tape) (tape.length - n) n xFU h (by omega) (by unfold xFU; omega) t h2
  have fr : FrC h h' := ⟨g3, g4 8 (by omega)⟩
  have sp := spF_le tape (tape.length - n) n
  rw [g1]
  exact wM (C_adv47 (t.fr fr) (by rw [g4 6 (by omega)]; exact h6) g2 (by omega)) (fun _ g P => ⟨P.1, fr.tr P.2⟩)
theorem C_advance {h : Mem} {tape : List Int32} {p : PS} (t : TpC h tape) (R : RPc h tape p) : Tr (f_X2_advance 1 h) (fun _ h' => RPc h' tape (p_adv tape p) ∧ FrC h h') := by
  match p, R with
  | .inl (g, pl), R =>
    have n0 : ¬ h 1 6 = 0 := by
      rw [R.1]
      intro z
      have := R.2.1
      rw [z] at this
      exact absurd this (by decide)
    unfold f_X2_advance
    rw [if_neg n0]
    exact wR ⟨R, FrC.rf⟩
  | .inr (s, n, k, v), R => exact C_tkA t R.1 R.2.1 R.2.2.2.2.1
theorem RPc.f0 {h : Mem} {tape : List Int32} {e : Int32 × Nat} (R : RPc h tape (.inl e)) : ¬ h 1 6 = 0 := by
  obtain ⟨f, pl⟩ := e
  intro z
  have := R.2.1
  rw [← R.1, z] at this
  exact absurd this (by decide)
theorem C_takeNumber {h : Mem} {tape : List Int32} {p : PS} (t : TpC h tape) (R : RPc h tape p) (lo hi : Int32) : Tr (f_X2_takeNumber 1 lo hi h) (fun r h' => RPc h' tape (p_num tape lo hi p).2 ∧ (∀ u, (p_num tape lo hi p).2 = .inr u → r = (p_num tape lo hi p).1) ∧ FrC h h') := by
  unfold f_X2_takeNumber
  match p, R with
  | .inl e, R =>
    rw [if_neg R.f0]
    exact wR ⟨R, fun u z => (by cases z), FrC.rf⟩
  | .inr (s, n, k, v), R =>
    rw [if_pos R.1, R.2.2.2.2.2.1, p_num_r]
    by_cases k2 : k = 2
    · rw [if_pos k2, if_neg (fun z => z k2), R.2.2.2.2.2.2 k2, C_out, b2_some]
      cases hr : inR v lo hi with
      | false =>
        rw [if_neg bI_f, if_pos rfl]
        exact wB (C_fail R 3 (by decide)) (fun _ g P => wR ⟨P.1, fun u z => (by cases z), P.2⟩)
      | true =>
        rw [if_pos bI_t, if_neg (by decide)]
        exact wB (C_tkA t R.1 R.2.1 R.2.2.2.2.1) (fun _ g P => wR ⟨P.1, fun u _ => R.2.2.2.2.2.2 k2, P.2⟩)
    · rw [if_neg k2, if_pos k2]
      exact wB (C_fail R 2 (by decide)) (fun _ g P => wR ⟨P.1, fun u z => (by cases z), P.2⟩)
