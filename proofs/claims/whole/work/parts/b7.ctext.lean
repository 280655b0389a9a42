/-! the class: text -/
def ansP (S : Nat × St × PS) : Int32 := match S.2.2 with
  | .inl e => -10 - nI e.2
  | .inr _ => nI S.1
def RSc (h : Mem) (tape : List Int32) (S : Nat × St × PS) : Prop := RPc h tape S.2.2 ∧ RWd h 4 S.2.1 ∧ DrI S.2.1 ∧ ∀ u, S.2.2 = .inr u → h 1 8 = nI S.1
theorem Fr4.rf {h : Mem} : Fr4 h h := fun _ _ _ => rfl
theorem C_r97 {h : Mem} {tape : List Int32} {S : Nat × St × PS} (R : RSc h tape S) : f_X2_read_97 1 h = some (ansP S, h) := by
  obtain ⟨m, dr, p⟩ := S
  unfold f_X2_read_97 ansP
  match p, R with
  | .inl (f, pl), R =>
    rw [if_neg R.1.f0, R.1.2.2]
  | .inr u, R =>
    obtain ⟨s, n, k, v⟩ := u
    rw [if_pos R.1.1, R.2.2.2 _ rfl]
theorem SG.le {b c : Nat} {p : PS} (h : SG b p) (e : c ≤ b) : SG c p := by
  match p, h with
  | .inl _, _ => trivial
  | .inr (s, n, k, v), h => exact Nat.le_trans e h
theorem C_r33 {tape : List Int32} : ∀ (d i n : Nat) (S : Nat × St × PS) (h : Mem), i + d = 200 → d + 1 < n → TpC h tape → RSc h tape S → TkO S.2.2 → SG i S.2.2 → Tr (f_X2_read_33 n 1 (nI i) h) (fun r h' => r = ansP (p_lines tape (d + 1) S) ∧ RSc h' tape (p_lines tape (d + 1) S) ∧ Fr4 h h') := by
  intro d
  induction d with
  | zero =>
    intro i n S h h1 h2 t R ok sg
    obtain ⟨n, rfl⟩ : ∃ z, n = z + 1 := ⟨n - 1, by omega⟩
    have l := t.1.2.1
    have es : p_lines tape (0 + 1) S = S := by
      obtain ⟨m, dr, p⟩ := S
      match p, R, ok, sg with
      | .inl e, _, _, _ => rfl
      | .inr (s, n, k, v), R, ok, sg =>
        show (if k = 0 then _ else _) = _
        by_cases k0 : k = 0
        · rw [if_pos k0]
        · exfalso
          have a := ok.2 k0
          have b := R.1.2.2.2.2.1
          have c : i ≤ s := sg
          omega
    unfold f_X2_read_33
    rw [es, if_pos (by rw [li_200, nI_leI (by omega) (by omega)]; omega), C_r97 R]
    exact wR ⟨rfl, R, Fr4.rf⟩
  | succ d ih =>
    intro i n S h h1 h2 t R ok sg
    obtain ⟨n, rfl⟩ : ∃ z, n = z + 1 := ⟨n - 1, by omega⟩
    have l := t.1.2.1
    unfold f_X2_read_33 f_X2_read_91
    rw [if_neg (by rw [li_200, nI_leI (by omega) (by omega)]; omega)]
    obtain ⟨m, dr, p⟩ := S
    match p, R, ok, sg with
    | .inl e, R, ok, sg =>
      have es : p_lines tape (d + 1 + 1) (m, dr, .inl e) = (m, dr, .inl e) := rfl
      rw [es, if_neg R.1.f0, C_r97 R]
      exact wR ⟨rfl, R, Fr4.rf⟩
    | .inr (s, n', k, v), R, ok, sg =>
      have es : p_lines tape (d + 1 + 1) (m, dr, .inr (s, n', k, v)) = if k = 0 then (m, dr, .inr (s, n', k, v)) else p_lines tape (d + 1) (m + 1, p_line tape dr s n' k) := rfl
      rw [es, if_pos R.1.1, R.1.2.2.2.2.2.1]
      by_cases k0 : k = 0
      · rw [if_pos k0, if_pos k0, C_r97 R]
        exact wR ⟨rfl, R, Fr4.rf⟩
      · rw [if_neg k0, if_neg k0, C_spells0 t R.1, b2_some]
        have lt := ok.2 k0
        have sg' : i ≤ s := sg
        have pl := p_line_sg (tape := tape) (dr := dr) (k := k) lt
        have h8 : h 1 8 = nI m := R.2.2.2 _ rfl
        have go : ∀ g, RPc g tape (p_line tape dr s n' k).2 → RWd g 4 (p_line tape dr s n' k).1 → DrI (p_line tape dr s n' k).1 → (∀ u, (p_line tape dr s n' k).2 = .inr u → g 1 8 = nI (m + 1)) → Fr4 h g → Tr (f_X2_read_33 n 1 (nI i + 1) g) (fun r h' => r = ansP (p_lines tape (d + 1) (m + 1, p_line tape dr s n' k)) ∧ RSc h' tape (p_lines tape (d + 1) (m + 1, p_line tape dr s n' k)) ∧ Fr4 h h') := by
          intro g q1 q2 q3 q4 fg
          rw [show nI i + 1 = nI (i + 1) by rw [li_1, nI_add]]
          exact wM (ih (i + 1) n (m + 1, p_line tape dr s n' k) g (by omega) (by omega) (t.f4 fg) ⟨q1, q2, q3, q4⟩ pl.2 (pl.1.le (by omega))) (fun r g2 P => ⟨P.1, P.2.1, fg.tr P.2.2⟩)
        have adv : ∀ q u, p_adv tape q = .inr u → ∃ w, q = .inr w := by
          intro q u hq
          match q, hq with
          | .inl e, hq => cases hq
          | .inr w, _ => exact ⟨w, rfl⟩
        have n8 : nI m + 1 = nI (m + 1) := by rw [li_1, nI_add]
        cases hs : spB tape s n' k wSub with
        | true =>
          have el : p_line tape dr s n' k = ((p_sub tape dr (tkA tape n')).1, p_adv tape (p_sub tape dr (tkA tape n')).2) := by
            unfold p_line
            rw [if_pos hs]
          rw [if_neg (show ¬ bI true = 0 by decide)]
          refine wB (C_readSub t R.1 R.2.1 R.2.2.1) (fun _ g P => go g ?_ ?_ ?_ (fun u hu => ?_) P.2.2.2.2)
          · rw [el]; exact P.1
          · rw [el]; exact P.2.1
          · rw [el]; exact P.2.2.1
          · rw [el] at hu
            obtain ⟨w, hw⟩ := adv _ _ hu
            rw [P.2.2.2.1 w hw, h8, n8]
        | false =>
          rw [if_pos (show bI false = 0 from rfl), C_spells1 t R.1, b2_some]
          cases hk : spB tape s n' k wKep with
          | true =>
            have el : p_line tape dr s n' k = ((p_kep tape dr (tkA tape n')).1, p_adv tape (p_kep tape dr (tkA tape n')).2) := by
              unfold p_line
              rw [if_neg (by rw [hs]; decide), if_pos hk]
            rw [if_neg (show ¬ bI true = 0 by decide)]
            refine wB (C_readKep t R.1 R.2.1 R.2.2.1) (fun _ g P => go g ?_ ?_ ?_ (fun u hu => ?_) P.2.2.2.2)
            · rw [el]; exact P.1
            · rw [el]; exact P.2.1
            · rw [el]; exact P.2.2.1
            · rw [el] at hu
              obtain ⟨w, hw⟩ := adv _ _ hu
              rw [P.2.2.2.1 w hw, h8, n8]
          | false =>
            have el : p_line tape dr s n' k = (dr, .inl (2, s)) := by
              unfold p_line
              rw [if_neg (by rw [hs]; decide), if_neg (by rw [hk]; decide)]
            rw [if_pos (show bI false = 0 from rfl)]
            refine wB (C_fail R.1 2 (by decide)) (fun _ g P => go g ?_ ?_ ?_ (fun u hu => ?_) P.2.f4)
            · rw [el]; exact P.1
            · rw [el]; exact R.2.1.c P.2
            · rw [el]; exact R.2.2.1
            · rw [el] at hu
              cases hu
theorem CV_cl0 : CV 1 cl0 := by
  refine ⟨Or.inl rfl, fun t ht r hr => (by cases hr), ⟨Nat.zero_le _, fun _ => Or.inl rfl⟩, Nat.zero_le _, LI.empty (by omega) rfl rfl rfl rfl rfl rfl, ⟨fun r hr => (by cases hr), Nat.zero_le _, fun _ => rfl⟩, fun j hj => PV_0 (by omega) (fun i hi => ?_), ⟨Or.inl rfl, fun q => absurd q (show ¬ (0 : Int32) = 1 by decide), fun q => absurd q (show ¬ (0 : Int32) = 1 by decide)⟩, fun q => absurd q (show ¬ (0 : Int32) = 1 by decide), fun q => absurd rfl q, 0, by omega, rfl⟩
  show (if 29 + 4 * j + i = 21 then _ else if 29 + 4 * j + i = 9 then _ else _) = _
  rw [if_neg (by omega), if_neg (by omega)]
theorem DrI_st0 : DrI st0 := ⟨fun c hc => ⟨CV_cl0, show ¬ (0 : Int32) = 1 by decide⟩, rfl, fun r hr => (by cases hr), rfl⟩
theorem C_read {h : Mem} {tape : List Int32} {dr : St} (t : TpC h tape) (D : RWd h 4 dr) (V : DrV dr) : Tr (f_X2_read 1 h) (fun r h' => r = ansP (p_lines tape 201 (0, st0, tkA tape 0)) ∧ RSc h' tape (p_lines tape 201 (0, st0, tkA tape 0)) ∧ Fr4 h h') := by
  unfold f_X2_read
  rw [x1_1]
  refine wB (C_wclear W4 D V) (fun _ g0 P0 => ?_)
  rw [mlet_eq, mlet_eq, mlet_eq, mlet_eq]
  have f1 : ∀ a, a ≠ 1 → mu (mu (mu (mu g0 1 2 0) 1 6 0) 1 7 0) 1 8 0 a = g0 a := fun a ha => by rw [mu_ne ha, mu_ne ha, mu_ne ha, mu_ne ha]
  have k2 : mu (mu (mu (mu g0 1 2 0) 1 6 0) 1 7 0) 1 8 0 1 2 = nI 0 := by rw [mu_rdn (by omega), mu_rdn (by omega), mu_rdn (by omega), mu_rde rfl]; rfl
  have k6 : mu (mu (mu (mu g0 1 2 0) 1 6 0) 1 7 0) 1 8 0 1 6 = 0 := by rw [mu_rdn (by omega), mu_rdn (by omega), mu_rde rfl]
  have k8 : mu (mu (mu (mu g0 1 2 0) 1 6 0) 1 7 0) 1 8 0 1 8 = 0 := mu_rde rfl
  generalize mu (mu (mu (mu g0 1 2 0) 1 6 0) 1 7 0) 1 8 0 = g1 at f1 k2 k6 k8 ⊢
  have f4 : Fr4 h g1 := fun a q1 q2 => by rw [f1 a q1, P0.2 a (by omega)]
  have t1 := t.f4 f4
  refine wB (C_tkA t1 k6 k2 (by omega)) (fun _ g2 P2 => ?_)
  have D2 : RWd g2 4 st0 := P0.1.frm (fun a h1 h2 => by rw [P2.2.1 a (by omega), f1 a (by omega)])
  have R2 : RSc g2 tape (0, st0, tkA tape 0) := ⟨P2.1, D2, DrI_st0, fun u _ => by rw [P2.2.2, k8]; rfl⟩
  exact wM (C_r33 200 0 xFU (0, st0, tkA tape 0) g2 (by omega) (by unfold xFU; omega) (t1.fr P2.2) R2 (tkA_ok _ _) (tkA_sg _ (Nat.zero_le _))) (fun r g3 P3 => ⟨P3.1, P3.2.1, (f4.tr P2.2.f4).tr P3.2.2⟩)
theorem C_t55 (v : Int32) (h : Mem) : f_X7_text_55 xFU 0 v 0 h = some (v, mu (mu h 389 0 0) 389 1 0) := by
  obtain ⟨n, hn⟩ := xFUs
  rw [hn]
  unfold f_X7_text_55
  rw [if_neg (by decide), x0_4, show (0 : Int32) = nI 0 from rfl, ast_nI (by rw [l389]; omega) (by omega)]
  unfold f_X7_text_55
  rw [if_neg (by decide), x0_4, show nI 0 + 1 = nI 1 from rfl, ast_nI (by rw [l389]; omega) (by omega)]
  unfold f_X7_text_55
  rw [if_pos (by decide)]
  rfl
theorem X_text (T : Top) {B : Nat} (V : TV B T) : CO (f_X7_text 0) (O_text T) B T := by
  intro h R
  obtain ⟨r1, r2, ⟨r3, r4, r5⟩, r6, r7, dr, r8, r9⟩ := R
  have t : TpC h T.2.2.1 := ⟨⟨r3, r4, r5⟩, V.2.2.1⟩
  unfold f_X7_text O_text
  rw [x0_0, x0_1, x0_2, x1_1]
  refine wB (C_read t r8 r9) (fun v2 g1 P1 => ?_)
  generalize p_lines T.2.2.1 201 (0, st0, tkA T.2.2.1 0) = S at P1 ⊢
  obtain ⟨m, dr2, p⟩ := S
  rw [mlet_eq, mlet_eq]
  have f1 : ∀ a, a ≠ 1 → (a < 4 ∨ 100 ≤ a) → g1 a = h a := P1.2.2
  have V' := V.mono (C := B + 13000) (by omega)
  have e0 : (0 : Int32) = pth (lvO (g5 [])) := by
    unfold pth pN lvO g5
    decide
  cases p with
  | inl e =>
    have RP := P1.2.1.1
    obtain ⟨ff, pl⟩ := e
    have fo : O_text1 T (m, dr2, .inl (ff, pl)) = (-10 - nI pl, T.1, T.2.1, [], ff, T.2.2.2.2) := rfl
    rw [fo]
    have c6 : mu (mu g1 0 6 (g1 1 6)) 2 1 0 0 6 = ff := by rw [mu_ne (by omega), mu_rde rfl]; exact RP.1
    rw [if_neg (by rw [c6, ← RP.1]; exact RP.f0)]
    have e : ∀ a, a ≠ 0 → a ≠ 2 → a ≠ 1 → (a < 4 ∨ 100 ≤ a) → mu (mu g1 0 6 (g1 1 6)) 2 1 0 a = h a := fun a q0 q1 q3 q4 => by rw [mu_ne q1, mu_ne q0, f1 a q3 q4]
    have ed : ∀ a, 4 ≤ a → mu (mu g1 0 6 (g1 1 6)) 2 1 0 a = g1 a := fun a ha => by rw [mu_ne (by omega), mu_ne (by omega)]
    refine wR ⟨P1.1, ⟨r1.frm (fun a h1 h2 => e a (by omega) (by omega) (by omega) (by omega)), ?_, ⟨?_, by simp, fun j hj => by simp at hj⟩, c6, fun k hk => ?_, dr2, P1.2.1.2.1.frm (fun a h1 h2 => ed a h1), P1.2.1.2.2.1.drv⟩, ⟨V'.1, V'.2.1, fun x hx => (by cases hx), V'.2.2.2⟩, fun a ha => e a (by omega) (by omega) (by omega) (by omega)⟩
    · rw [mu_ne (by omega), mu_rdn (by omega), f1 0 (by omega) (by omega)]
      exact r2
    · rw [mu_rde rfl]
      rfl
    · obtain ⟨q1, s, q2, q3⟩ := r7 k hk
      have il := im_lo k
      exact ⟨by rw [e 389 (by omega) (by omega) (by omega) (by omega)]; exact q1, s, q2.frm (fun a h1 h2 => e a (by omega) (by omega) (by omega) (by omega)), q3⟩
  | inr u =>
    have RP := P1.2.1.1
    obtain ⟨s, n, k, v⟩ := u
    have fo : O_text1 T (m, dr2, .inr (s, n, k, v)) = (nI m, dr2, [], [], 0, fun _ => none) := rfl
    rw [fo]
    have c6 : mu (mu g1 0 6 (g1 1 6)) 2 1 0 0 6 = 0 := by rw [mu_ne (by omega), mu_rde rfl]; exact RP.1
    rw [if_pos c6]
    have ed : ∀ a, 3 ≤ a → mu (mu g1 0 6 (g1 1 6)) 2 1 0 a = g1 a := fun a ha => by rw [mu_ne (by omega), mu_ne (by omega)]
    have c1 : mu (mu g1 0 6 (g1 1 6)) 2 1 0 2 1 = 0 := mu_rde rfl
    have D1 : RWd (mu (mu g1 0 6 (g1 1 6)) 2 1 0) 4 dr2 := P1.2.1.2.1.frm (fun a h1 h2 => ed a (by omega))
    have R1 : RWd (mu (mu g1 0 6 (g1 1 6)) 2 1 0) 100 T.1 := r1.frm (fun a h1 h2 => by rw [ed a (by omega), f1 a (by omega) (by omega)])
    generalize mu (mu g1 0 6 (g1 1 6)) 2 1 0 = g2 at c6 ed c1 D1 R1 ⊢
    refine wB (C_wcopy W100 W4 (by omega) R1 D1) (fun _ g3 P3 => ?_)
    rw [mlet_eq, C_t55]
    have e : ∀ a, a ≠ 0 → a ≠ 389 → mu (mu (mu g3 0 5 0) 389 0 0) 389 1 0 a = g3 a := fun a q0 q1 => by rw [mu_ne q1, mu_ne q1, mu_ne q0]
    have e2 : ∀ a, a ≠ 0 → a ≠ 389 → (a < 100 ∨ 196 ≤ a) → mu (mu (mu g3 0 5 0) 389 0 0) 389 1 0 a = g2 a := fun a q0 q1 q2 => by rw [e a q0 q1, P3.2 a (by omega)]
    refine wR ⟨P1.1, ⟨P3.1.frm (fun a h1 h2 => e a (by omega) (by omega)), ?_, ⟨?_, by simp, fun j hj => by simp at hj⟩, ?_, fun k hk => ?_, dr2, D1.frm (fun a h1 h2 => e2 a (by omega) (by omega) (by omega)), P1.2.1.2.2.1.drv⟩, ?_, fun a ha => ?_⟩
    · rw [mu_ne (by omega), mu_ne (by omega), mu_rde rfl]
      exact e0
    · rw [e2 2 (by omega) (by omega) (by omega), c1]
      rfl
    · rw [mu_ne (by omega), mu_ne (by omega), mu_rdn (by omega), P3.2 0 (by omega)]
      exact c6
    · obtain ⟨q1, s, q2, q3⟩ := r7 k hk
      have il := im_lo k
      refine ⟨?_, s, q2.frm (fun a h1 h2 => by rw [e2 a (by omega) (by omega) (by omega), ed a (by omega), f1 a (by omega) (by omega)]), fun s' hs' => (by cases hs')⟩
      rcases (show k = 0 ∨ k = 1 by omega) with rfl | rfl
      · rw [mu_rdn (by omega), mu_rde rfl]
        rfl
      · rw [mu_rde rfl]
        rfl
    · exact ⟨⟨P1.2.1.2.2.1.sv.mono (by omega), 0, by omega, P1.2.1.2.2.1.2.2.2⟩, ⟨by simp, fun x hx => (by cases hx)⟩, fun x hx => (by cases hx), fun k s hs => (by cases hs)⟩
    · rw [e2 a (by omega) (by omega) (by omega), ed a (by omega), f1 a (by omega) (by omega)]
