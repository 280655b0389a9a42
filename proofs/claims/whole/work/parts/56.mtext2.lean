/-! the reference: text -/
def cl0 : Cl := (fun k => if k = 21 then -4 else if k = 9 then 1 else 0, fun _ => [])
def st0 : St := (fun _ => 0, fun _ => [], fun _ => cl0)
def fEm (k : Nat) : Nat → Int32 := fun x => if 308 ≤ x ∧ (x - 308) / 961 < k ∧ (x - 308) % 961 = 21 then -4 else if 308 ≤ x ∧ (x - 308) / 961 < k ∧ (x - 308) % 961 = 9 then 1 else 0
theorem M_emp21 {P : Nat} (hP : xln P = 6074) : ∀ (d c n : Nat) (h : Mem), c + d = 6 → d < n → (∀ x, x < 6074 → h P x = fEm c x) → ∃ h', f_X8_empties_21 n P (nI c) h = some ((), h') ∧ (∀ a, a ≠ P → h' a = h a) ∧ ∀ x, x < 6074 → h' P x = fEm 6 x := by
  intro d
  induction d with
  | zero =>
    intro c n h h1 h2 hx
    obtain ⟨n, rfl⟩ : ∃ z, n = z + 1 := ⟨n - 1, by omega⟩
    refine ⟨h, ?_, fun _ _ => rfl, ?_⟩
    · unfold f_X8_empties_21
      rw [if_pos (by rw [li_6, nI_leI (by omega) (by omega)]; omega)]
    · have : c = 6 := by omega
      rw [← this]
      exact hx
  | succ d ih =>
    intro c n h h1 h2 hx
    obtain ⟨n, rfl⟩ : ∃ z, n = z + 1 := ⟨n - 1, by omega⟩
    obtain ⟨h', p1, p2, p3⟩ := ih (c + 1) n (mu (mu h P (308 + 961 * c + 21) (-4)) P (308 + 961 * c + 9) 1) (by omega) (by omega) (by
      intro x hx6
      by_cases e9 : x = 308 + 961 * c + 9
      · rw [mu_rde e9]
        unfold fEm
        rw [if_neg (by omega), if_pos (by omega)]
      · rw [mu_rdn e9]
        by_cases e21 : x = 308 + 961 * c + 21
        · rw [mu_rde e21]
          unfold fEm
          rw [if_pos (by omega)]
        · rw [mu_rdn e21, hx x hx6]
          unfold fEm
          by_cases a1 : 308 ≤ x ∧ (x - 308) / 961 < c ∧ (x - 308) % 961 = 21
          · rw [if_pos a1, if_pos (by omega)]
          · rw [if_neg a1, if_neg (show ¬ (308 ≤ x ∧ (x - 308) / 961 < c + 1 ∧ (x - 308) % 961 = 21) by omega)]
            by_cases a2 : 308 ≤ x ∧ (x - 308) / 961 < c ∧ (x - 308) % 961 = 9
            · rw [if_pos a2, if_pos (by omega)]
            · rw [if_neg a2, if_neg (by omega)])
    refine ⟨h', ?_, fun a ha => by rw [p2 a ha, mu_ne ha, mu_ne ha], p3⟩
    refine Eq.trans ?_ p1
    generalize hY : f_X8_empties_21 n P (nI (c + 1)) (mu (mu h P (308 + 961 * c + 21) (-4)) P (308 + 961 * c + 9) 1) = Y
    unfold f_X8_empties_21
    have o1 : (308 : Int32) + 961 * nI c + 21 = nI (308 + 961 * c + 21) := by rw [li_308, li_961, li_21, nI_mul, nI_add, nI_add]
    have o2 : (308 : Int32) + 961 * nI c + 9 = nI (308 + 961 * c + 9) := by rw [li_308, li_961, li_9, nI_mul, nI_add, nI_add]
    have o3 : nI c + 1 = nI (c + 1) := by rw [li_1, nI_add]
    rw [if_neg (by rw [li_6, nI_leI (by omega) (by omega)]; omega), o1, o2, o3, ast_nI (by omega) (by omega), ast_nI (by omega) (by omega)]
    exact hY
theorem M_emp2 {P : Nat} (hP : xln P = 6074) : ∀ (d k n : Nat) (h : Mem), k + d = 6074 → d < n → (∀ x, x < k → h P x = 0) → ∃ h', f_X8_empties_2 n P (nI k) h = some ((), h') ∧ (∀ a, a ≠ P → h' a = h a) ∧ ∀ x, x < 6074 → h' P x = fEm 6 x := by
  intro d
  induction d with
  | zero =>
    intro k n h h1 h2 hx
    obtain ⟨n, rfl⟩ : ∃ z, n = z + 1 := ⟨n - 1, by omega⟩
    obtain ⟨h', p1, p2, p3⟩ := M_emp21 hP 6 0 xFU h (by omega) (by unfold xFU; omega) (fun x hx6 => by
      rw [hx x (by omega)]
      unfold fEm
      rw [if_neg (by omega), if_neg (by omega)])
    refine ⟨h', ?_, p2, p3⟩
    unfold f_X8_empties_2
    rw [if_pos (by rw [li_6074, nI_leI (by omega) (by omega)]; omega)]
    exact p1
  | succ d ih =>
    intro k n h h1 h2 hx
    obtain ⟨n, rfl⟩ : ∃ z, n = z + 1 := ⟨n - 1, by omega⟩
    obtain ⟨h', p1, p2, p3⟩ := ih (k + 1) n (mu h P k 0) (by omega) (by omega) (fun x hx6 => by
      by_cases e : x = k
      · rw [mu_rde e]
      · rw [mu_rdn e, hx x (by omega)])
    refine ⟨h', ?_, fun a ha => by rw [p2 a ha, mu_ne ha], p3⟩
    refine Eq.trans ?_ p1
    generalize hY : f_X8_empties_2 n P (nI (k + 1)) (mu h P k 0) = Y
    unfold f_X8_empties_2
    rw [if_neg (by rw [li_6074, nI_leI (by omega) (by omega)]; omega), ast_nI (by omega) (by omega), show nI k + 1 = nI (k + 1) by rw [li_1, nI_add]]
    exact hY
theorem fEm_hi {x c k : Nat} (hx : x = 308 + 961 * c + k) (hc : c < 6) (hk : k < 961) : fEm 6 x = if k = 21 then -4 else if k = 9 then 1 else 0 := by
  unfold fEm
  by_cases a1 : k = 21
  · rw [if_pos a1, if_pos (by omega)]
  · rw [if_neg a1, if_neg (by omega)]
    by_cases a2 : k = 9
    · rw [if_pos a2, if_pos (by omega)]
    · rw [if_neg a2, if_neg (by omega)]
theorem fEm_lo {x : Nat} (hx : x < 308) : fEm 6 x = 0 := by
  unfold fEm
  rw [if_neg (by omega), if_neg (by omega)]
theorem RM_st0 {f : Nat → Int32} (h : ∀ x, x < 6074 → f x = fEm 6 x) : RM f st0 := by
  have lo : ∀ x, x < 308 → f x = 0 := fun x hx => by rw [h x (by omega), fEm_lo hx]
  have z6 : sm6 (fun _ => 0) = 0 := by decide
  refine ⟨⟨lo 0 (by omega), lo 1 (by omega)⟩, ⟨?_, ?_, ?_, ?_⟩, ⟨lo 6 (by omega), by show ([] : List (List Int32)).length ≤ 12; simp, fun i j hi => ?_⟩, ⟨lo 7 (by omega), by show ([] : List (List Int32)).length ≤ 36; simp, fun i j hi => ?_⟩, fun c hc => ⟨fun k hk hk2 => ?_, fun t ht => ?_⟩⟩
  · rw [lo 2 (by omega)]; decide
  · rw [lo 3 (by omega)]; decide
  · rw [lo 4 (by omega)]; decide
  · rw [lo 5 (by omega)]; decide
  · exact absurd hi (Nat.not_lt_zero i)
  · exact absurd hi (Nat.not_lt_zero i)
  · simp only [bk]
    rw [h _ (by omega), fEm_hi rfl hc (by omega)]
    rfl
  · have q := treg ht
    refine Tb.nil ?_
    simp only [bk]
    rw [h _ (by omega), fEm_hi rfl hc (by omega), if_neg (fun z => by rw [z] at ht; cases ht), if_neg (fun z => by rw [z] at ht; cases ht)]
theorem M_empties {P : Nat} {h : Mem} (hP : xln P = 6074) : ∃ h', f_X8_empties P h = some ((), h') ∧ (∀ a, a ≠ P → h' a = h a) ∧ RM (h' P) st0 := by
  obtain ⟨h', p1, p2, p3⟩ := M_emp2 hP 6074 0 xFU h (by omega) (by unfold xFU; omega) (fun x hx => by omega)
  exact ⟨h', p1, p2, RM_st0 p3⟩
theorem M_t69 (v : Int32) : ∀ (d k n : Nat) (h : Mem), k + d = 6074 → d < n → ∃ h', f_X8_text_69 n 390 v (nI k) h = some (v, mu (mu (mu h' 390 5 0) 394 0 0) 394 1 0) ∧ (∀ a, a ≠ 391 → h' a = h a) ∧ ∀ x, h' 391 x = if k ≤ x ∧ x < 6074 then h 392 x else h 391 x := by
  intro d
  induction d with
  | zero =>
    intro k n h h1 h2
    obtain ⟨n, rfl⟩ : ∃ z, n = z + 1 := ⟨n - 1, by omega⟩
    refine ⟨h, ?_, fun _ _ => rfl, fun x => by rw [if_neg (by omega)]⟩
    unfold f_X8_text_69
    have a0 : ∀ (q : Mem) (y : Int32) (kk : Mem → Option (Int32 × Mem)), ast q 394 0 y kk = kk (mu q 394 0 y) := fun q y kk => as_394 (i := 0) (by omega)
    have a1 : ∀ (q : Mem) (y : Int32) (kk : Mem → Option (Int32 × Mem)), ast q 394 1 y kk = kk (mu q 394 1 y) := fun q y kk => as_394 (i := 1) (by omega)
    rw [if_pos (by rw [li_6074, nI_leI (by omega) (by omega)]; omega), mlet_eq, xr_3, a0, a1]
  | succ d ih =>
    intro k n h h1 h2
    obtain ⟨n, rfl⟩ : ∃ z, n = z + 1 := ⟨n - 1, by omega⟩
    obtain ⟨h', g1, g2, g3⟩ := ih (k + 1) n (mu h 391 k (h 392 k)) (by omega) (by omega)
    refine ⟨h', ?_, fun a ha => by rw [g2 a ha, mu_ne ha], fun x => ?_⟩
    · refine Eq.trans ?_ g1
      generalize hY : f_X8_text_69 n 390 v (nI (k + 1)) (mu h 391 k (h 392 k)) = Y
      unfold f_X8_text_69
      rw [if_neg (by rw [li_6074, nI_leI (by omega) (by omega)]; omega), xr_1, al_392 (by omega), xr_0, as_391 (by omega), show nI k + 1 = nI (k + 1) by rw [li_1, nI_add]]
      exact hY
    · rw [g3 x, mu_rdk (by omega)]
      by_cases e : x = k
      · rw [if_neg (by omega), mu_rde e, if_pos (by omega), e]
      · rw [mu_rdn e]
        by_cases e2 : k + 1 ≤ x ∧ x < 6074
        · rw [if_pos e2, if_pos (by omega)]
        · rw [if_neg e2, if_neg (by omega)]
def O_text1 (T : Top) (S : Nat × St × PS) : Int32 × Top :=
  match S.2.2 with
  | .inl e => (-10 - nI e.2, T.1, T.2.1, [], e.1, T.2.2.2.2)
  | .inr _ => (nI S.1, S.2.1, [], [], 0, fun _ => none)
def O_text (T : Top) : Int32 × Top := O_text1 T (p_lines T.2.2.1 201 (0, st0, tkA T.2.2.1 0))
theorem M_text (T : Top) : MO (f_X8_text 390) O_text T := by
  intro h R
  have t : TpM h T.2.2.1 := R.2.2.1
  have t2 := t.2.1
  unfold f_X8_text
  rw [mlet_eq, mlet_eq, xr_1]
  obtain ⟨h3, p1, p2, p3⟩ := M_empties (P := 392) (h := mu (mu h 390 8 0) 390 10 0) xl_392
  rw [p1, b2_some]
  have f3 : ∀ a, a ≠ 390 → a ≠ 392 → h3 a = h a := fun a b1 b2 => by rw [p2 a b2, mu_ne b1, mu_ne b1]
  have g3 : ∀ x, x ≠ 8 → x ≠ 10 → h3 390 x = h 390 x := fun x b1 b2 => by rw [p2 390 (by omega), mu_rdn b2, mu_rdn b1]
  have q8 : h3 390 8 = 0 := by rw [p2 390 (by omega), mu_rdn (by omega), mu_rde rfl]
  have q10 : h3 390 10 = nI 0 := by rw [p2 390 (by omega), mu_rde rfl]; rfl
  have t3 : TpM h3 T.2.2.1 := ⟨by rw [g3 7 (by omega) (by omega)]; exact t.1, t2, fun j hj => by rw [f3 396 (by omega) (by omega)]; exact t.2.2 j hj⟩
  unfold f_X8_reads
  rw [if_pos (by rw [q8]; decide)]
  refine wB (M_rd8 T.2.2.1.length 0 xFU h3 (by omega) (by unfold xFU; omega) t3 q8 q10) (fun _ h4 P => ?_)
  have P1 : RPm h4 T.2.2.1 (tkA T.2.2.1 0) := P.1
  have D4 : RM (h4 392) st0 := by rw [P.2.1 392 (by omega)]; exact p3
  obtain ⟨h5, w1, w2, w3, w4, w5⟩ := M_t23 (tape := T.2.2.1) 201 xFU (0, st0, tkA T.2.2.1 0) h4 (by unfold xFU; omega) (by omega) (t3.fr P.2) P1 (tkA_ok _ _) (tkA_sg _ (by omega)) D4
  have w1' : f_X8_text_23 xFU 390 0 h4 = f_X8_text_47 390 (nI (p_lines T.2.2.1 201 (0, st0, tkA T.2.2.1 0)).1) h5 := w1
  rw [w1']
  show Tr _ (fun r h' => r = (O_text1 T (p_lines T.2.2.1 201 (0, st0, tkA T.2.2.1 0))).1 ∧ RMo h' (O_text1 T (p_lines T.2.2.1 201 (0, st0, tkA T.2.2.1 0))).2 ∧ ∀ a, a < 390 → h' a = h a)
  have f5 : ∀ a, a ≠ 390 → a ≠ 392 → a ≠ 397 → h5 a = h a := fun a b1 b2 b3 => by rw [w5.1 a b1 b2 b3, P.2.1 a b1, f3 a b1 b2]
  have g5' : h5 390 5 = h 390 5 := by rw [w5.2 5 (by omega), P.2.2 5 (by omega), g3 5 (by omega) (by omega)]
  generalize p_lines T.2.2.1 201 (0, st0, tkA T.2.2.1 0) = S at w3 w4 ⊢
  obtain ⟨m, dr, p⟩ := S
  unfold f_X8_text_47
  rw [mlet_eq]
  match p, w3 with
  | .inl (f, pl), w3 =>
    have w3 : RPm h5 T.2.2.1 (.inl (f, pl)) := w3
    rw [if_neg (by rw [mu_rdn (by omega), w3.1]; exact Int32.not_le.mpr w3.2.1), mu_rdn (by omega), w3.2.2.1]
    obtain ⟨r1, r2, r3, r4, r5⟩ := R
    refine wR ⟨rfl, ⟨?_, ?_, ⟨?_, by show ([] : List Int32).length ≤ 200; simp, fun j hj => absurd hj (Nat.not_lt_zero j)⟩, ?_, ?_⟩, fun a ha => by rw [mu_ne (by omega), f5 a (by omega) (by omega) (by omega)]⟩
    · rw [mu_ne (by omega), f5 391 (by omega) (by omega) (by omega)]; exact r1
    · rw [mu_rdn (by omega), g5', mu_ne (by omega), f5 395 (by omega) (by omega) (by omega)]; exact r2
    · rw [mu_rde rfl]; rfl
    · rw [mu_rdn (by omega)]; exact w3.1
    · intro k hk
      rw [mu_ne (by omega), f5 394 (by omega) (by omega) (by omega), mu_ne (by omega), f5 393 (by omega) (by omega) (by omega)]
      exact r5 k hk
  | .inr (s, n, k, v), w3 =>
    have w3 : RPm h5 T.2.2.1 (.inr (s, n, k, v)) := w3
    have w4 : RM (h5 392) dr := w4
    rw [if_pos (by rw [mu_rdn (by omega), w3.1]; decide)]
    obtain ⟨h6, k1, k2, k3⟩ := M_t69 (nI m) 6074 0 xFU (mu h5 390 7 0) (by omega) (by unfold xFU; omega)
    have k1' : f_X8_text_69 xFU 390 (nI m) 0 (mu h5 390 7 0) = some (nI m, mu (mu (mu h6 390 5 0) 394 0 0) 394 1 0) := k1
    refine wE k1' ⟨rfl, ⟨?_, ⟨?_, by show ([] : List Int32).length ≤ 4; simp, fun z => absurd z (by show ¬ 0 < ([] : List Int32).length; simp)⟩, ⟨?_, by show ([] : List Int32).length ≤ 200; simp, fun j hj => absurd hj (Nat.not_lt_zero j)⟩, ?_, ?_⟩, fun a ha => by rw [mu_ne (by omega), mu_ne (by omega), mu_ne (by omega), k2 a (by omega), mu_ne (by omega), f5 a (by omega) (by omega) (by omega)]⟩
    · refine w4.frame (fun x hx => ?_)
      rw [mu_ne (by omega), mu_ne (by omega), mu_ne (by omega), k3 x, if_pos (by omega), mu_rdk (by omega)]
    · rw [mu_rdk (by omega), mu_rdk (by omega), mu_rde rfl]; rfl
    · rw [mu_rdk (by omega), mu_rdk (by omega), mu_rdn (by omega), k2 390 (by omega), mu_rde rfl]; rfl
    · rw [mu_rdk (by omega), mu_rdk (by omega), mu_rdn (by omega), k2 390 (by omega), mu_rdn (by omega)]; exact w3.1
    · intro k hk
      refine ⟨?_, fun s es => by cases es⟩
      rcases (show k = 0 ∨ k = 1 by omega) with rfl | rfl
      · rw [mu_rdn (by omega), mu_rde rfl]; rfl
      · rw [mu_rde rfl]; rfl
