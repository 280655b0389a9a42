/-! the class: tokens -/
def TpC (h : Mem) (tape : List Int32) : Prop := (h 2 1 = nI tape.length ∧ tape.length ≤ 200 ∧ ∀ j, j < tape.length → h 3 j = g5 tape j) ∧ TpV tape
def atc (tape : List Int32) (k : Nat) : Int32 := if tape.length ≤ k then -1 else g5 tape k
def RPc (h : Mem) (tape : List Int32) : PS → Prop
  | .inl (f, pl) => h 1 6 = f ∧ 0 < f ∧ h 1 7 = nI pl
  | .inr (s, n, k, v) => h 1 6 = 0 ∧ h 1 2 = nI n ∧ h 1 3 = nI s ∧ s ≤ n ∧ n ≤ tape.length ∧ h 1 4 = k ∧ (k = 2 → h 1 5 = v)
/-- only the reader's own numbers change, but the lines -/
def FrC (h h' : Mem) : Prop := (∀ a, a ≠ 1 → h' a = h a) ∧ h' 1 8 = h 1 8
theorem FrC.rf {h : Mem} : FrC h h := ⟨fun _ _ => rfl, rfl⟩
theorem FrC.tr {h h1 h2 : Mem} (a : FrC h h1) (b : FrC h1 h2) : FrC h h2 := ⟨fun z hz => (b.1 z hz).trans (a.1 z hz), b.2.trans a.2⟩
theorem FrC.mu {h : Mem} {x : Nat} {v : Int32} (hx : x ≠ 8) : FrC h (mu h 1 x v) := ⟨fun a ha => mu_ne ha, mu_rdn (by omega)⟩
theorem TpC.fr {h h' : Mem} {tape : List Int32} (t : TpC h tape) (f : FrC h h') : TpC h' tape := ⟨⟨by rw [f.1 2 (by omega)]; exact t.1.1, t.1.2.1, fun j hj => by rw [f.1 3 (by omega)]; exact t.1.2.2 j hj⟩, t.2⟩
theorem C_at {h : Mem} {tape : List Int32} {k : Nat} (t : TpC h tape) (hk : k ≤ 400) : f_X4_at 2 (nI k) h = some (atc tape k, h) := by
  obtain ⟨⟨t1, t2, t3⟩, -⟩ := t
  unfold f_X4_at atc
  rw [if_neg (by rw [li_0, nI_ltI (by omega) (by omega)]; omega), t1]
  by_cases e : tape.length ≤ k
  · rw [if_pos (by rw [nI_leI (by omega) (by omega)]; exact e), if_pos e]
  · rw [if_neg (by rw [nI_leI (by omega) (by omega)]; exact e), if_neg (by rw [li_200, nI_leI (by omega) (by omega)]; omega), x2_0, ald_nI (by rw [l3]; omega) (by omega), if_neg e, t3 k (by omega)]
theorem C_letter' (x : Int32) (h : Mem) : f_X2_isLetter x h = some (bI (inR x 97 122), h) := by
  unfold f_X2_isLetter inR
  by_cases a : x < 97
  · rw [if_pos a]
    simp [a]
    rfl
  · rw [if_neg a]
    by_cases b : 122 < x
    · rw [if_pos b]
      simp [b]
      rfl
    · rw [if_neg b]
      simp [a, b]
      rfl
theorem C_figure (x : Int32) (h : Mem) : f_X2_isFigure x h = some (bI (inR x 48 57), h) := by
  unfold f_X2_isFigure inR
  by_cases a : x < 48
  · rw [if_pos a]
    simp [a]
    rfl
  · rw [if_neg a]
    by_cases b : 57 < x
    · rw [if_pos b]
      simp [b]
      rfl
    · rw [if_neg b]
      simp [a, b]
      rfl
theorem atc_in {tape : List Int32} {k : Nat} (h : k < tape.length) : atc tape k = byt tape k := by
  unfold atc byt
  rw [if_neg (by omega), if_neg (by omega)]
theorem atc_out {tape : List Int32} {k : Nat} (h : tape.length ≤ k) : atc tape k = -1 ∧ byt tape k = -4 := by
  unfold atc byt
  rw [if_pos h, if_pos h]
  exact ⟨rfl, rfl⟩
theorem atc_lt {tape : List Int32} {k : Nat} : inR (atc tape k) 97 122 = inR (byt tape k) 97 122 := by
  rcases Nat.lt_or_ge k tape.length with q | q
  · rw [atc_in q]
  · rw [(atc_out q).1, (atc_out q).2]
    decide
theorem atc_fg {tape : List Int32} {k : Nat} : inR (atc tape k) 48 57 = inR (byt tape k) 48 57 := by
  rcases Nat.lt_or_ge k tape.length with q | q
  · rw [atc_in q]
  · rw [(atc_out q).1, (atc_out q).2]
    decide
theorem atc_32 {tape : List Int32} {k : Nat} : atc tape k = 32 ↔ byt tape k = 32 := by
  rcases Nat.lt_or_ge k tape.length with q | q
  · rw [atc_in q]
  · rw [(atc_out q).1, (atc_out q).2]
    decide
theorem byt_v {tape : List Int32} {k : Nat} (V : TpV tape) (h : k < tape.length) : ∃ m, m ≤ 127 ∧ byt tape k = nI m := by
  have e : byt tape k = tape[k] := by
    unfold byt
    rw [if_neg (by omega)]
    simp [g5, List.getD, h]
  rw [e]
  exact inR_ex (b := 127) (by omega) (V _ (List.getElem_mem h))
theorem C_skip {tape : List Int32} : ∀ (d k n : Nat) (h : Mem), k + d = tape.length → d < n → TpC h tape → h 1 2 = nI k → ∃ h', f_X2_advance_8 n 1 h = f_X2_advance_47 1 h' ∧ h' 1 2 = nI (spF tape d k) ∧ (∀ a, a ≠ 1 → h' a = h a) ∧ ∀ x, x ≠ 2 → h' 1 x = h 1 x := by
  intro d
  induction d with
  | zero =>
    intro k n h h1 h2 t e
    obtain ⟨n, rfl⟩ : ∃ z, n = z + 1 := ⟨n - 1, by omega⟩
    have l := t.1.2.1
    refine ⟨h, ?_, e, fun _ _ => rfl, fun _ _ => rfl⟩
    unfold f_X2_advance_8
    rw [e]
    by_cases q : 200 ≤ k
    · rw [if_pos (by rw [li_200, nI_leI (by omega) (by omega)]; exact q)]
    · rw [if_neg (by rw [li_200, nI_leI (by omega) (by omega)]; exact q), x1_0, C_at t (by omega), b2_some, (atc_out (by omega)).1, if_neg (by decide)]
  | succ d ih =>
    intro k n h h1 h2 t e
    obtain ⟨n, rfl⟩ : ∃ z, n = z + 1 := ⟨n - 1, by omega⟩
    have l := t.1.2.1
    unfold f_X2_advance_8 spF
    rw [e, if_neg (by rw [li_200, nI_leI (by omega) (by omega)]; omega), x1_0, C_at t (by omega), b2_some]
    by_cases q : byt tape k = 32
    · rw [if_pos (atc_32.mpr q), if_pos q, mlet_eq, e, show nI k + 1 = nI (k + 1) by rw [li_1, nI_add]]
      obtain ⟨h', g1, g2, g3, g4⟩ := ih (k + 1) n (mu h 1 2 (nI (k + 1))) (by omega) (by omega) (t.fr (FrC.mu (by omega))) (mu_rde rfl)
      exact ⟨h', g1, g2, fun a ha => by rw [g3 a ha, mu_ne ha], fun x hx => by rw [g4 x hx, mu_rdn hx]⟩
    · rw [if_neg (fun z => q (atc_32.mp z)), if_neg q]
      exact ⟨h, rfl, e, fun _ _ => rfl, fun _ _ => rfl⟩
theorem C_name5 {tape : List Int32} : ∀ (d k n : Nat) (h : Mem), k + d = tape.length → d < n → TpC h tape → h 1 2 = nI k → ∃ h', f_X2_scanName_5 n 1 h = some ((), h') ∧ h' 1 2 = nI (ltF tape d k) ∧ (∀ a, a ≠ 1 → h' a = h a) ∧ ∀ x, x ≠ 2 → h' 1 x = h 1 x := by
  intro d
  induction d with
  | zero =>
    intro k n h h1 h2 t e
    obtain ⟨n, rfl⟩ : ∃ z, n = z + 1 := ⟨n - 1, by omega⟩
    have l := t.1.2.1
    refine ⟨h, ?_, e, fun _ _ => rfl, fun _ _ => rfl⟩
    unfold f_X2_scanName_5
    rw [e]
    by_cases q : 200 ≤ k
    · rw [if_pos (by rw [li_200, nI_leI (by omega) (by omega)]; exact q)]
    · rw [if_neg (by rw [li_200, nI_leI (by omega) (by omega)]; exact q), x1_0, C_at t (by omega), b2_some, (atc_out (by omega)).1, C_letter', b2_some, if_pos (by decide)]
  | succ d ih =>
    intro k n h h1 h2 t e
    obtain ⟨n, rfl⟩ : ∃ z, n = z + 1 := ⟨n - 1, by omega⟩
    have l := t.1.2.1
    unfold f_X2_scanName_5 ltF
    rw [e, if_neg (by rw [li_200, nI_leI (by omega) (by omega)]; omega), x1_0, C_at t (by omega), b2_some, C_letter', b2_some, atc_lt]
    cases q : inR (byt tape k) 97 122 with
    | true =>
      rw [if_neg (show ¬ bI true = 0 by decide), if_pos rfl, mlet_eq, e, show nI k + 1 = nI (k + 1) by rw [li_1, nI_add]]
      obtain ⟨h', g1, g2, g3, g4⟩ := ih (k + 1) n (mu h 1 2 (nI (k + 1))) (by omega) (by omega) (t.fr (FrC.mu (by omega))) (mu_rde rfl)
      exact ⟨h', g1, g2, fun a ha => by rw [g3 a ha, mu_ne ha], fun x hx => by rw [g4 x hx, mu_rdn hx]⟩
    | false =>
      rw [if_pos (show bI false = 0 from rfl), if_neg (by decide)]
      exact ⟨h, rfl, e, fun _ _ => rfl, fun _ _ => rfl⟩
/-- the number as the class reckons it -/
def cnm (tape : List Int32) (s : Nat) : Nat → Int32
  | 0 => 0
  | n + 1 => cnm tape s n * 10 + byt tape (s + n) - 48
theorem cnm_v {tape : List Int32} {s n : Nat} (h1 : s < n) (h2 : n - s ≤ 2) : cnm tape s (n - s) = fgV tape s n := by
  unfold fgV
  rcases (show n = s + 1 ∨ n = s + 2 by omega) with rfl | rfl
  · rw [if_pos (by omega), show s + 1 - s = 0 + 1 by omega]
    unfold cnm cnm
    rw [Nat.add_zero, Int32.mul_comm]
  · rw [if_neg (by omega), show s + 2 - s = 0 + 1 + 1 by omega]
    unfold cnm cnm cnm
    rw [Nat.add_zero, Int32.mul_comm, Int32.mul_comm (10 : Int32) (10 * 0 + byt tape s - 48), Int32.mul_comm (10 : Int32) 0]
    rw [Int32.mul_comm (10 : Int32) (0 * 10 + byt tape s - 48)]
theorem C_num10 {tape : List Int32} {s : Nat} : ∀ (d k n : Nat) (h : Mem), k + d = tape.length → s ≤ k → d < n → TpC h tape → h 1 2 = nI k → h 1 5 = cnm tape s (k - s) → ∃ h', f_X2_scanNumber_10 n 1 h = f_X2_scanNumber_76 1 h' ∧ h' 1 2 = nI (fgF tape d k) ∧ h' 1 5 = cnm tape s (fgF tape d k - s) ∧ (∀ a, a ≠ 1 → h' a = h a) ∧ ∀ x, x ≠ 2 → x ≠ 5 → h' 1 x = h 1 x := by
  intro d
  induction d with
  | zero =>
    intro k n h h1 hs h2 t e e5
    obtain ⟨n, rfl⟩ : ∃ z, n = z + 1 := ⟨n - 1, by omega⟩
    have l := t.1.2.1
    refine ⟨h, ?_, e, e5, fun _ _ => rfl, fun _ _ _ => rfl⟩
    unfold f_X2_scanNumber_10
    rw [e]
    by_cases q : 200 ≤ k
    · rw [if_pos (by rw [li_200, nI_leI (by omega) (by omega)]; exact q)]
    · rw [if_neg (by rw [li_200, nI_leI (by omega) (by omega)]; exact q), x1_0, C_at t (by omega), b2_some, (atc_out (by omega)).1, C_figure, b2_some, if_pos (by decide)]
  | succ d ih =>
    intro k n h h1 hs h2 t e e5
    obtain ⟨n, rfl⟩ : ∃ z, n = z + 1 := ⟨n - 1, by omega⟩
    have l := t.1.2.1
    unfold f_X2_scanNumber_10 fgF
    rw [e, if_neg (by rw [li_200, nI_leI (by omega) (by omega)]; omega), x1_0, C_at t (by omega), b2_some, C_figure, b2_some, atc_fg]
    cases q : inR (byt tape k) 48 57 with
    | true =>
      rw [if_neg (show ¬ bI true = 0 by decide), if_pos rfl, e, C_at t (by omega), b2_some, mlet_eq, mlet_eq, atc_in (by omega), e5, mu_rdn (by omega), e, show nI k + 1 = nI (k + 1) by rw [li_1, nI_add]]
      have e6 : cnm tape s (k - s) * 10 + byt tape k - 48 = cnm tape s (k + 1 - s) := by
        rw [show k + 1 - s = (k - s) + 1 by omega]
        show _ = cnm tape s (k - s) * 10 + byt tape (s + (k - s)) - 48
        rw [show s + (k - s) = k by omega]
      rw [e6]
      obtain ⟨h', g1, g2, g3, g4, g5'⟩ := ih (k + 1) n (mu (mu h 1 5 (cnm tape s (k + 1 - s))) 1 2 (nI (k + 1))) (by omega) (by omega) (by omega) (t.fr ((FrC.mu (by omega)).tr (FrC.mu (by omega)))) (mu_rde rfl) (by rw [mu_rdn (by omega), mu_rde rfl])
      exact ⟨h', g1, g2, g3, fun a ha => by rw [g4 a ha, mu_ne ha, mu_ne ha], fun x h2 h5 => by rw [g5' x h2 h5, mu_rdn h2, mu_rdn h5]⟩
    | false =>
      rw [if_pos (show bI false = 0 from rfl), if_neg (by decide)]
      exact ⟨h, rfl, e, e5, fun _ _ => rfl, fun _ _ _ => rfl⟩
theorem C_fail {h : Mem} {tape : List Int32} {p : PS} (R : RPc h tape p) (f : Int32) (hf : 0 < f) : Tr (f_X2_fail 1 f h) (fun _ h' => RPc h' tape (match p with | .inl e => .inl e | .inr t => .inl (f, t.1)) ∧ FrC h h') := by
  unfold f_X2_fail
  match p, R with
  | .inl (g, pl), R =>
    have n0 : ¬ h 1 6 = 0 := by
      rw [R.1]
      intro z
      have := R.2.1
      rw [z] at this
      exact absurd this (by decide)
    rw [if_neg n0]
    exact wR ⟨R, FrC.rf⟩
  | .inr (s, n, k, v), R =>
    rw [if_pos R.1, mlet_eq, mlet_eq, mu_rdn (by omega), R.2.2.1]
    refine wR ⟨⟨?_, hf, mu_rde rfl⟩, (FrC.mu (by omega)).tr (FrC.mu (by omega))⟩
    rw [mu_rdn (by omega), mu_rde rfl]
