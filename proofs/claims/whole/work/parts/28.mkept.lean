def kPt (rows : List (List Int32)) (s : Nat → Int32) : Nat → Bool := fun i => sm4 (g5 (gr rows i)) 0 s
def ktIx (rows : List (List Int32)) (s : Nat → Int32) : Int32 := sIx (-4) (kPt rows s) rows.length 0
theorem M_keptOf_2 {P a : Nat} {rows : List (List Int32)} {h : Mem} (hP : xln P = 6074) (ha : 4 ≤ xln a) (R : GTb (h P) 6 8 7 12 rows) : ∀ (d k n : Nat), k + d = rows.length → d < n →
    f_X8_keptOf_2 n P a (nI k) h = some (sIx (-4) (kPt rows (h a)) d k, h) := by
  obtain ⟨q1, q2, q3⟩ := R
  intro d
  induction d with
  | zero =>
    intro k n h1 h2
    obtain ⟨n, rfl⟩ : ∃ z, n = z + 1 := ⟨n - 1, by omega⟩
    unfold f_X8_keptOf_2 sIx
    simp (disch := omega) only [li_6, ald_nI, q1, nI_leI, if_pos]
  | succ d ih =>
    intro k n h1 h2
    obtain ⟨n, rfl⟩ : ∃ z, n = z + 1 := ⟨n - 1, by omega⟩
    have e4 : sm4 (h P) (8 + 7 * k) (h a) = sm4 (g5 (gr rows k)) 0 (h a) := by
      unfold sm4
      have r0 := q3 k 0 (by omega) (by omega)
      have r1 := q3 k 1 (by omega) (by omega)
      have r2 := q3 k 2 (by omega) (by omega)
      have r3 := q3 k 3 (by omega) (by omega)
      simp only [Nat.add_zero, Nat.zero_add] at r0 r1 r2 r3 ⊢
      rw [r0, r1, r2, r3]
    unfold f_X8_keptOf_2 sIx
    simp (disch := omega) only [li_6, li_8, li_7, li_1, ald_nI, q1, nI_leI, if_neg, nI_mul, nI_add, M_isSame, b2_some, e4, bI_0]
    unfold kPt
    cases e : sm4 (g5 (gr rows k)) 0 (h a)
    · rw [if_pos rfl, if_neg (by decide)]
      exact ih (k + 1) n (by omega) (by omega)
    · rw [if_neg (by decide), if_pos rfl]
theorem M_keptOf {P a : Nat} {rows : List (List Int32)} {h : Mem} (hP : xln P = 6074) (ha : 4 ≤ xln a) (R : GTb (h P) 6 8 7 12 rows) : f_X8_keptOf P a h = some (ktIx rows (h a), h) := by
  have q2 := R.2.1
  exact M_keptOf_2 hP ha R _ 0 xFU (by omega) (by unfold xFU; omega)
theorem lt7 {P : Nat → Prop} (h0 : P 0) (h1 : P 1) (h2 : P 2) (h3 : P 3) (h4 : P 4) (h5 : P 5) (h6 : P 6) : ∀ j, j < 7 → P j := by
  intro j hj
  rcases (show j = 0 ∨ j = 1 ∨ j = 2 ∨ j = 3 ∨ j = 4 ∨ j = 5 ∨ j = 6 by omega) with rfl | rfl | rfl | rfl | rfl | rfl | rfl <;> assumption
theorem M_keptComes {P a : Nat} {rows : List (List Int32)} {h : Mem} (hP : xln P = 6074) (ha : 4 ≤ xln a) (hPa : a ≠ P) (R : GTb (h P) 6 8 7 12 rows) (hl : rows.length < 12) (v p l : Int32) : Tr (f_X8_keptComes P a v p l h) (fun _ h' => (∀ b, b ≠ P → h' b = h b) ∧ GTb (h' P) 6 8 7 12 (rows ++ [[h a 0, h a 1, h a 2, h a 3, v, p, l]]) ∧ ∀ x, x ≠ 6 → (x < 8 ∨ 92 ≤ x) → h' P x = h P x) := by
  obtain ⟨q1, q2, q3⟩ := id R
  generalize hn : rows.length = n at q1 hl
  unfold f_X8_keptComes
  obtain ⟨z, hz⟩ := xFUs
  rw [hz]
  simp (disch := omega) only [li_6, li_8, li_7, li_0, ald_nI, q1, nI_mul, nI_add]
  unfold f_X8_keptComes_15
  simp (disch := omega) only [li_4, li_1, nI_leI, if_neg, nI_add, ald_nI, ast_nI]
  unfold f_X8_keptComes_15
  simp (disch := omega) only [li_4, li_1, nI_leI, if_neg, nI_add, ald_nI, ast_nI, mu_rdk, Nat.zero_add]
  unfold f_X8_keptComes_15
  simp (disch := omega) only [li_4, li_1, nI_leI, if_neg, nI_add, ald_nI, ast_nI, mu_rdk, Nat.reduceAdd]
  unfold f_X8_keptComes_15
  simp (disch := omega) only [li_4, li_1, nI_leI, if_neg, nI_add, ald_nI, ast_nI, mu_rdk, Nat.reduceAdd]
  unfold f_X8_keptComes_15
  simp (disch := omega) only [li_4, li_1, li_5, li_6, nI_leI, if_pos, nI_add, ald_nI, ast_nI, mu_rdk, Nat.reduceAdd, mu_rdn, q1]
  refine wR ⟨?_, R.app (by omega) ?_ ?_ ?_, ?_⟩
  · intro b hb
    simp (disch := omega) only [mu_ne]
  · rw [mu_rde rfl, hn]
  · rw [hn]
    exact lt7 (by simp (disch := omega) only [mu_rde, mu_rdn]; rfl) (by simp (disch := omega) only [mu_rde, mu_rdn]; rfl) (by simp (disch := omega) only [mu_rde, mu_rdn]; rfl) (by simp (disch := omega) only [mu_rde, mu_rdn]; rfl) (by simp (disch := omega) only [mu_rde, mu_rdn]; rfl) (by simp (disch := omega) only [mu_rde, mu_rdn]; rfl) (by simp (disch := omega) only [mu_rde, mu_rdn]; rfl)
  · rw [hn]
    intro k h1 h2
    simp (disch := omega) only [mu_rdn]
  · intro x h1 h2
    simp (disch := omega) only [mu_rdn]
theorem M_keptGoes_8 {m : Nat} (hm : m ≤ 11) : ∀ (d k n : Nat) (h : Mem), k + d = 7 * m → d < n → h 391 6 = nI (m + 1) →
    f_X8_keptGoes_8 n 390 (nI (8 + k)) h = some ((), mu (shf h (8 + k) (8 + 7 * m) 7) 391 6 (nI m)) := by
  intro d
  induction d with
  | zero =>
    intro k n h h1 h2 h3
    obtain ⟨n, rfl⟩ : ∃ z, n = z + 1 := ⟨n - 1, by omega⟩
    unfold f_X8_keptGoes_8
    simp (disch := omega) only [xr_0, li_6, li_8, li_7, li_1, al_391, as_391, h3, nI_subP, nI_mul, nI_add, nI_leI, if_pos, Nat.add_sub_cancel]
    rw [shf_done (by omega)]
  | succ d ih =>
    intro k n h h1 h2 h3
    obtain ⟨n, rfl⟩ : ∃ z, n = z + 1 := ⟨n - 1, by omega⟩
    unfold f_X8_keptGoes_8
    simp (disch := omega) only [xr_0, li_6, li_8, li_7, li_1, al_391, as_391, h3, nI_subP, nI_mul, nI_add, nI_leI, if_neg, Nat.add_sub_cancel]
    rw [show 8 + k + 1 = 8 + (k + 1) by omega, ih (k + 1) n _ (by omega) (by omega) (by rw [mu_rdn (by omega)]; exact h3)]
    rw [show 8 + (k + 1) = 8 + k + 1 by omega, shf_step (by omega) (by omega)]
/-- the i-th kept one goes -/
theorem M_keptGoes {i : Nat} {rows : List (List Int32)} {h : Mem} (R : GTb (h 391) 6 8 7 12 rows) (hi : i < rows.length) : Tr (f_X8_keptGoes 390 (nI i) h) (fun _ h' => (∀ b, b ≠ 391 → h' b = h b) ∧ GTb (h' 391) 6 8 7 12 (rows.eraseIdx i) ∧ ∀ x, x ≠ 6 → (x < 8 ∨ 92 ≤ x) → h' 391 x = h 391 x) := by
  obtain ⟨q1, q2, q3⟩ := id R
  unfold f_X8_keptGoes
  simp (disch := omega) only [li_8, li_7, nI_mul, nI_add]
  rw [M_keptGoes_8 (m := rows.length - 1) (by omega) (7 * (rows.length - 1) - 7 * i) (7 * i) xFU h (by omega) (by unfold xFU; omega) (by rw [q1, Nat.sub_add_cancel (by omega)])]
  refine wR ⟨?_, R.erase hi ?_ ?_ ?_, ?_⟩
  · intro b hb
    rw [mu_ne hb, shf_k hb]
  · rw [mu_rde rfl]
  · intro k h1 h2
    rw [mu_rdn (by omega), shf_rdi (by omega)]
  · intro k h1 h2
    rw [mu_rdn (by omega), shf_rdo (by omega)]
  · intro x h1 h2
    rw [mu_rdn h1, shf_rdo (by omega)]
def A_kput (rows : List (List Int32)) (r : List Int32) : List (List Int32) := (if rows.length = 12 then rows.eraseIdx 0 else rows) ++ [r]
def A_kdel (rows : List (List Int32)) (s : Nat → Int32) : List (List Int32) := if ktIx rows s = -4 then rows else rows.eraseIdx (ktIx rows s).toNatClampNeg
def A_keeps (rows : List (List Int32)) (s : Nat → Int32) (v p l : Int32) : List (List Int32) := if v ≤ 0 then A_kdel rows s else A_kput (A_kdel rows s) [s 0, s 1, s 2, s 3, v, p, l]
theorem M_keeps_44 {a : Nat} {rows : List (List Int32)} {h : Mem} (ha : 4 ≤ xln a) (hPa : a ≠ 391) (R : GTb (h 391) 6 8 7 12 rows) (hl : rows.length < 12) (v p l : Int32) : Tr (f_X8_keeps_44 390 a v p l h) (fun _ h' => (∀ b, b ≠ 391 → h' b = h b) ∧ GTb (h' 391) 6 8 7 12 (rows ++ [[h a 0, h a 1, h a 2, h a 3, v, p, l]]) ∧ ∀ x, x ≠ 6 → (x < 8 ∨ 92 ≤ x) → h' 391 x = h 391 x) := by
  unfold f_X8_keeps_44
  rw [xr_0]
  exact wB (M_keptComes xl_391 ha hPa R hl v p l) (fun _ h1 P => wR P)
theorem M_keeps_23 {a : Nat} {rows : List (List Int32)} {h : Mem} (ha : 4 ≤ xln a) (hPa : a ≠ 391) (R : GTb (h 391) 6 8 7 12 rows) (v p l : Int32) : Tr (f_X8_keeps_23 390 a v p l h) (fun _ h' => (∀ b, b ≠ 391 → h' b = h b) ∧ GTb (h' 391) 6 8 7 12 (if v ≤ 0 then rows else A_kput rows [h a 0, h a 1, h a 2, h a 3, v, p, l]) ∧ ∀ x, x ≠ 6 → (x < 8 ∨ 92 ≤ x) → h' 391 x = h 391 x) := by
  obtain ⟨q1, q2, q3⟩ := id R
  unfold f_X8_keeps_23
  refine wIf (fun e => ?_) (fun e => ?_)
  · rw [if_pos e]
    exact wR ⟨fun _ _ => rfl, R, fun _ _ _ => rfl⟩
  · rw [if_neg e]
    simp (disch := omega) only [xr_0, li_6, li_12, al_391, q1, nI_eq]
    unfold A_kput
    refine wIf (fun e2 => ?_) (fun e2 => ?_)
    · rw [if_pos e2, li_0]
      refine wB (M_keptGoes R (i := 0) (by omega)) (fun _ h1 P1 => ?_)
      obtain ⟨p1, p2, p3⟩ := P1
      refine wM (M_keeps_44 ha hPa p2 (by simp [List.length_eraseIdx]; omega) v p l) (fun _ h2 P2 => ?_)
      obtain ⟨r1, r2, r3⟩ := P2
      rw [p1 a hPa] at r2
      exact ⟨fun b hb => (r1 b hb).trans (p1 b hb), r2, fun x g1 g2 => (r3 x g1 g2).trans (p3 x g1 g2)⟩
    · rw [if_neg e2]
      exact M_keeps_44 ha hPa R (by omega) v p l
theorem M_keeps {a : Nat} {rows : List (List Int32)} {h : Mem} (ha : 4 ≤ xln a) (hPa : a ≠ 391) (R : GTb (h 391) 6 8 7 12 rows) (v p l : Int32) : Tr (f_X8_keeps 390 a v p l h) (fun _ h' => (∀ b, b ≠ 391 → h' b = h b) ∧ GTb (h' 391) 6 8 7 12 (A_keeps rows (h a) v p l) ∧ ∀ x, x ≠ 6 → (x < 8 ∨ 92 ≤ x) → h' 391 x = h 391 x) := by
  have q2 := R.2.1
  unfold f_X8_keeps A_keeps A_kdel
  rw [xr_0, M_keptOf xl_391 ha R, b2_some]
  refine wIf (fun e => ?_) (fun e => ?_)
  · rw [if_pos e]
    exact M_keeps_23 ha hPa R v p l
  · rw [if_neg e]
    unfold ktIx at e ⊢
    rcases sIx_spec (-4) (kPt rows (h a)) rows.length 0 with ⟨e2, -⟩ | ⟨j, h1, h2, h3, h4, h5⟩
    · exact absurd e2 e
    · rw [h3, nI_clamp (by omega)]
      refine wB (M_keptGoes R (i := j) (by omega)) (fun _ h1 P1 => ?_)
      obtain ⟨p1, p2, p3⟩ := P1
      refine wM (M_keeps_23 ha hPa p2 v p l) (fun _ h2 P2 => ?_)
      obtain ⟨r1, r2, r3⟩ := P2
      rw [p1 a hPa] at r2
      exact ⟨fun b hb => (r1 b hb).trans (p1 b hb), r2, fun x g1 g2 => (r3 x g1 g2).trans (p3 x g1 g2)⟩
