/-! the reader: tokens -/
theorem lo_97 : (97 : Int64) = (97 : Int32).toInt64 := by decide +kernel
theorem lo_122 : (122 : Int64) = (122 : Int32).toInt64 := by decide +kernel
theorem lo_48 : (48 : Int64) = (48 : Int32).toInt64 := by decide +kernel
theorem lo_57 : (57 : Int64) = (57 : Int32).toInt64 := by decide +kernel
def byt (tape : List Int32) (k : Nat) : Int32 := if tape.length ≤ k then -4 else g5 tape k
/-- start, next, kind (0 the end, 1 a name, 2 a number, a sign's byte), value -/
abbrev Tok : Type := Nat × Nat × Int32 × Int32
abbrev PS : Type := (Int32 × Nat) ⊕ Tok
def spF (tape : List Int32) : Nat → Nat → Nat
  | 0, k => k
  | d + 1, k => if byt tape k = 32 then spF tape d (k + 1) else k
def ltF (tape : List Int32) : Nat → Nat → Nat
  | 0, k => k
  | d + 1, k => if inR (byt tape k) 97 122 = true then ltF tape d (k + 1) else k
def fgF (tape : List Int32) : Nat → Nat → Nat
  | 0, k => k
  | d + 1, k => if inR (byt tape k) 48 57 = true then fgF tape d (k + 1) else k
def fgV (tape : List Int32) (s n : Nat) : Int32 := if n ≤ s + 1 then 10 * 0 + byt tape s - 48 else 10 * (10 * 0 + byt tape s - 48) + byt tape (s + 1) - 48
def tk1 (tape : List Int32) (s : Nat) : PS :=
  if byt tape s = -4 then .inr (s, s, 0, 0)
  else if inR (byt tape s) 97 122 = true then .inr (s, ltF tape (tape.length - s) s, 1, byt tape s)
  else if inR (byt tape s) 48 57 = true then (if 2 < fgF tape (tape.length - s) s - s then .inl (1, s) else .inr (s, fgF tape (tape.length - s) s, 2, fgV tape s (fgF tape (tape.length - s) s)))
  else if byt tape s = 47 ∨ byt tape s = 43 ∨ byt tape s = 35 ∨ byt tape s = 59 then .inr (s, s + 1, byt tape s, byt tape s)
  else .inl (1, s)
def tkA (tape : List Int32) (k : Nat) : PS := tk1 tape (spF tape (tape.length - k) k)
def tkk (k : Int32) : Int32 := if k = 0 then 0 else if k = 1 then 1 else if k = 2 then 2 else 3
/-- the tape as the reference has it -/
def TpM (h : Mem) (tape : List Int32) : Prop := h 390 7 = nI tape.length ∧ tape.length ≤ 200 ∧ ∀ j, j < tape.length → h 396 j = g5 tape j
def RPm (h : Mem) (tape : List Int32) : PS → Prop
  | .inl (f, pl) => h 390 8 = f ∧ 0 < f ∧ h 390 9 = nI pl ∧ pl ≤ 200
  | .inr (s, n, k, v) => h 390 8 = 0 ∧ h 390 10 = nI n ∧ h 390 11 = nI s ∧ s ≤ n ∧ n ≤ tape.length ∧ h 390 12 = tkk k ∧ (¬ k = 0 → h 390 13 = v)
/-- only the reader's own ints are touched -/
def Fr (h h' : Mem) : Prop := (∀ a, a ≠ 390 → h' a = h a) ∧ ∀ x, x < 8 ∨ 13 < x → h' 390 x = h 390 x
theorem Fr.rf {h : Mem} : Fr h h := ⟨fun _ _ => rfl, fun _ _ => rfl⟩
theorem Fr.tr {h h1 h2 : Mem} (a : Fr h h1) (b : Fr h1 h2) : Fr h h2 := ⟨fun z hz => (b.1 z hz).trans (a.1 z hz), fun x hx => (b.2 x hx).trans (a.2 x hx)⟩
theorem Fr.mu {h : Mem} {x : Nat} {v : Int32} (h1 : 8 ≤ x) (h2 : x ≤ 13) : Fr h (mu h 390 x v) := ⟨fun a ha => mu_ne ha, fun y hy => mu_rdn (by omega)⟩
theorem TpM.fr {h h' : Mem} {tape : List Int32} (t : TpM h tape) (f : Fr h h') : TpM h' tape := by
  refine ⟨by rw [f.2 7 (by omega)]; exact t.1, t.2.1, fun j hj => by rw [f.1 396 (by omega)]; exact t.2.2 j hj⟩
theorem M_byteAt {h : Mem} {tape : List Int32} {k : Nat} (t : TpM h tape) (hk : k < 2 ^ 31) : f_X8_byteAt 390 (nI k) h = some (byt tape k, h) := by
  obtain ⟨q1, q2, q3⟩ := t
  unfold f_X8_byteAt byt
  rw [q1]
  by_cases e : tape.length ≤ k
  · rw [if_pos (by rw [nI_leI (by omega) hk]; exact e), if_pos e]
  · rw [if_neg (by rw [nI_leI (by omega) hk]; exact e), if_neg e, xr_6, al_396 (by omega), q3 k (by omega)]
theorem byt_end {tape : List Int32} {k : Nat} (h : tape.length ≤ k) : byt tape k = -4 := if_pos h
theorem spF_le (tape : List Int32) : ∀ d k, k ≤ spF tape d k ∧ spF tape d k ≤ k + d
  | 0, k => ⟨Nat.le_refl _, Nat.le_refl _⟩
  | d + 1, k => by
    unfold spF
    have := spF_le tape d (k + 1)
    split <;> omega
theorem ltF_le (tape : List Int32) : ∀ d k, k ≤ ltF tape d k ∧ ltF tape d k ≤ k + d
  | 0, k => ⟨Nat.le_refl _, Nat.le_refl _⟩
  | d + 1, k => by
    unfold ltF
    have := ltF_le tape d (k + 1)
    split <;> omega
theorem fgF_le (tape : List Int32) : ∀ d k, k ≤ fgF tape d k ∧ fgF tape d k ≤ k + d
  | 0, k => ⟨Nat.le_refl _, Nat.le_refl _⟩
  | d + 1, k => by
    unfold fgF
    have := fgF_le tape d (k + 1)
    split <;> omega
theorem M_rd89 {tape : List Int32} : ∀ (d k n : Nat) (h : Mem), k + d = tape.length → d < n → TpM h tape → h 390 10 = nI k → ∃ h', f_X8_reads_89 n 390 h = some ((), h') ∧ (∀ a, a ≠ 390 → h' a = h a) ∧ (∀ x, x ≠ 10 → h' 390 x = h 390 x) ∧ h' 390 10 = nI (ltF tape d k) := by
  intro d
  induction d with
  | zero =>
    intro k n h h1 h2 t hk
    obtain ⟨n, rfl⟩ : ∃ z, n = z + 1 := ⟨n - 1, by omega⟩
    refine ⟨h, ?_, fun _ _ => rfl, fun _ _ => rfl, hk⟩
    have t2 := t.2.1
    unfold f_X8_reads_89
    rw [hk, M_byteAt t (by omega), b2_some, byt_end (by omega), lo_97, lo_122, M_in, b2_some]
    simp only [bI_0]
    rw [if_pos (by decide)]
  | succ d ih =>
    intro k n h h1 h2 t hk
    obtain ⟨n, rfl⟩ : ∃ z, n = z + 1 := ⟨n - 1, by omega⟩
    have t2 := t.2.1
    unfold f_X8_reads_89 ltF
    rw [hk, M_byteAt t (by omega), b2_some, lo_97, lo_122, M_in, b2_some]
    simp only [bI_0]
    cases e : inR (byt tape k) 97 122
    · exact ⟨h, by rw [if_pos rfl], fun _ _ => rfl, fun _ _ => rfl, by rw [if_neg (by decide)]; exact hk⟩
    · rw [if_neg (by decide), if_pos rfl, mlet_eq, hk, li_1, nI_add]
      obtain ⟨h', p1, p2, p3, p4⟩ := ih (k + 1) n (mu h 390 10 (nI (k + 1))) (by omega) (by omega) (t.fr (Fr.mu (by omega) (by omega))) (by rw [mu_rde rfl])
      exact ⟨h', p1, fun a ha => by rw [p2 a ha, mu_ne ha], fun x hx => by rw [p3 x hx, mu_rdn hx], p4⟩
theorem M_must {h : Mem} {tape : List Int32} {p : PS} (R : RPm h tape p) (ht : tape.length ≤ 200) (x f : Int32) (hf : 0 < f) : Tr (f_X8_must 390 x f h) (fun _ h' => RPm h' tape (if x = 0 then (match p with | .inl e => .inl e | .inr t => .inl (f, t.1)) else p) ∧ Fr h h') := by
  unfold f_X8_must
  by_cases e : x = 0
  · rw [if_pos e, if_pos e]
    match p, R with
    | .inl (g, pl), R =>
      obtain ⟨r1, r2, r3, r4⟩ := R
      have g0 : ¬ h 390 8 = 0 := by
        rw [r1]
        intro z
        rw [z] at r2
        exact absurd r2 (by decide)
      rw [if_neg g0]
      exact wR ⟨⟨r1, r2, r3, r4⟩, Fr.rf⟩
    | .inr (s, n, k, v), R =>
      obtain ⟨r1, r2, r3, r4, r5, r6, r7⟩ := R
      rw [if_pos r1, mlet_eq, mlet_eq]
      refine wR ⟨⟨?_, hf, ?_, by show s ≤ 200; omega⟩, (Fr.mu (by omega) (by omega)).tr (Fr.mu (by omega) (by omega))⟩
      · rw [mu_rdn (by omega), mu_rde rfl]
      · rw [mu_rde rfl, mu_rdn (by omega)]
        exact r3
  · rw [if_neg e, if_neg e]
    exact wR ⟨R, Fr.rf⟩
