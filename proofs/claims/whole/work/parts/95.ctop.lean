/-! the class: the object itself -/
def imB (k : Nat) : Nat := if k = 0 then 197 else 293
def RowV (row : List Int32) : Prop := row.length ≤ 4 ∧ ∀ x ∈ row, ∃ m, 1 ≤ m ∧ m ≤ 28 ∧ x = nI m
def TpV (tape : List Int32) : Prop := ∀ x ∈ tape, inR x 0 127 = true
def SVc (B : Nat) (st : St) : Prop := SV B st ∧ ∃ n, n ≤ B ∧ st.1 0 = nI n
/-- what the whole state keeps to -/
def TV (B : Nat) (T : Top) : Prop := SVc B T.1 ∧ RowV T.2.1 ∧ TpV T.2.2.1 ∧ ∀ k s, T.2.2.2.2 k = some s → SVc B s
def DrV (dr : St) : Prop := ∀ c, c < 6 → ¬ (dr.2.2 c).1 12 = 1
def RCo (h : Mem) (T : Top) : Prop := RWd h 100 T.1 ∧ h 0 5 = pth (lvO (g5 T.2.1)) ∧ (h 2 1 = nI T.2.2.1.length ∧ T.2.2.1.length ≤ 200 ∧ ∀ j, j < T.2.2.1.length → h 3 j = g5 T.2.2.1 j) ∧ h 0 6 = T.2.2.2.1 ∧ (∀ k, k < 2 → h 389 k = bI (T.2.2.2.2 k).isSome ∧ ∃ s, RWd h (imB k) s ∧ ∀ s', T.2.2.2.2 k = some s' → s' = s) ∧ ∃ dr, RWd h 4 dr ∧ DrV dr
def CO (f : Mem → Option (Int32 × Mem)) (R : Int32 × Top) (B : Nat) (T : Top) : Prop := ∀ h, RCo h T → Tr (f h) (fun r h' => r = R.1 ∧ RCo h' R.2 ∧ TV (B + 13000) R.2 ∧ ∀ a, 390 ≤ a → h' a = h a)
theorem x0_0 : xrf 0 0 = 2 := by decide +kernel
theorem x0_1 : xrf 0 1 = 1 := by decide +kernel
theorem x0_2 : xrf 0 2 = 100 := by decide +kernel
theorem x0_3 : xrf 0 3 = 196 := by decide +kernel
theorem x0_4 : xrf 0 4 = 389 := by decide +kernel
theorem x2_0 : xrf 2 0 = 3 := by decide +kernel
theorem x1_0 : xrf 1 0 = 2 := by decide +kernel
theorem x1_1 : xrf 1 1 = 4 := by decide +kernel
theorem x196_0 : xrf 196 0 = 197 := by decide +kernel
theorem x196_1 : xrf 196 1 = 293 := by decide +kernel
theorem l3 : xln 3 = 200 := by decide +kernel
theorem l196 : xln 196 = 2 := by decide +kernel
theorem l389 : xln 389 = 2 := by decide +kernel
theorem W4 : WK 4 := WK_of (Or.inl rfl)
theorem W100 : WK 100 := WK_of (Or.inr (Or.inl rfl))
theorem W_im {k : Nat} : WK (imB k) := by
  unfold imB
  split
  · exact WK_of (Or.inr (Or.inr (Or.inl rfl)))
  · exact WK_of (Or.inr (Or.inr (Or.inr rfl)))
theorem im_lo (k : Nat) : 197 ≤ imB k ∧ imB k + 96 ≤ 389 := by
  unfold imB
  split <;> omega
theorem TV.mono {B C : Nat} {T : Top} (h : TV B T) (e : B ≤ C) : TV C T := by
  obtain ⟨⟨a, n, hn, en⟩, b, c, d⟩ := h
  refine ⟨⟨a.mono e, n, by omega, en⟩, b, c, fun k s hs => ?_⟩
  obtain ⟨x, m, hm, em⟩ := d k s hs
  exact ⟨x.mono e, m, by omega, em⟩
theorem CO.same {f : Mem → Option (Int32 × Mem)} {x : Int32} {B : Nat} {T : Top} (V : TV B T) (hf : ∀ h, RCo h T → f h = some (x, h)) : CO f (x, T) B T := fun h R => by
  rw [hf h R]
  exact wR ⟨rfl, R, V.mono (by omega), fun _ _ => rfl⟩
/-- only the world changes -/
theorem RCo.wd {h h' : Mem} {T : Top} {st : St} (R : RCo h T) (P : RWd h' 100 st) (f : FrW 100 h h') : RCo h' (st, T.2) := by
  obtain ⟨r1, r2, ⟨r3, r4, r5⟩, r6, r7, dr, r8, r9⟩ := R
  have e : ∀ a, a < 100 ∨ 196 ≤ a → h' a = h a := fun a ha => f a (by omega)
  refine ⟨P, by rw [e 0 (by omega)]; exact r2, ⟨by rw [e 2 (by omega)]; exact r3, r4, fun j hj => by rw [e 3 (by omega)]; exact r5 j hj⟩, by rw [e 0 (by omega)]; exact r6, fun k hk => ?_, dr, r8.frm (fun a h1 h2 => e a (by omega)), r9⟩
  obtain ⟨q1, s, q2, q3⟩ := r7 k hk
  have il := im_lo k
  exact ⟨by rw [e 389 (by omega)]; exact q1, s, q2.frm (fun a h1 h2 => e a (by omega)), q3⟩
theorem CO.world {f : Mem → Option (Int32 × Mem)} {x : Int32} {B : Nat} {T : Top} {st : St} (V : TV B T) (hf : ∀ h, RCo h T → Tr (f h) (fun r h' => r = x ∧ RWd h' 100 st ∧ SVc (B + 13000) st ∧ FrW 100 h h')) : CO f (x, st, T.2) B T := fun h R => by
  refine wM (hf h R) (fun r g P => ⟨P.1, R.wd P.2.1 P.2.2.2, ⟨P.2.2.1, V.2.1, V.2.2.1, (V.mono (C := B + 13000) (by omega)).2.2.2⟩, fun a ha => P.2.2.2 a (by omega)⟩)
theorem bI_f : ¬ bI (!false) = 0 := by decide
theorem bI_t : bI (!true) = 0 := by decide
theorem C_out (x lo hi : Int32) (h : Mem) : f_X7_outside x lo hi h = some (bI (!inR x lo hi), h) := by
  unfold f_X7_outside f_X7_outside_10 inR
  by_cases a : x < lo
  · rw [if_pos a]
    simp [a]
    rfl
  · rw [if_neg a]
    by_cases b : x ≤ hi
    · have : ¬ hi < x := Int32.not_lt.mpr b
      rw [if_pos b]
      simp [a, this]
      rfl
    · have : hi < x := Int32.not_le.mp b
      rw [if_neg b]
      simp [this]
      rfl
theorem C_noC (x : Int32) (h : Mem) : f_X7_noClient x h = some (bI (!inR x 0 5), h) := by
  unfold f_X7_noClient
  rw [C_out, b2_some, zg_b]
theorem C_bad (v p k : Int32) (h : Mem) : f_X7_badLetter v p k h = some (bI (!(inR v 0 99 && (inR p 0 2 && inR k 0 1))), h) := by
  unfold f_X7_badLetter f_X7_badLetter_28
  rw [C_out, b2_some, C_out, b2_some, C_out, b2_some]
  cases inR v 0 99 <;> cases inR p 0 2 <;> cases inR k 0 1 <;> rfl
theorem C_awake {h : Mem} {T : Top} {c : Nat} (hc : c < 6) (R : RCo h T) : f_X7_isAwake 0 (nI c) h = some (if (T.1.2.2 c).1 0 = 1 then 1 else 0, h) := by
  have e : inR (nI c) 0 5 = true := by
    rw [show (0 : Int32) = nI 0 from rfl, show (5 : Int32) = nI 5 from rfl, inR_nI (by omega) (by omega) (by omega)]
    simp
    omega
  unfold f_X7_isAwake
  rw [C_noC, b2_some, e, if_pos bI_t, x0_2, W100.1.1, wcl W100 hc, (R.1.2.2.2 c hc).1.1]
  split <;> rfl
theorem in5 {c : Int32} (h : inR c 0 5 = true) : ∃ n, n < 6 ∧ c = nI n := by
  obtain ⟨n, hn, e⟩ := inR_ex (b := 5) (by omega) h
  exact ⟨n, by omega, e⟩
/-! the row -/
theorem RowV.g {row : List Int32} (V : RowV row) {j : Nat} (hj : j < row.length) : ∃ m, 1 ≤ m ∧ m ≤ 28 ∧ g5 row j = nI m := by
  have e : g5 row j = row[j] := by simp [g5, List.getD, hj]
  rw [e]
  exact V.2 _ (List.getElem_mem hj)
theorem g5_out {row : List Int32} {j : Nat} (hj : row.length ≤ j) : g5 row j = 0 := by
  simp [g5, List.getD, hj]
theorem RowV.ln {row : List Int32} (V : RowV row) : Ln (lvO (g5 row)) row.length ∧ (∀ j, lvO (g5 row) j ≤ 28) ∧ ∀ j, j < 4 → g5 row j = nI (lvO (g5 row) j) := by
  have key : ∀ j, j < row.length → lvO (g5 row) j = (g5 row j).toNatClampNeg := fun j hj => by
    have := V.1
    unfold lvO
    rw [if_pos (by omega)]
  have out : ∀ j, row.length ≤ j → lvO (g5 row) j = 0 := fun j hj => by
    unfold lvO
    split
    · rw [g5_out hj]
      rfl
    · rfl
  refine ⟨⟨V.1, fun j hj => ?_, out⟩, fun j => ?_, fun j hj => ?_⟩
  · obtain ⟨m, h1, h2, e⟩ := V.g hj
    rw [key j hj, e, nI_clamp (by omega)]
    omega
  · rcases Nat.lt_or_ge j row.length with q | q
    · obtain ⟨m, h1, h2, e⟩ := V.g q
      rw [key j q, e, nI_clamp (by omega)]
      exact h2
    · rw [out j q]
      omega
  · rcases Nat.lt_or_ge j row.length with q | q
    · obtain ⟨m, h1, h2, e⟩ := V.g q
      rw [key j q, e, nI_clamp (by omega)]
    · rw [out j q, g5_out q]
      rfl
theorem RowV.pv {row : List Int32} (V : RowV row) : PV 28 (g5 row) := ⟨⟨_, V.ln.1⟩, V.ln.2.1, V.ln.2.2⟩
def tp4 (f : Nat → Int32) : Nat → Nat → Bool
  | 0, _ => true
  | d + 1, k => !(decide (26 < f k)) && tp4 f d (k + 1)
theorem tp4_iff {f : Nat → Int32} : ∀ (d k : Nat), tp4 f d k = true ↔ ∀ j, k ≤ j → j < k + d → ¬ 26 < f j
  | 0, k => ⟨fun _ j h1 h2 => by omega, fun _ => rfl⟩
  | d + 1, k => by
    unfold tp4
    rw [Bool.and_eq_true, tp4_iff d (k + 1)]
    constructor
    · intro ⟨a, b⟩ j h1 h2
      by_cases e : j = k
      · rw [e]
        simpa using a
      · exact b j (by omega) (by omega)
    · intro q
      exact ⟨by simpa using q k (by omega) (by omega), fun j h1 h2 => q j (by omega) (by omega)⟩
theorem tpF_iff {row : List Int32} : ∀ (d k : Nat), tpF row d k = true ↔ ∀ j, k ≤ j → j < k + d → ¬ 26 < g5 row j
  | 0, k => ⟨fun _ j h1 h2 => by omega, fun _ => rfl⟩
  | d + 1, k => by
    unfold tpF
    rw [Bool.and_eq_true, tpF_iff d (k + 1)]
    constructor
    · intro ⟨a, b⟩ j h1 h2
      by_cases e : j = k
      · rw [e]
        simpa using a
      · exact b j (by omega) (by omega)
    · intro q
      exact ⟨by simpa using q k (by omega) (by omega), fun j h1 h2 => q j (by omega) (by omega)⟩
def tpB (f : Nat → Int32) : Bool := tp4 f 4 0 && !(f 0 == 0)
theorem isTp_B {row : List Int32} (V : RowV row) : isTp row = tpB (g5 row) := by
  unfold isTp tpB
  rw [Bool.eq_iff_iff, Bool.and_eq_true, Bool.and_eq_true, tpF_iff, tp4_iff]
  have l4 := V.1
  constructor
  · intro ⟨a, b⟩
    have a' : 0 < row.length := by simpa using a
    refine ⟨fun j h1 h2 => ?_, ?_⟩
    · rcases Nat.lt_or_ge j row.length with q | q
      · exact b j h1 (by omega)
      · rw [g5_out q]
        decide
    · obtain ⟨m, h1, h2, e⟩ := V.g a'
      rw [e]
      have : ¬ nI m = 0 := fun z => by
        have z' : nI m = nI 0 := z
        have := (nI_eq (by omega) (by omega)).mp z'
        omega
      simpa using this
  · intro ⟨a, b⟩
    refine ⟨?_, fun j h1 h2 => a j h1 (by omega)⟩
    rcases Nat.eq_zero_or_pos row.length with q | q
    · rw [g5_out (by omega)] at b
      exact absurd b (by decide)
    · simpa using q
theorem C_top2 {f : Nat → Int32} {h : Mem} (P : PV 28 f) : ∀ (d k n : Nat), k + d = 4 → d < n → f_X1_isTopic_2 n (pth (lvO f)) (nI k) h = some (bI (tp4 f d k && !(f 0 == 0)), h) := by
  intro d
  induction d with
  | zero =>
    intro k n h1 h2
    obtain ⟨n, rfl⟩ : ∃ z, n = z + 1 := ⟨n - 1, by omega⟩
    have z := (P.z0 (by omega)).1
    unfold f_X1_isTopic_2
    rw [if_pos (by rw [li_4, nI_leI (by omega) (by omega)]; omega)]
    by_cases q : f 0 = 0
    · rw [if_pos (z.mpr q), q]
      rfl
    · rw [if_neg (fun y => q (z.mp y))]
      have : (f 0 == 0) = false := by rw [beq_eq_false_iff_ne]; exact q
      rw [this]
      rfl
  | succ d ih =>
    intro k n h1 h2
    obtain ⟨n, rfl⟩ : ∃ z, n = z + 1 := ⟨n - 1, by omega⟩
    have z := ih (k + 1) n (by omega) (by omega)
    have m := P.2.1 k
    have e := P.2.2 k (by omega)
    unfold f_X1_isTopic_2 tp4
    rw [if_neg (by rw [li_4, nI_leI (by omega) (by omega)]; omega), C_levelAt (P.l5 (by omega)) (by omega), b2_some, ← e, show nI k + 1 = nI (k + 1) by rw [li_1, nI_add]]
    by_cases q : f k ≤ 26
    · have : ¬ 26 < f k := Int32.not_lt.mpr q
      rw [if_pos q, z]
      simp [this]
    · have : 26 < f k := Int32.not_le.mp q
      rw [if_neg q]
      simp [this]
      rfl
theorem C_isTopic {f : Nat → Int32} {h : Mem} (P : PV 28 f) : f_X1_isTopic (pth (lvO f)) h = some (bI (tpB f), h) := C_top2 P 4 0 xFU (by omega) (by unfold xFU; omega)
theorem PV.tp {f : Nat → Int32} (P : PV 28 f) (h : tpB f = true) : PV 26 f ∧ ¬ f 0 = 0 := by
  unfold tpB at h
  rw [Bool.and_eq_true, tp4_iff] at h
  refine ⟨⟨P.1, fun j => ?_, P.2.2⟩, by simpa using h.2⟩
  rcases Nat.lt_or_ge j 4 with q | q
  · have z := h.1 j (by omega) (by omega)
    have m := P.2.1 j
    rw [P.2.2 j q, li_26, nI_ltI (by omega) (by omega)] at z
    omega
  · have : lvO f j = 0 := by
      unfold lvO
      rw [if_neg (by omega)]
    omega
theorem PV.tpc {f : Nat → Int32} (P : PV 26 f) : tpB f = !(f 0 == 0) := by
  unfold tpB
  have : tp4 f 4 0 = true := by
    rw [tp4_iff]
    intro j h1 h2
    have m := P.2.1 j
    rw [P.2.2 j (by omega), li_26, nI_ltI (by omega) (by omega)]
    omega
  rw [this, Bool.true_and]
