/-! the class: a world -/
def kmR (r : List Int32) : List Int32 := [pth (lvR r), g5 r 4, g5 r 5, g5 r 6]
def keyN (k : Nat → Int32) : Nat := (k 0).toNatClampNeg * 1048576 + pN (lvO (fun j => k (1 + j)))
def hmR (r : List Int32) : List Int32 := [nI (keyN (g5 r)), g5 r 5]
def wkB (b : Nat) : Bool := xrf b 0 == b + 1 && xrf b 1 == b + 2 && xrf b 2 == b + 4 && xrf (b + 2) 2 == b + 3 && xln (b + 3) == 48 && xrf (b + 4) 2 == b + 5 && xln (b + 5) == 72 && xln (b + 1) == 6 && xrf (b + 1) 0 == b + 6 && xrf (b + 1) 1 == b + 21 && xrf (b + 1) 2 == b + 36 && xrf (b + 1) 3 == b + 51 && xrf (b + 1) 4 == b + 66 && xrf (b + 1) 5 == b + 81 && xkd (b + 6) == 0 && xkd (b + 21) == 0 && xkd (b + 36) == 0 && xkd (b + 51) == 0 && xkd (b + 66) == 0 && xkd (b + 81) == 0
theorem wkB_all : wkB 4 = true ∧ wkB 100 = true ∧ wkB 197 = true ∧ wkB 293 = true := by decide +kernel
/-- the shape of a world at b -/
def WK (b : Nat) : Prop := (xrf b 0 = b + 1 ∧ xrf b 1 = b + 2 ∧ xrf b 2 = b + 4) ∧ (IsR (b + 2) 12 4 ∧ IsR (b + 4) 36 2) ∧ xln (b + 1) = 6 ∧ (∀ c, c < 6 → xrf (b + 1) c = b + 6 + 15 * c ∧ xkd (b + 6 + 15 * c) = 0 ∧ CK (b + 6 + 15 * c)) ∧ b + 96 < 390
theorem WK_of {b : Nat} (hb : isB b) : WK b := by
  have key : wkB b = true → b + 96 < 390 → WK b := by
    intro h hl
    unfold wkB at h
    simp only [Bool.and_eq_true, beq_iff_eq] at h
    obtain ⟨⟨⟨⟨⟨⟨⟨⟨⟨⟨⟨⟨⟨⟨⟨⟨⟨⟨⟨a1, a2⟩, a3⟩, a4⟩, a5⟩, a6⟩, a7⟩, a8⟩, b0⟩, b1⟩, b2⟩, b3⟩, b4⟩, b5⟩, c0⟩, c1⟩, c2⟩, c3⟩, c4⟩, c5⟩ := h
    refine ⟨⟨a1, a2, a3⟩, ⟨⟨a4, a5, by omega, by omega, by omega, by omega⟩, ⟨a6, a7, by omega, by omega, by omega, by omega⟩⟩, a8, fun c hc => ⟨?_, ?_, CK_of hb hc⟩, hl⟩
    · rcases (show c = 0 ∨ c = 1 ∨ c = 2 ∨ c = 3 ∨ c = 4 ∨ c = 5 by omega) with rfl | rfl | rfl | rfl | rfl | rfl <;> assumption
    · rcases (show c = 0 ∨ c = 1 ∨ c = 2 ∨ c = 3 ∨ c = 4 ∨ c = 5 by omega) with rfl | rfl | rfl | rfl | rfl | rfl <;> assumption
  have z := wkB_all
  rcases hb with rfl | rfl | rfl | rfl
  · exact key z.1 (by omega)
  · exact key z.2.1 (by omega)
  · exact key z.2.2.1 (by omega)
  · exact key z.2.2.2 (by omega)
/-- the world at b holds st -/
def RWd (h : Mem) (b : Nat) (st : St) : Prop := (h b 3 = st.1 0 ∧ h b 4 = st.1 1) ∧ RR h (b + 2) 12 4 ((st.2.1 6).map kmR) ∧ RR h (b + 4) 36 2 ((st.2.1 7).map hmR) ∧ ∀ c, c < 6 → RK h (b + 6 + 15 * c) (st.2.2 c)
def FrW (b : Nat) (h h' : Mem) : Prop := ∀ a, a < b ∨ b + 96 ≤ a → h' a = h a
theorem FrW.rf {b : Nat} {h : Mem} : FrW b h h := fun _ _ => rfl
theorem FrW.tr {b : Nat} {h h1 h2 : Mem} (a : FrW b h h1) (c : FrW b h1 h2) : FrW b h h2 := fun z hz => (c z hz).trans (a z hz)
theorem FrK.w {b c : Nat} {h h' : Mem} (hc : c < 6) (f : FrK (b + 6 + 15 * c) h h') : FrW b h h' := fun a ha => f a (by omega)
theorem RK.frm {h h' : Mem} {K : Nat} {cl : Cl} (R : RK h K cl) (f : ∀ a, K ≤ a → a < K + 15 → h' a = h a) : RK h' K cl := by
  obtain ⟨⟨s0, s1, s2, s3, s4, s5, s6, s7, s8⟩, t1, t2, t3, t4, t5, ⟨kn, t6, t6'⟩, t7, t8⟩ := R
  have eK : h' K = h K := f K (by omega) (by omega)
  refine ⟨by rw [eK]; exact ⟨s0, s1, s2, s3, s4, s5, s6, s7, s8⟩, ?_, ?_, ?_, ?_, ?_, ⟨kn, ?_, t6'⟩, ?_, ?_⟩
  · exact t1.fr (f _ (by omega) (by omega)) (f _ (by omega) (by omega))
  · rw [f (K + 3) (by omega) (by omega)]; exact t2
  · exact t3.fr (f _ (by omega) (by omega)) (f _ (by omega) (by omega))
  · exact t4.fr (f _ (by omega) (by omega)) (f _ (by omega) (by omega))
  · exact t5.fr (f _ (by omega) (by omega)) (f _ (by omega) (by omega))
  · exact t6.fr (f _ (by omega) (by omega)) (f _ (by omega) (by omega))
  · exact t7.fr (f _ (by omega) (by omega)) (f _ (by omega) (by omega))
  · unfold RW
    rw [f (K + 14) (by omega) (by omega)]
    exact t8
theorem RWd.cl {h h' : Mem} {b c : Nat} {st : St} {cl' : Cl} (hc : c < 6) (R : RWd h b st) (P : RK h' (b + 6 + 15 * c) cl') (f : FrK (b + 6 + 15 * c) h h') : RWd h' b (sC st c cl') := by
  obtain ⟨⟨r1, r2⟩, r3, r4, r5⟩ := R
  have e : ∀ a, a < b + 6 → h' a = h a := fun a ha => f a (by omega)
  refine ⟨⟨by rw [e b (by omega)]; exact r1, by rw [e b (by omega)]; exact r2⟩, r3.fr (e _ (by omega)) (e _ (by omega)), r4.fr (e _ (by omega)) (e _ (by omega)), fun d hd => ?_⟩
  by_cases ed : d = c
  · subst ed
    rw [sC_eq]
    exact P
  · rw [sC_ne ed]
    refine (r5 d hd).frm (fun a h1 h2 => f a ?_)
    rcases Nat.lt_or_gt_of_ne ed with q | q
    · omega
    · omega
theorem RWd.k6 {h h' : Mem} {b : Nat} {st : St} {rows : List (List Int32)} (R : RWd h b st) (D : RR h' (b + 2) 12 4 (rows.map kmR)) (f : FrR (b + 2) h h') : RWd h' b (sK st 6 rows) := by
  obtain ⟨⟨r1, r2⟩, r3, r4, r5⟩ := R
  have eb : h' b = h b := f.1 b (by omega) (by omega)
  refine ⟨⟨by rw [eb]; exact r1, by rw [eb]; exact r2⟩, by rw [sK_eq]; exact D, by rw [sK_ne (by omega)]; exact r4.off f (by omega) (by omega) (by omega), fun d hd => (r5 d hd).frm (fun a h1 h2 => f.1 a (by omega) (by omega))⟩
theorem RWd.k7 {h h' : Mem} {b : Nat} {st : St} {rows : List (List Int32)} (R : RWd h b st) (D : RR h' (b + 4) 36 2 (rows.map hmR)) (f : FrR (b + 4) h h') : RWd h' b (sK st 7 rows) := by
  obtain ⟨⟨r1, r2⟩, r3, r4, r5⟩ := R
  have eb : h' b = h b := f.1 b (by omega) (by omega)
  refine ⟨⟨by rw [eb]; exact r1, by rw [eb]; exact r2⟩, by rw [sK_ne (by omega)]; exact r3.off f (by omega) (by omega) (by omega), by rw [sK_eq]; exact D, fun d hd => (r5 d hd).frm (fun a h1 h2 => f.1 a (by omega) (by omega))⟩
theorem RWd.g {h : Mem} {b k : Nat} {st : St} {v : Int32} (R : RWd h b st) (hk : k < 2) : RWd (mu h b (3 + k) v) b (sG st k v) := by
  obtain ⟨⟨r1, r2⟩, r3, r4, r5⟩ := R
  have e : ∀ a, a ≠ b → mu h b (3 + k) v a = h a := fun a ha => mu_ne ha
  refine ⟨⟨?_, ?_⟩, r3.fr (e _ (by omega)) (e _ (by omega)), r4.fr (e _ (by omega)) (e _ (by omega)), fun d hd => (r5 d hd).frm (fun a h1 h2 => e a (by omega))⟩
  · show _ = ud st.1 k v 0
    by_cases q : k = 0
    · subst q
      rw [mu_rde rfl, ud_eq]
    · rw [mu_rdn (by omega), ud_ne (by omega)]
      exact r1
  · show _ = ud st.1 k v 1
    by_cases q : k = 1
    · subst q
      rw [mu_rde rfl, ud_eq]
    · rw [mu_rdn (by omega), ud_ne (by omega)]
      exact r2
theorem FrR.w {b i : Nat} {h h' : Mem} (hi : i ≤ 94) (f : FrR (b + i) h h') : FrW b h h' := fun a ha => f.1 a (by omega) (by omega)
theorem wcl {β : Type} {b c : Nat} {k : Nat → Option β} (W : WK b) (hc : c < 6) : aald (b + 1) (nI c) k = k (b + 6 + 15 * c) := by
  rw [aald_nI (by rw [W.2.2.1]; exact hc) (by omega), (W.2.2.2.1 c hc).1]
/-! keys -/
def KV (k : Nat → Int32) : Prop := (∃ g, g < 4 ∧ k 0 = nI g) ∧ PV 28 (fun j => k (1 + j))
theorem KV.n {k : Nat → Int32} (h : KV k) : ∃ g, g < 4 ∧ k 0 = nI g ∧ keyN k = g * 1048576 + pN (lvO (fun j => k (1 + j))) ∧ pN (lvO (fun j => k (1 + j))) < 1048576 := by
  obtain ⟨⟨g, hg, e⟩, p⟩ := h
  refine ⟨g, hg, e, ?_, pN_lt (p.l5 (by omega))⟩
  unfold keyN
  rw [e, nI_clamp (by omega)]
theorem KV.lt {k : Nat → Int32} (h : KV k) : keyN k < 4194304 := by
  obtain ⟨g, hg, -, e, l⟩ := h.n
  omega
theorem KV.inj {a b : Nat → Int32} (ha : KV a) (hb : KV b) : keyN a = keyN b ↔ ∀ j, j < 5 → a j = b j := by
  obtain ⟨g, hg, e, n, l⟩ := ha.n
  obtain ⟨g', hg', e', n', l'⟩ := hb.n
  have iff := ha.2.inj hb.2 (by omega) (by omega)
  unfold pth at iff
  rw [nI_eq (by omega) (by omega)] at iff
  constructor
  · intro q
    have h1 : g = g' := by omega
    have h2 := iff.mp (by omega)
    intro j hj
    rcases Nat.eq_zero_or_pos j with z | z
    · rw [z, e, e', h1]
    · have := h2 (j - 1) (by omega)
      rw [show 1 + (j - 1) = j by omega] at this
      exact this
  · intro q
    have h1 : g = g' := by
      have := q 0 (by omega)
      rw [e, e'] at this
      exact (nI_eq (by omega) (by omega)).mp this
    have h2 := iff.mpr (fun j hj => q (1 + j) (by omega))
    omega
theorem KV.cgr {a b : Nat → Int32} (ha : KV a) (h : ∀ j, j < 5 → b j = a j) : KV b := by
  obtain ⟨⟨g, hg, e⟩, p⟩ := ha
  exact ⟨⟨g, hg, by rw [h 0 (by omega)]; exact e⟩, p.cgr (fun j hj => h (1 + j) (by omega))⟩
theorem ah1 {a b : Nat} (ha : a < 32) (hb : b < 32) : decide (nI a < nI b) = decide (a < b) := by
  rw [decide_eq_decide]
  exact nI_ltI (by omega) (by omega)
/-- the order of keys is the order of numbers -/
theorem KV.ord {a b : Nat → Int32} (ha : KV a) (hb : KV b) : ahd a b = decide (keyN a < keyN b) := by
  obtain ⟨g, hg, e, n, l⟩ := ha.n
  obtain ⟨g', hg', e', n', l'⟩ := hb.n
  have pa := fun j => ha.2.2.2 j
  have pb := fun j => hb.2.2.2 j
  have ma := ha.2.2.1
  have mb := hb.2.2.1
  rw [n, n']
  unfold pN
  generalize lvO (fun j => a (1 + j)) = la at pa ma
  generalize lvO (fun j => b (1 + j)) = lb at pb mb
  have a1 : a 1 = nI (la 0) := pa 0 (by omega)
  have a2 : a 2 = nI (la 1) := pa 1 (by omega)
  have a3 : a 3 = nI (la 2) := pa 2 (by omega)
  have a4 : a 4 = nI (la 3) := pa 3 (by omega)
  have b1 : b 1 = nI (lb 0) := pb 0 (by omega)
  have b2 : b 2 = nI (lb 1) := pb 1 (by omega)
  have b3 : b 3 = nI (lb 2) := pb 2 (by omega)
  have b4 : b 4 = nI (lb 3) := pb 3 (by omega)
  have m0 := ma 0
  have m1 := ma 1
  have m2 := ma 2
  have m3 := ma 3
  have w0 := mb 0
  have w1 := mb 1
  have w2 := mb 2
  have w3 := mb 3
  have u : ahd a b = if nI g = nI g' then (if nI (la 0) = nI (lb 0) then (if nI (la 1) = nI (lb 1) then (if nI (la 2) = nI (lb 2) then (if nI (la 3) = nI (lb 3) then false else decide (nI (la 3) < nI (lb 3))) else decide (nI (la 2) < nI (lb 2))) else decide (nI (la 1) < nI (lb 1))) else decide (nI (la 0) < nI (lb 0))) else decide (nI g < nI g') := by
    rw [← e, ← e', ← a1, ← a2, ← a3, ← a4, ← b1, ← b2, ← b3, ← b4]
    rfl
  have ne : ∀ {x y : Nat}, x < 32 → y < 32 → ¬ x = y → ¬ nI x = nI y := fun hx hy q z => q ((nI_eq (by omega) (by omega)).mp z)
  rw [u]
  by_cases q0 : g = g'
  · rw [if_pos (congrArg nI q0)]
    by_cases q1 : la 0 = lb 0
    · rw [if_pos (congrArg nI q1)]
      by_cases q2 : la 1 = lb 1
      · rw [if_pos (congrArg nI q2)]
        by_cases q3 : la 2 = lb 2
        · rw [if_pos (congrArg nI q3)]
          by_cases q4 : la 3 = lb 3
          · rw [if_pos (congrArg nI q4), eq_comm, decide_eq_false_iff_not]
            omega
          · rw [if_neg (ne (by omega) (by omega) q4), ah1 (by omega) (by omega), decide_eq_decide]
            omega
        · rw [if_neg (ne (by omega) (by omega) q3), ah1 (by omega) (by omega), decide_eq_decide]
          omega
      · rw [if_neg (ne (by omega) (by omega) q2), ah1 (by omega) (by omega), decide_eq_decide]
        omega
    · rw [if_neg (ne (by omega) (by omega) q1), ah1 (by omega) (by omega), decide_eq_decide]
      omega
  · rw [if_neg (ne (by omega) (by omega) q0), ah1 (by omega) (by omega), decide_eq_decide]
    omega
