/-! the class: subscriptions are added, promises, facts -/
theorem pth_c {l l' : Nat → Nat} (h : ∀ j, j < 4 → l j = l' j) : pth l = pth l' := by
  unfold pth pN
  rw [h 0 (by omega), h 1 (by omega), h 2 (by omega), h 3 (by omega)]
theorem sm_set4 {r : List Int32} (hr : r.length = 6) (p : Int32) : (smR r).set 1 p = smR (r.set 4 p) := by
  match r, hr with
  | [a, b, c, d, e, f], _ =>
    have q : pth (lvR [a, b, c, d, e, f]) = pth (lvR ([a, b, c, d, e, f].set 4 p)) := by
      refine pth_c (fun j hj => ?_)
      rcases (show j = 0 ∨ j = 1 ∨ j = 2 ∨ j = 3 by omega) with rfl | rfl | rfl | rfl <;> rfl
    unfold smR
    rw [← q]
    rfl
theorem sm_new (s : Nat → Int32) (p g : Int32) : smR [s 0, s 1, s 2, s 3, p, g] = [pth (lvO s), p, g] := by
  have q : pth (lvR [s 0, s 1, s 2, s 3, p, g]) = pth (lvO s) := by
    refine pth_c (fun j hj => ?_)
    rcases (show j = 0 ∨ j = 1 ∨ j = 2 ∨ j = 3 by omega) with rfl | rfl | rfl | rfl <;> rfl
  unfold smR
  rw [q]
  rfl
theorem C_addSub1 {h : Mem} {K : Nat} {cl : Cl} {s : Nat → Int32} (c : CK K) (R : RK h K cl) (V : ∀ r ∈ cl.2 3, SbV r) (hs : PV 28 s) (p g : Int32) (e : sbIx (cl.2 3) s g = -4) (hl : (cl.2 3).length < 6) : Tr (f_X0_addSubscription K (pth (lvO s)) p g h) (fun r h' => r = 1 ∧ RK h' K (sT cl 3 (cl.2 3 ++ [[s 0, s 1, s 2, s 3, p, g]])) ∧ FrK K h h') := by
  have T := R.2.1
  have I := c.2.1.1
  have l6 := T.2.2.2.1
  rw [List.length_map] at l6
  unfold f_X0_addSubscription f_X0_addSubscription_44
  rw [c.1.1, C_findSub c R V hs g, b2_some]
  rcases fs_sb l6 s g with ⟨e1, e2⟩ | ⟨j, hj, e1, e2, -⟩
  · rw [e1, if_neg (by decide)]
    refine wB (C_open I T (by simpa using hl)) (fun r g0 P0 => ?_)
    rw [P0.1]
    refine wB (C_putL (j := 0) I P0.2.1 (by omega) rfl _) (fun _ g1 P1 => ?_)
    refine wB (C_putL (j := 2) I P1.1 (by omega) rfl g) (fun _ g2 P2 => ?_)
    refine wB (C_putL (j := 1) I P2.1 (by omega) rfl p) (fun _ g3 P3 => ?_)
    have f := ((P0.2.2.tr P1.2).tr P2.2).tr P3.2
    rw [if_neg (by rw [li_0, List.length_map, nI_ltI (by omega) (by omega)]; omega)]
    refine wR ⟨rfl, ?_, f.k (i := 1) (by omega)⟩
    refine R.sub ?_ f
    have q : ((cl.2 3) ++ [[s 0, s 1, s 2, s 3, p, g]]).map smR = (cl.2 3).map smR ++ [[pth (lvO s), p, g]] := by
      rw [List.map_append, List.map_singleton, sm_new]
    rw [q]
    exact P3.1
  · rw [e2] at e
    exact absurd e (nI_ne4 (by omega))
theorem C_addSub2 {h : Mem} {K : Nat} {cl : Cl} {s : Nat → Int32} (c : CK K) (R : RK h K cl) (V : ∀ r ∈ cl.2 3, SbV r) (hs : PV 28 s) (p g : Int32) (e : sbIx (cl.2 3) s g = -4) (hl : ¬ (cl.2 3).length < 6) : f_X0_addSubscription K (pth (lvO s)) p g h = some (0, h) := by
  have T := R.2.1
  have I := c.2.1.1
  have l6 := T.2.2.2.1
  rw [List.length_map] at l6
  unfold f_X0_addSubscription f_X0_addSubscription_44
  rw [c.1.1, C_findSub c R V hs g, b2_some]
  rcases fs_sb l6 s g with ⟨e1, e2⟩ | ⟨j, hj, e1, e2, -⟩
  · rw [e1, if_neg (by decide), C_openN I T (by simpa using hl), b2_some, C_putN, b2_some, C_putN, b2_some, C_putN, b2_some, if_pos (by decide)]
  · rw [e2] at e
    exact absurd e (nI_ne4 (by omega))
theorem C_addSub3 {h : Mem} {K j : Nat} {cl : Cl} {s : Nat → Int32} (c : CK K) (R : RK h K cl) (w : Wd cl) (V : ∀ r ∈ cl.2 3, SbV r) (hs : PV 28 s) (p g : Int32) (e : sbIx (cl.2 3) s g = nI j) (hj : j < (cl.2 3).length) : Tr (f_X0_addSubscription K (pth (lvO s)) p g h) (fun r h' => r = 1 ∧ RK h' K (A_set4 cl j p) ∧ FrK K h h') := by
  have T := R.2.1
  have I := c.2.1.1
  have l6 := T.2.2.2.1
  rw [List.length_map] at l6
  unfold f_X0_addSubscription f_X0_addSubscription_44
  rw [c.1.1, C_findSub c R V hs g, b2_some]
  rcases fs_sb l6 s g with ⟨e1, e2⟩ | ⟨j', hj', e1, e2, -⟩
  · rw [e2] at e
    exact absurd e.symm (nI_ne4 (by omega))
  · have ejj : j' = j := (nI_eq (by omega) (by omega)).mp (e2.symm.trans e)
    subst ejj
    rw [e1, if_pos (nI_pos' (by omega))]
    have eg := gr_map hj smR
    refine wB (C_put (i := j') (j := 1) I T (by simpa using hj) (by omega) (by rw [eg]; rfl) p) (fun _ g1 P1 => ?_)
    rw [if_neg (by rw [li_0, nI_ltI (by omega) (by omega)]; omega)]
    refine wR ⟨rfl, ?_, P1.2.k (i := 1) (by omega)⟩
    refine R.sub ?_ P1.2
    have q := P1.1
    rw [eg, sm_set4 (w.row (t := 3) rfl hj), ← List.map_set] at q
    exact q
def cvg (b : Int32) : Int32 := if b = -4 then -1 else b
theorem cvg_max {b p : Int32} (hb : b = -4 ∨ b = 0 ∨ b = 1 ∨ b = 2) (hp : p = 0 ∨ p = 1 ∨ p = 2) : xmax (cvg b) p = cvg (if b < p then p else b) := by
  rcases hb with rfl | rfl | rfl | rfl <;> rcases hp with rfl | rfl | rfl <;> decide
theorem C_gr4 {h : Mem} {K : Nat} {cl : Cl} {t : Nat → Int32} (c : CK K) (R : RK h K cl) (V : ∀ r ∈ cl.2 3, SbV r) (ht : PV 26 t) : ∀ (d i n : Nat) (b : Int32), i + d = (cl.2 3).length → d < n → (b = -4 ∨ b = 0 ∨ b = 1 ∨ b = 2) → f_X0_greatestPromise_4 n K (pth (lvO t)) (cvg b) (nI i) h = some (cvg (((cl.2 3).drop i).foldl (wdS t) b), h) ∧ (((cl.2 3).drop i).foldl (wdS t) b = -4 ∨ ((cl.2 3).drop i).foldl (wdS t) b = 0 ∨ ((cl.2 3).drop i).foldl (wdS t) b = 1 ∨ ((cl.2 3).drop i).foldl (wdS t) b = 2) := by
  have T := R.2.1
  have l6 := T.2.2.2.1
  have e3 := T.2.2.1
  rw [List.length_map] at l6 e3
  intro d
  induction d with
  | zero =>
    intro i n b h1 h2 hb
    obtain ⟨n, rfl⟩ : ∃ z, n = z + 1 := ⟨n - 1, by omega⟩
    rw [List.drop_eq_nil_of_le (by omega)]
    refine ⟨?_, hb⟩
    unfold f_X0_greatestPromise_4
    rw [c.1.1, e3, if_pos (by rw [nI_leI (by omega) (by omega)]; omega)]
    rfl
  | succ d ih =>
    intro i n b h1 h2 hb
    obtain ⟨n, rfl⟩ : ∃ z, n = z + 1 := ⟨n - 1, by omega⟩
    have hi : i < (cl.2 3).length := by omega
    rw [drop_gr _ _ hi, List.foldl_cons]
    have eg := gr_map hi smR
    have v := V _ (gr_mem hi)
    have cell : ∀ j, j < 3 → f_X3_cell (K + 1) (nI i) (nI j) h = some (g5 (smR (gr (cl.2 3) i)) j, h) := by
      intro j hj
      have y := C_cell (j := j) c.2.1.1 T (by simpa using hi) hj
      rw [eg] at y
      exact y
    generalize gr (cl.2 3) i = r at v cell ⊢
    have hb' : wdS t b r = -4 ∨ wdS t b r = 0 ∨ wdS t b r = 1 ∨ wdS t b r = 2 := by
      unfold wdS
      split
      · exact Or.inr v.2.2.1
      · exact hb
    have z := ih (i + 1) n (wdS t b r) (by omega) (by omega) hb'
    refine ⟨?_, z.2⟩
    have z1 := z.1
    unfold f_X0_greatestPromise_4 f_X0_greatestPromise_57
    have c2 : f_X3_cell (K + 1) (nI i) 2 h = some (g5 r 5, h) := cell 2 (by omega)
    have c0 : f_X3_cell (K + 1) (nI i) 0 h = some (pth (lvO (g5 r)), h) := cell 0 (by omega)
    have c1 : f_X3_cell (K + 1) (nI i) 1 h = some (g5 r 4, h) := cell 1 (by omega)
    rw [c.1.1, e3, if_neg (by rw [nI_leI (by omega) (by omega)]; omega), c2, b2_some, show nI i + 1 = nI (i + 1) by rw [li_1, nI_add]]
    by_cases g0 : g5 r 5 = 0
    · rw [if_pos g0, c0, b2_some, v.1.match' ht (by omega) (by omega), b2_some]
      cases hm : mtr r t with
      | false =>
        have e : wdS t b r = b := by unfold wdS; rw [hm, if_neg (by simp)]
        rw [e] at z1 ⊢
        rw [if_pos (show bI false = 0 from rfl)]
        exact z1
      | true =>
        rw [if_neg (show ¬ bI true = 0 by decide), c1, b2_some, cvg_max hb v.2.2.1]
        by_cases hlt : b < g5 r 4
        · have e : wdS t b r = g5 r 4 := by unfold wdS; rw [hm, if_pos (by simp [g0, hlt])]
          rw [e] at z1 ⊢
          rw [if_pos hlt]
          exact z1
        · have e : wdS t b r = b := by unfold wdS; rw [if_neg (by simp [hlt])]
          rw [e] at z1 ⊢
          rw [if_neg hlt]
          exact z1
    · have e : wdS t b r = b := by unfold wdS; rw [if_neg (by simp [g0])]
      rw [e] at z1 ⊢
      rw [if_neg g0]
      exact z1
theorem C_great {h : Mem} {K : Nat} {cl : Cl} {t : Nat → Int32} (c : CK K) (R : RK h K cl) (V : ∀ r ∈ cl.2 3, SbV r) (ht : PV 26 t) : f_X0_greatestPromise K (pth (lvO t)) h = some (cvg (wdA cl t), h) ∧ (wdA cl t = -4 ∨ wdA cl t = 0 ∨ wdA cl t = 1 ∨ wdA cl t = 2) := by
  have l6 := R.2.1.2.2.2.1
  rw [List.length_map] at l6
  have z := C_gr4 c R V ht (cl.2 3).length 0 xFU (-4) (by omega) (by unfold xFU; omega) (Or.inl rfl)
  rw [List.drop_zero] at z
  exact z
theorem PV.z0 {mx : Nat} {f : Nat → Int32} (h : PV mx f) (hx : mx ≤ 28) : (pth (lvO f) = 0 ↔ f 0 = 0) ∧ (f 0 ≤ 0 ↔ f 0 = 0) := by
  obtain ⟨n, hn⟩ := h.1
  have b := pN_lt (h.l5 hx)
  have m0 := h.2.1 0
  have e0 := h.2.2 0 (by omega)
  constructor
  · unfold pth
    rw [li_0, nI_eq (by omega) (by omega), e0, nI_eq (by omega) (by omega)]
    constructor
    · intro q
      unfold pN at q
      omega
    · intro q
      have n0 : n = 0 := by
        rcases Nat.eq_zero_or_pos n with z | z
        · exact z
        · exact absurd q (hn.2.1 0 z)
      unfold pN
      rw [hn.2.2 0 (by omega), hn.2.2 1 (by omega), hn.2.2 2 (by omega), hn.2.2 3 (by omega)]
  · rw [e0, li_0, nI_leI (by omega) (by omega), nI_eq (by omega) (by omega)]
    omega
def alF (cl : Cl) : Nat → Nat → Nat
  | 0, _ => 0
  | d + 1, k => (if cl.1 (29 + 4 * k) ≤ 0 then 0 else 1) + alF cl d (k + 1)
theorem alF_C (cl : Cl) : alF cl 4 0 = alC cl := by
  unfold alC
  show (if cl.1 29 ≤ 0 then 0 else 1) + ((if cl.1 33 ≤ 0 then 0 else 1) + ((if cl.1 37 ≤ 0 then 0 else 1) + ((if cl.1 41 ≤ 0 then 0 else 1) + 0))) = _
  omega
def AlV (cl : Cl) : Prop := ∀ j, j < 4 → PV 26 (fun i => cl.1 (29 + 4 * j + i))
theorem C_al13 {h : Mem} {K : Nat} {cl : Cl} (c : CK K) (R : RK h K cl) (V : AlV cl) : ∀ (d k s n : Nat), k + d = 4 → d < n → s ≤ k → f_X0_countAliases_13 n (nI s) (K + 3) (nI 4) (nI k) h = some (nI (s + alF cl d k), h) := by
  intro d
  induction d with
  | zero =>
    intro k s n h1 h2 hs
    obtain ⟨n, rfl⟩ : ∃ z, n = z + 1 := ⟨n - 1, by omega⟩
    unfold f_X0_countAliases_13 alF
    rw [if_pos (by rw [nI_leI (by omega) (by omega)]; omega), Nat.add_zero]
  | succ d ih =>
    intro k s n h1 h2 hs
    obtain ⟨n, rfl⟩ : ∃ z, n = z + 1 := ⟨n - 1, by omega⟩
    have v := (V k (by omega)).z0 (by omega)
    have e := R.2.2.1 k (by omega)
    have e' : h (K + 3) k = pth (lvO (fun i => cl.1 (29 + 4 * k + i))) := e
    have v1 : pth (lvO (fun i => cl.1 (29 + 4 * k + i))) = 0 ↔ cl.1 (29 + 4 * k) = 0 := v.1
    have v2 : cl.1 (29 + 4 * k) ≤ 0 ↔ cl.1 (29 + 4 * k) = 0 := v.2
    unfold f_X0_countAliases_13 alF f_X0_countAliases_36 f_X7_flag
    rw [if_neg (by rw [nI_leI (by omega) (by omega)]; omega), ald_nI (by rw [c.2.2.1]; omega) (by omega), e', show nI k + 1 = nI (k + 1) by rw [li_1, nI_add]]
    by_cases q : cl.1 (29 + 4 * k) = 0
    · rw [if_pos (v1.mpr q), if_pos rfl, b2_some, if_pos (v2.mpr q), li_0, nI_add, ih (k + 1) (s + 0) n (by omega) (by omega) (by omega)]
      congr 3
      omega
    · rw [if_neg (fun z => q (v1.mp z)), if_neg (by decide), b2_some, if_neg (fun z => q (v2.mp z)), li_1, nI_add, ih (k + 1) (s + 1) n (by omega) (by omega) (by omega)]
      congr 3
      omega
theorem C_countAl {h : Mem} {K : Nat} {cl : Cl} (c : CK K) (R : RK h K cl) (V : AlV cl) : f_X0_countAliases K h = some (nI (alC cl), h) := by
  have z := C_al13 c R V 4 0 0 xFU (by omega) (by unfold xFU; omega) (by omega)
  rw [Nat.zero_add, alF_C] at z
  unfold f_X0_countAliases
  rw [c.1.2.1, c.2.2.1]
  exact z
/-- the will's scalars -/
def WlV (cl : Cl) : Prop := (cl.1 12 = 0 ∨ cl.1 12 = 1) ∧ (cl.1 12 = 1 → cl.1 0 = 1) ∧ (cl.1 0 = 1 → cl.1 21 = -4)
theorem C_held {h : Mem} {K : Nat} {cl : Cl} (R : RK h K cl) (V : WlV cl) : f_X5_isHeld (K + 14) h = some (cl.1 12, h) := by
  have w := R.2.2.2.2.2.2.2.2.2
  unfold f_X5_isHeld
  rcases V.1 with e | e
  · rw [if_neg (by rw [e]; decide)] at w
    rw [e]
    by_cases q : cl.1 21 = -4
    · rw [if_pos q] at w
      rw [w, if_neg (by decide)]
    · rw [if_neg q] at w
      rw [w.1, if_neg (by decide)]
  · rw [if_pos e] at w
    rw [w.1, if_pos rfl, e]
theorem C_due {h : Mem} {K : Nat} {cl : Cl} (R : RK h K cl) (V : WlV cl) : f_X5_dueClock (K + 14) h = some (cl.1 21, h) := by
  have w := R.2.2.2.2.2.2.2.2.2
  unfold f_X5_dueClock
  rcases V.1 with e | e
  · rw [if_neg (by rw [e]; decide)] at w
    by_cases q : cl.1 21 = -4
    · rw [if_pos q] at w
      rw [w, if_neg (by decide), q]
    · rw [if_neg q] at w
      rw [w.1, if_pos rfl, w.2.2.2.2.2]
  · rw [if_pos e] at w
    rw [w.1, if_neg (by decide), V.2.2 (V.2.1 e)]
theorem C_fact {h : Mem} {K m : Nat} {cl : Cl} (c : CK K) (R : RK h K cl) (V : AlV cl) (W : WlV cl) (h1 : 1 ≤ m) (h2 : m ≤ 10) : f_X0_sessionFact K (nI m) h = some (O_cl45 cl m, h) := by
  obtain ⟨s0, s1, s2, s3, s4, s5, s6, s7, s8⟩ := R.1
  have eq : ∀ k : Nat, k < 11 → (nI m = nI k ↔ m = k) := fun k hk => nI_eq (by omega) (by omega)
  have l16 := R.len4
  have q5 : f_X0_queued K h = some (nI (cl.2 5).length, h) := by
    have m3 := R.2.2.2.1.2.2.1
    have ml : ((cl.2 4).map fmR ++ (cl.2 5).map qmR).length = (cl.2 4).length + (cl.2 5).length := by simp
    rw [ml] at m3
    unfold f_X0_queued
    rw [c.1.2.2.1, m3, s3, nI_subP (by omega), Nat.add_sub_cancel_left]
  have t3 := R.2.1.2.2.1
  have t6 := R.2.2.2.2.1.2.2.1
  have t7 := R.2.2.2.2.2.1.2.2.1
  obtain ⟨kn, k8, k8'⟩ := R.2.2.2.2.2.2.1
  have t8 := k8.2.2.1
  rw [k8'.length_eq] at t8
  rw [List.length_map] at t3 t7
  unfold f_X0_sessionFact O_cl45
  rw [c.1.1, c.1.2.2.2.1, c.1.2.2.2.2.1, c.1.2.2.2.2.2.1, c.1.2.2.2.2.2.2.2, q5, b2_some, C_countAl c R V, b2_some, C_held R W, b2_some, C_flag W.1, b2_some, t3, t6, t7, t8, s0, s1, s2, s3]
  rcases (show m = 1 ∨ m = 2 ∨ m = 3 ∨ m = 4 ∨ m = 5 ∨ m = 6 ∨ m = 7 ∨ m = 8 ∨ m = 9 ∨ m = 10 by omega) with rfl | rfl | rfl | rfl | rfl | rfl | rfl | rfl | rfl | rfl
  · rfl
  · rw [if_neg (by decide), if_pos (by decide), if_pos rfl]
    split <;> rfl
  · rfl
  · rfl
  · rfl
  · rfl
  · rfl
  · rfl
  · rfl
  · rfl
