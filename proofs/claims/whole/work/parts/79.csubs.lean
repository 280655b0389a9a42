/-! levels that are levels, and the class's subscriptions -/
def lvO (f : Nat → Int32) : Nat → Nat := fun j => if j < 4 then (f j).toNatClampNeg else 0
/-- four levels, each at most mx, none behind a zero -/
def PV (mx : Nat) (f : Nat → Int32) : Prop := (∃ n, Ln (lvO f) n) ∧ (∀ j, lvO f j ≤ mx) ∧ ∀ j, j < 4 → f j = nI (lvO f j)
theorem lvO_of {f : Nat → Int32} {l : Nat → Nat} {mx : Nat} (hx : mx < 2 ^ 31) (hz : ∀ j, 4 ≤ j → l j = 0) (hm : ∀ j, l j ≤ mx) (h : ∀ j, j < 4 → f j = nI (l j)) : lvO f = l := by
  funext j
  unfold lvO
  split
  · rename_i hj
    have := hm j
    rw [h j hj, nI_clamp (by omega)]
  · rw [hz j (by omega)]
theorem PV.mk' {f : Nat → Int32} {l : Nat → Nat} {n mx : Nat} (hx : mx < 2 ^ 31) (hn : Ln l n) (hm : ∀ j, l j ≤ mx) (h : ∀ j, j < 4 → f j = nI (l j)) : PV mx f := by
  have e := lvO_of hx (fun j hj => hn.2.2 j (by have := hn.1; omega)) hm h
  unfold PV
  rw [e]
  exact ⟨⟨n, hn⟩, hm, h⟩
theorem PV.l5 {mx : Nat} {f : Nat → Int32} (h : PV mx f) (hx : mx ≤ 28) : L5 (lvO f) := fun j => by have := h.2.1 j; omega
theorem PV.zt {mx : Nat} {f : Nat → Int32} (h : PV mx f) : Zt (lvO f) := by
  obtain ⟨n, hn⟩ := h.1
  exact hn.zt
theorem PV.cgr {mx : Nat} {f g : Nat → Int32} (h : PV mx f) (e : ∀ j, j < 4 → g j = f j) : PV mx g := by
  have el : lvO g = lvO f := by
    funext j
    unfold lvO
    split
    · rw [e j (by assumption)]
    · rfl
  unfold PV
  rw [el]
  exact ⟨h.1, h.2.1, fun j hj => by rw [e j hj]; exact h.2.2 j hj⟩
theorem PV.mono {a b : Nat} {f : Nat → Int32} (h : PV a f) (e : a ≤ b) : PV b f := ⟨h.1, fun j => Nat.le_trans (h.2.1 j) e, h.2.2⟩
theorem PV.inj {a b : Nat} {f g : Nat → Int32} (hf : PV a f) (hg : PV b g) (ha : a ≤ 28) (hb : b ≤ 28) : pth (lvO f) = pth (lvO g) ↔ ∀ j, j < 4 → f j = g j := by
  rw [pth_inj (hf.l5 ha) (hg.l5 hb)]
  constructor
  · intro e j hj
    rw [hf.2.2 j hj, hg.2.2 j hj, e j hj]
  · intro e j hj
    have z := e j hj
    rw [hf.2.2 j hj, hg.2.2 j hj] at z
    have := hf.2.1 j
    have := hg.2.1 j
    exact (nI_eq (by omega) (by omega)).mp z
theorem sm4_iff {f s : Nat → Int32} {b : Nat} : sm4 f b s = true ↔ ∀ j, j < 4 → f (b + j) = s j := by
  unfold sm4
  simp only [Bool.and_eq_true, beq_iff_eq]
  constructor
  · intro ⟨⟨⟨a, b'⟩, c⟩, d⟩ j hj
    rcases (show j = 0 ∨ j = 1 ∨ j = 2 ∨ j = 3 by omega) with rfl | rfl | rfl | rfl <;> assumption
  · intro h
    exact ⟨⟨⟨h 0 (by omega), h 1 (by omega)⟩, h 2 (by omega)⟩, h 3 (by omega)⟩
theorem pth_same {a b : Nat} {r : List Int32} {s : Nat → Int32} (hr : PV a (g5 r)) (hs : PV b s) (ha : a ≤ 28) (hb : b ≤ 28) : pth (lvO (g5 r)) = pth (lvO s) ↔ sm4 (g5 r) 0 s = true := by
  rw [hr.inj hs ha hb, sm4_iff]
  simp only [Nat.zero_add]
theorem PV.match' {a b : Nat} {r : List Int32} {t : Nat → Int32} {h : Mem} (hr : PV a (g5 r)) (ht : PV b t) (ha : a ≤ 28) (hb : b ≤ 26) : f_X1_matches (pth (lvO (g5 r))) (pth (lvO t)) h = some (bI (mtr r t), h) := by
  rw [C_matches (hr.l5 ha) (ht.l5 (by omega)), cmF_mtF hr.2.2 ht.2.2 (hr.l5 ha) (ht.l5 (by omega)) hr.zt ht.zt (fun j _ => Nat.le_trans (ht.2.1 j) hb) 4 0 rfl]
  rfl
/-- a subscription's row -/
def SbV (r : List Int32) : Prop := PV 28 (g5 r) ∧ ¬ g5 r 0 = 0 ∧ (g5 r 4 = 0 ∨ g5 r 4 = 1 ∨ g5 r 4 = 2) ∧ ∃ g, g < 4 ∧ g5 r 5 = nI g
theorem gr_map {l : List (List Int32)} {i : Nat} (hi : i < l.length) (F : List Int32 → List Int32) : gr (l.map F) i = F (gr l i) := by
  simp [gr, List.getD, hi]
theorem gr_mem {l : List (List Int32)} {i : Nat} (hi : i < l.length) : gr l i ∈ l := by
  have : gr l i = l[i] := by simp [gr, List.getD, hi]
  rw [this]
  exact List.getElem_mem hi
theorem mem_gr {l : List (List Int32)} {r : List Int32} (h : r ∈ l) : ∃ i, i < l.length ∧ gr l i = r := by
  obtain ⟨i, hi, e⟩ := List.getElem_of_mem h
  exact ⟨i, hi, by simp [gr, List.getD, hi, e]⟩
def fsIx (rows : List (List Int32)) (s : Nat → Int32) (g : Int32) : Int32 := sIx (-1) (sP rows s g) rows.length 0
theorem C_sub2 {h : Mem} {K : Nat} {cl : Cl} {s : Nat → Int32} (c : CK K) (R : RK h K cl) (V : ∀ r ∈ cl.2 3, SbV r) (hs : PV 28 s) (g : Int32) : ∀ (d i n : Nat), i + d = (cl.2 3).length → d < n → f_X0_findSubscription_2 n K (pth (lvO s)) g (nI i) h = some (sIx (-1) (sP (cl.2 3) s g) d i, h) := by
  have T := R.2.1
  have l6 := T.2.2.2.1
  have e3 := T.2.2.1
  rw [List.length_map] at l6 e3
  intro d
  induction d with
  | zero =>
    intro i n h1 h2
    obtain ⟨n, rfl⟩ : ∃ z, n = z + 1 := ⟨n - 1, by omega⟩
    unfold f_X0_findSubscription_2 sIx
    rw [c.1.1, e3, if_pos (by rw [nI_leI (by omega) (by omega)]; omega)]
  | succ d ih =>
    intro i n h1 h2
    obtain ⟨n, rfl⟩ : ∃ z, n = z + 1 := ⟨n - 1, by omega⟩
    have hi : i < (cl.2 3).length := by omega
    have eg := gr_map hi smR
    have c0 : f_X3_cell (K + 1) (nI i) 0 h = some (pth (lvO (g5 (gr (cl.2 3) i))), h) := by
      have y := C_cell (j := 0) c.2.1.1 T (by simpa using hi) (by omega)
      rw [eg] at y
      exact y
    have c2 : f_X3_cell (K + 1) (nI i) 2 h = some (g5 (gr (cl.2 3) i) 5, h) := by
      have y := C_cell (j := 2) c.2.1.1 T (by simpa using hi) (by omega)
      rw [eg] at y
      exact y
    have z := ih (i + 1) n (by omega) (by omega)
    have v := V _ (gr_mem hi)
    have iff := pth_same v.1 hs (by omega) (by omega)
    unfold f_X0_findSubscription_2 sIx f_X0_findSubscription_41
    rw [c.1.1, e3, if_neg (by rw [nI_leI (by omega) (by omega)]; omega), c0, b2_some, show nI i + 1 = nI (i + 1) by rw [li_1, nI_add]]
    have ep : sP (cl.2 3) s g i = (sm4 (g5 (gr (cl.2 3) i)) 0 s && g5 (gr (cl.2 3) i) 5 == g) := rfl
    by_cases e1 : pth (lvO (g5 (gr (cl.2 3) i))) = pth (lvO s)
    · rw [if_pos e1, c2, b2_some, ep, iff.mp e1, Bool.true_and]
      by_cases e2 : g5 (gr (cl.2 3) i) 5 = g
      · rw [if_pos e2, if_pos (by simp [e2])]
      · rw [if_neg e2, if_neg (by simp [e2]), z]
    · have e3 : sm4 (g5 (gr (cl.2 3) i)) 0 s = false := by
        cases q : sm4 (g5 (gr (cl.2 3) i)) 0 s with
        | true => exact absurd (iff.mpr q) e1
        | false => rfl
      rw [if_neg e1, ep, e3, Bool.false_and, if_neg (by decide), z]
theorem C_findSub {h : Mem} {K : Nat} {cl : Cl} {s : Nat → Int32} (c : CK K) (R : RK h K cl) (V : ∀ r ∈ cl.2 3, SbV r) (hs : PV 28 s) (g : Int32) : f_X0_findSubscription K (pth (lvO s)) g h = some (fsIx (cl.2 3) s g, h) := by
  have l6 := R.2.1.2.2.2.1
  rw [List.length_map] at l6
  exact C_sub2 c R V hs g (cl.2 3).length 0 xFU (by omega) (by unfold xFU; omega)
/-- the two ways to say 'none' -/
theorem sIx_two {P : Nat → Bool} {d k : Nat} (hk : k + d < 2 ^ 31) : (sIx (-1) P d k = -1 ∧ sIx (-4) P d k = -4) ∨ ∃ j, k ≤ j ∧ j < k + d ∧ sIx (-1) P d k = nI j ∧ sIx (-4) P d k = nI j ∧ P j = true := by
  induction d generalizing k with
  | zero => exact Or.inl ⟨rfl, rfl⟩
  | succ d ih =>
    unfold sIx
    by_cases e : P k = true
    · rw [if_pos e, if_pos e]
      exact Or.inr ⟨k, by omega, by omega, rfl, rfl, e⟩
    · rw [if_neg e, if_neg e]
      rcases ih (k := k + 1) (by omega) with q | ⟨j, h1, h2, h3, h4, h5⟩
      · exact Or.inl q
      · exact Or.inr ⟨j, by omega, by omega, h3, h4, h5⟩
theorem fs_sb {rows : List (List Int32)} (hl : rows.length ≤ 6) (s : Nat → Int32) (g : Int32) : (fsIx rows s g = -1 ∧ sbIx rows s g = -4) ∨ ∃ j, j < rows.length ∧ fsIx rows s g = nI j ∧ sbIx rows s g = nI j ∧ sP rows s g j = true := by
  rcases sIx_two (P := sP rows s g) (d := rows.length) (k := 0) (by omega) with q | ⟨j, -, h2, h3, h4, h5⟩
  · exact Or.inl q
  · exact Or.inr ⟨j, by omega, h3, h4, h5⟩
theorem RK.sub {h h' : Mem} {K : Nat} {cl : Cl} {rows : List (List Int32)} (R : RK h K cl) (D : RR h' (K + 1) 6 3 (rows.map smR)) (f : FrR (K + 1) h h') : RK h' K (sT cl 3 rows) := by
  obtain ⟨⟨s0, s1, s2, s3, s4, s5, s6, s7, s8⟩, t1, t2, t3, t4, t5, ⟨kn, t6, t6'⟩, t7, t8⟩ := R
  have eK : h' K = h K := f.1 K (by omega) (by omega)
  have et : ∀ t, t ≠ 3 → (sT cl 3 rows).2 t = cl.2 t := fun t h1 => sT_ne h1
  have e3 : (sT cl 3 rows).2 3 = rows := sT_eq _ _ _
  refine ⟨⟨by rw [eK]; exact s0, by rw [eK]; exact s1, by rw [eK]; exact s2, by rw [eK, et 4 (by omega)]; exact s3, by rw [eK]; exact s4, by rw [eK]; exact s5, by rw [eK]; exact s6, by rw [eK]; exact s7, by rw [eK]; exact s8⟩, ?_, ?_, ?_, ?_, ?_, ⟨kn, ?_, by rw [et 8 (by omega)]; exact t6'⟩, ?_, ?_⟩
  · rw [e3]; exact D
  · rw [f.1 (K + 3) (by omega) (by omega)]; exact t2
  · rw [et 4 (by omega), et 5 (by omega)]; exact t3.off f (by omega) (by omega) (by omega)
  · rw [et 6 (by omega)]; exact t4.off f (by omega) (by omega) (by omega)
  · rw [et 7 (by omega)]; exact t5.off f (by omega) (by omega) (by omega)
  · exact t6.off f (by omega) (by omega) (by omega)
  · rw [et 11 (by omega)]; exact t7.off f (by omega) (by omega) (by omega)
  · show RW h' (K + 14) cl.1
    unfold RW
    rw [f.1 (K + 14) (by omega) (by omega)]
    exact t8
