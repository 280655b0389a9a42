/-- all clients' blocks -/
def RA (h : Mem) (cls : Nat → Cl) : Prop := ∀ c, c < 6 → RB (bk (h 391) c) (cls c)
theorem M_ns29 {cls : Nat → Cl} {beh : Nat → Int32} : ∀ (d c n : Nat) (s : Bool × (Nat → Int32)) (h : Mem), c + d = 6 → d < n → RA h cls → (∀ j, j < 5 → h 400 j = beh j) → (∀ j, j < 5 → h 398 j = s.2 j) →
    ∃ h', f_X8_nextShare_29 n 390 (bI s.1) (nI c) h = some (bI (nsF beh cls d c s).1, h') ∧ (∀ a, a ≠ 398 → a ≠ 399 → h' a = h a) ∧ ∀ j, j < 5 → h' 398 j = (nsF beh cls d c s).2 j := by
  intro d
  induction d with
  | zero =>
    intro c n s h h1 h2 R hb hs
    obtain ⟨n, rfl⟩ : ∃ z, n = z + 1 := ⟨n - 1, by omega⟩
    refine ⟨h, ?_, fun _ _ _ => rfl, hs⟩
    unfold f_X8_nextShare_29
    simp (disch := omega) only [li_6, nI_leI, if_pos, zg_b]
    rfl
  | succ d ih =>
    intro c n s h h1 h2 R hb hs
    obtain ⟨n, rfl⟩ : ∃ z, n = z + 1 := ⟨n - 1, by omega⟩
    have Rc := R c (by omega)
    have q2 := (Rc.2 3 rfl).2.1
    rw [tc_3] at q2
    have q0 : h 391 (308 + 961 * c + 0) = (cls c).1 0 := Rc.1 0 (by omega) rfl
    have key : ∃ h1, f_X8_nextShare_29 (n + 1) 390 (bI s.1) (nI c) h = f_X8_nextShare_29 n 390 (bI (nsC beh s (cls c)).1) (nI (c + 1)) h1 ∧ (∀ a, a ≠ 398 → a ≠ 399 → h1 a = h a) ∧ ∀ j, j < 5 → h1 398 j = (nsC beh s (cls c)).2 j := by
      unfold nsC
      rw [f_X8_nextShare_29]
      simp (disch := omega) only [li_6, nI_leI, if_neg]
      by_cases e : (cls c).1 0 = 0
      · rw [if_pos e]
        refine ⟨h, ?_, fun _ _ _ => rfl, hs⟩
        obtain ⟨z, hz⟩ := xFUs
        rw [hz]
        unfold f_X8_nextShare_37 f_X8_nextShare_127
        rw [li_0, M_of (by omega) (by omega), b2_some, q0, if_pos (show (cls c).1 0 = nI 0 from e)]
        rw [li_1, nI_add]
      · rw [if_neg e]
        obtain ⟨h1, e1, f1, s1⟩ := M_ns37 (c := c) (beh := beh) (by omega) (f_X8_nextShare_29 n) e (cls c |>.2 3).length 0 xFU s h (by omega) (by unfold xFU; omega) Rc hb hs
        rw [List.drop_zero] at e1 s1
        exact ⟨h1, e1, f1, s1⟩
    obtain ⟨h3, e3, f3, s3⟩ := key
    obtain ⟨h4, e4, f4, s4⟩ := ih (c + 1) n (nsC beh s (cls c)) h3 (by omega) (by omega) (fun i hi => by rw [f3 391 (by omega) (by omega)]; exact R i hi) (fun j hj => by rw [f3 400 (by omega) (by omega)]; exact hb j hj) s3
    exact ⟨h4, by rw [e3, e4]; rfl, fun a g1 g2 => (f4 a g1 g2).trans (f3 a g1 g2), s4⟩
theorem M_nextShare {cls : Nat → Cl} {h : Mem} (R : RA h cls) : ∃ h', f_X8_nextShare 390 h = some (bI (nsA cls (h 398)).1, h') ∧ (∀ a, a ≠ 398 → a ≠ 399 → a ≠ 400 → h' a = h a) ∧ ∀ j, j < 5 → h' 398 j = (nsA cls (h 398)).2 j := by
  have e : f_X8_nextShare 390 h = f_X8_nextShare_29 xFU 390 (bI false) (nI 0) (set5 h 400 (h 398)) := by
    unfold f_X8_nextShare
    obtain ⟨z, hz⟩ := xFUs
    rw [← mu5, hz, li_0]
    unfold f_X8_nextShare_2
    simp (disch := omega) only [li_5, li_1, xr_16, xr_18, nI_leI, if_neg, nI_add, al_398, as_400, Nat.zero_add]
    unfold f_X8_nextShare_2
    simp (disch := omega) only [li_5, li_1, xr_16, xr_18, nI_leI, if_neg, nI_add, al_398, as_400, mu_rdk, Nat.reduceAdd]
    unfold f_X8_nextShare_2
    simp (disch := omega) only [li_5, li_1, xr_16, xr_18, nI_leI, if_neg, nI_add, al_398, as_400, mu_rdk, Nat.reduceAdd]
    unfold f_X8_nextShare_2
    simp (disch := omega) only [li_5, li_1, xr_16, xr_18, nI_leI, if_neg, nI_add, al_398, as_400, mu_rdk, Nat.reduceAdd]
    unfold f_X8_nextShare_2
    simp (disch := omega) only [li_5, li_1, xr_16, xr_18, nI_leI, if_neg, nI_add, al_398, as_400, mu_rdk, Nat.reduceAdd]
    unfold f_X8_nextShare_2
    simp (disch := omega) only [li_5, nI_leI, if_pos]
    rw [← hz]
    rfl
  obtain ⟨h1, e1, f1, s1⟩ := M_ns29 (cls := cls) (beh := h 398) 6 0 xFU (false, h 398) (set5 h 400 (h 398)) (by omega) (by unfold xFU; omega) (fun i hi => by rw [set5_ne (by omega)]; exact R i hi) (fun j hj => set5_in hj) (fun j hj => by rw [set5_ne (by omega)])
  exact ⟨h1, by rw [e, e1]; rfl, fun a g1 g2 g3 => by rw [f1 a g1 g2, set5_ne g3], s1⟩
theorem M_noShare {h : Mem} : f_X8_noShare 390 h = some ((), set5 h 398 (fun _ => 0)) := by
  unfold f_X8_noShare
  obtain ⟨z, hz⟩ := xFUs
  rw [← mu5, hz, li_0]
  unfold f_X8_noShare_2
  simp (disch := omega) only [li_5, li_1, xr_16, nI_leI, if_neg, nI_add, as_398, Nat.zero_add]
  unfold f_X8_noShare_2
  simp (disch := omega) only [li_5, li_1, xr_16, nI_leI, if_neg, nI_add, as_398, Nat.reduceAdd]
  unfold f_X8_noShare_2
  simp (disch := omega) only [li_5, li_1, xr_16, nI_leI, if_neg, nI_add, as_398, Nat.reduceAdd]
  unfold f_X8_noShare_2
  simp (disch := omega) only [li_5, li_1, xr_16, nI_leI, if_neg, nI_add, as_398, Nat.reduceAdd]
  unfold f_X8_noShare_2
  simp (disch := omega) only [li_5, li_1, xr_16, nI_leI, if_neg, nI_add, as_398, Nat.reduceAdd]
  unfold f_X8_noShare_2
  simp (disch := omega) only [li_5, nI_leI, if_pos]
  rfl
def memIx (cl : Cl) (key : Nat → Int32) : Int32 := if cl.1 0 = 0 then -4 else sbIx (cl.2 3) (fun k => key (1 + k)) (key 0)
theorem sbIx_congr {rows : List (List Int32)} {s s' : Nat → Int32} {g : Int32} (h : ∀ j, j < 4 → s j = s' j) : sbIx rows s g = sbIx rows s' g := by
  have e : sP rows s g = sP rows s' g := by
    funext i
    unfold sP sm4
    rw [h 0 (by omega), h 1 (by omega), h 2 (by omega), h 3 (by omega)]
  unfold sbIx
  rw [e]
theorem memIx_congr {cl : Cl} {s s' : Nat → Int32} (h : ∀ j, j < 5 → s j = s' j) : memIx cl s = memIx cl s' := by
  unfold memIx
  rw [h 0 (by omega), sbIx_congr (s := fun k => s (1 + k)) (s' := fun k => s' (1 + k)) (fun j hj => h (1 + j) (by omega))]
theorem M_memberOf {c : Nat} {cl : Cl} {h : Mem} (hc : c < 6) (R : RB (bk (h 391) c) cl) : f_X8_memberOf 390 (nI c) h = some (memIx cl (h 398), set4 h 401 (fun k => h 398 (1 + k))) := by
  have e : f_X8_memberOf 390 (nI c) h = b2 (f_X8_of 390 (nI c) (nI 0) (set4 h 401 (fun k => h 398 (1 + k)))) fun v2 h1 => if v2 = nI 0 then some ((-4 : Int32), h1) else ald h1 398 (nI 0) fun v3 => b2 (f_X8_subOf 391 (nI c) 401 v3 h1) fun v5 h4 => some (v5, h4) := by
    unfold f_X8_memberOf
    obtain ⟨z, hz⟩ := xFUs
    rw [← mu4, hz, li_0]
    unfold f_X8_memberOf_2
    simp (disch := omega) only [li_4, li_1, xr_16, xr_19, nI_leI, if_neg, nI_add, al_398, as_401, Nat.add_zero, Nat.zero_add]
    unfold f_X8_memberOf_2
    simp (disch := omega) only [li_4, li_1, xr_16, xr_19, nI_leI, if_neg, nI_add, al_398, as_401, mu_rdk, Nat.reduceAdd]
    unfold f_X8_memberOf_2
    simp (disch := omega) only [li_4, li_1, xr_16, xr_19, nI_leI, if_neg, nI_add, al_398, as_401, mu_rdk, Nat.reduceAdd]
    unfold f_X8_memberOf_2
    simp (disch := omega) only [li_4, li_1, xr_16, xr_19, nI_leI, if_neg, nI_add, al_398, as_401, mu_rdk, Nat.reduceAdd]
    unfold f_X8_memberOf_2
    simp (disch := omega) only [li_4, nI_leI, if_pos, xr_16, xr_19, xr_0, li_0, al_398]
  have R2 : RB (bk (set4 h 401 (fun k => h 398 (1 + k)) 391) c) cl := by rw [set4_ne (by omega)]; exact R
  have q0 : set4 h 401 (fun k => h 398 (1 + k)) 391 (308 + 961 * c + 0) = cl.1 0 := R2.1 0 (by omega) rfl
  rw [e, M_of hc (by omega), b2_some, q0]
  unfold memIx
  by_cases e0 : cl.1 0 = 0
  · rw [if_pos (show cl.1 0 = nI 0 from e0), if_pos e0]
  · rw [if_neg (show ¬ cl.1 0 = nI 0 from e0), if_neg e0, al_398 (by omega), M_subOf hc xl_391 (by rw [xl_401]; omega) R2, b2_some, set4_ne (show 398 ≠ 401 by omega)]
    rw [sbIx_congr (s := set4 h 401 (fun k => h 398 (1 + k)) 401) (s' := fun k => h 398 (1 + k)) (fun j hj => set4_in (s := fun k => h 398 (1 + k)) hj)]
def hPt (rows : List (List Int32)) (key : Nat → Int32) : Nat → Bool := fun i => smF (g5 (gr rows i)) 0 key 5 0
def hdIx (rows : List (List Int32)) (key : Nat → Int32) : Int32 := sIx (-4) (hPt rows key) rows.length 0
theorem M_hadOf_17 {rows : List (List Int32)} {h : Mem} (R : GTb (h 391) 7 92 6 36 rows) (kk : Nat → Int32 → Mem → Option (Int32 × Mem)) {i : Nat} (hi : i < rows.length) : ∀ (d k n : Nat) (s : Bool), k + d = 5 → d < n → f_X8_hadOf_17 kk n 390 (nI i) (bI s) (nI k) h = if (s && smF (g5 (gr rows i)) 0 (h 398) d k) = true then some (nI i, h) else kk 390 (nI (i + 1)) h := by
  obtain ⟨q1, q2, q3⟩ := R
  intro d
  induction d with
  | zero =>
    intro k n s h1 h2
    obtain ⟨n, rfl⟩ : ∃ z, n = z + 1 := ⟨n - 1, by omega⟩
    unfold f_X8_hadOf_17 smF
    simp (disch := omega) only [li_5, li_1, nI_leI, if_pos, bI_0, Bool.and_true, nI_add]
    cases s <;> rfl
  | succ d ih =>
    intro k n s h1 h2
    obtain ⟨n, rfl⟩ : ∃ z, n = z + 1 := ⟨n - 1, by omega⟩
    have z0 := ih (k + 1) n false (by omega) (by omega)
    have z1 := ih (k + 1) n true (by omega) (by omega)
    have r := q3 i k hi (by omega)
    unfold f_X8_hadOf_17 f_X8_hadOf_53 f_X8_hadOf_54 smF
    simp (disch := omega) only [li_5, li_1, li_92, li_6, xr_0, xr_16, nI_leI, if_neg, bI_0, nI_mul, nI_add, al_391, al_398, r]
    rw [Nat.zero_add]
    cases s
    · rw [if_pos rfl]
      exact z0
    · rw [if_neg (by decide)]
      by_cases e : g5 (gr rows i) k = h 398 k
      · rw [if_pos e]
        simp only [e, beq_self_eq_true, Bool.true_and]
        simp only [Bool.true_and] at z1
        exact z1
      · rw [if_neg e, beq_eq_false_iff_ne.mpr e]
        simp only [Bool.true_and, Bool.false_and]
        simp only [Bool.false_and] at z0
        exact z0
theorem M_hadOf_2 {rows : List (List Int32)} {h : Mem} (R : GTb (h 391) 7 92 6 36 rows) : ∀ (d k n : Nat), k + d = rows.length → d < n → f_X8_hadOf_2 n 390 (nI k) h = some (sIx (-4) (hPt rows (h 398)) d k, h) := by
  intro d
  induction d with
  | zero =>
    intro k n h1 h2
    obtain ⟨n, rfl⟩ : ∃ z, n = z + 1 := ⟨n - 1, by omega⟩
    have q1 := R.1
    have q2 := R.2.1
    unfold f_X8_hadOf_2 sIx
    simp (disch := omega) only [li_7, xr_0, al_391, q1, nI_leI, if_pos]
  | succ d ih =>
    intro k n h1 h2
    obtain ⟨n, rfl⟩ : ∃ z, n = z + 1 := ⟨n - 1, by omega⟩
    have q1 := R.1
    have q2 := R.2.1
    unfold f_X8_hadOf_2 sIx
    simp (disch := omega) only [li_7, xr_0, al_391, q1, nI_leI, if_neg]
    have z := M_hadOf_17 R (f_X8_hadOf_2 n) (i := k) (by omega) 5 0 xFU true (by omega) (by unfold xFU; omega)
    rw [Bool.true_and] at z
    refine Eq.trans z ?_
    unfold hPt
    cases e : smF (g5 (gr rows k)) 0 (h 398) 5 0
    · rw [if_neg (by decide), if_neg (by decide)]
      exact ih (k + 1) n (by omega) (by omega)
    · rw [if_pos rfl, if_pos rfl]
theorem M_hadOf {rows : List (List Int32)} {h : Mem} (R : GTb (h 391) 7 92 6 36 rows) : f_X8_hadOf 390 h = some (hdIx rows (h 398), h) := by
  have q2 := R.2.1
  exact M_hadOf_2 R _ 0 xFU (by omega) (by unfold xFU; omega)
theorem hdIx_congr {rows : List (List Int32)} {s s' : Nat → Int32} (h : ∀ j, j < 5 → s j = s' j) : hdIx rows s = hdIx rows s' := by
  have e : hPt rows s = hPt rows s' := by
    funext i
    unfold hPt
    simp only [smF, Nat.zero_add, Nat.reduceAdd]
    rw [h 0 (by omega), h 1 (by omega), h 2 (by omega), h 3 (by omega), h 4 (by omega)]
  unfold hdIx
  rw [e]
