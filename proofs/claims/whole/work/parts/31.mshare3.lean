theorem mod6 : ∀ x, x < 12 → nI x - nI x / nI 6 * nI 6 = nI (x % 6) := by decide +kernel
def tPt (cls : Nat → Cl) (key : Nat → Int32) (fr : Nat) (s : Int32) (k : Nat) : Bool := (cls ((fr + k) % 6)).1 0 == s && !(memIx (cls ((fr + k) % 6)) key == -4)
def tuF (cls : Nat → Cl) (key : Nat → Int32) (fr : Nat) (s : Int32) : Nat → Nat → Int32
  | 0, _ => -4
  | d + 1, k => if tPt cls key fr s k = true then nI ((fr + k) % 6) else tuF cls key fr s d (k + 1)
def tuA (cls : Nat → Cl) (key : Nat → Int32) (fr : Nat) (s : Int32) : Int32 := tuF cls key fr s 6 1
theorem M_turnOf_2 {cls : Nat → Cl} {key : Nat → Int32} {fr : Nat} (hf : fr < 6) (s : Int32) : ∀ (d k n : Nat) (h : Mem), k + d = 7 → d < n → RA h cls → h 398 = key →
    ∃ h', f_X8_turnOf_2 n 390 (nI fr) s (nI k) h = some (tuF cls key fr s d k, h') ∧ ∀ a, a ≠ 401 → h' a = h a := by
  intro d
  induction d with
  | zero =>
    intro k n h h1 h2 R hk
    obtain ⟨n, rfl⟩ : ∃ z, n = z + 1 := ⟨n - 1, by omega⟩
    refine ⟨h, ?_, fun _ _ => rfl⟩
    unfold f_X8_turnOf_2 tuF
    simp (disch := omega) only [li_6, nI_ltI, if_pos]
  | succ d ih =>
    intro k n h h1 h2 R hk
    obtain ⟨n, rfl⟩ : ∃ z, n = z + 1 := ⟨n - 1, by omega⟩
    have hc : (fr + k) % 6 < 6 := Nat.mod_lt _ (by omega)
    have Rc := R _ hc
    have q0 : h 391 (308 + 961 * ((fr + k) % 6) + 0) = (cls ((fr + k) % 6)).1 0 := Rc.1 0 (by omega) rfl
    unfold tuF tPt
    unfold f_X8_turnOf_2 f_X8_turnOf_41
    rw [li_0]
    simp (disch := omega) only [li_6, li_1, nI_ltI, if_neg, nI_add, mod6, M_of, b2_some, q0]
    by_cases e : (cls ((fr + k) % 6)).1 0 = s
    · rw [if_pos e, M_memberOf hc Rc, b2_some, hk, e]
      by_cases e2 : memIx (cls ((fr + k) % 6)) key = -4
      · rw [if_pos e2, e2]
        obtain ⟨h3, e3, f3⟩ := ih (k + 1) n (set4 h 401 (fun k => key (1 + k))) (by omega) (by omega) (fun i hi => by rw [set4_ne (by omega)]; exact R i hi) (by rw [set4_ne (by omega)]; exact hk)
        refine ⟨h3, by rw [e3]; simp, fun a ha => by rw [f3 a ha, set4_ne ha]⟩
      · rw [if_neg e2]
        exact ⟨set4 h 401 (fun k => key (1 + k)), by simp [e2], fun a ha => set4_ne ha⟩
    · rw [if_neg e, beq_eq_false_iff_ne.mpr e, Bool.false_and, if_neg (by decide)]
      exact ih (k + 1) n h (by omega) (by omega) R hk
theorem M_turnOf {cls : Nat → Cl} {fr : Nat} {h : Mem} (hf : fr < 6) (s : Int32) (R : RA h cls) : ∃ h', f_X8_turnOf 390 (nI fr) s h = some (tuA cls (h 398) fr s, h') ∧ ∀ a, a ≠ 401 → h' a = h a := M_turnOf_2 hf s 6 1 xFU h (by omega) (by unfold xFU; omega) R rfl
/-- mtc of a row -/
theorem mtF_congr {f f' t t' : Nat → Int32} {b b' : Nat} : ∀ (d k : Nat), (∀ j, k ≤ j → j < k + d → f (b + j) = f' (b' + j) ∧ t j = t' j) → mtF f b t d k = mtF f' b' t' d k
  | 0, _, _ => rfl
  | d + 1, k, h => by
    unfold mtF
    rw [(h k (by omega) (by omega)).1, (h k (by omega) (by omega)).2, mtF_congr d (k + 1) (fun j h1 h2 => h j (by omega) (by omega))]
def mtr (r : List Int32) (t : Nat → Int32) : Bool := mtc (g5 r) 0 t
theorem mtc_row {c i : Nat} {cl : Cl} {h : Mem} {t : Nat → Int32} (R : RB (bk (h 391) c) cl) (hi : i < (cl.2 3).length) : mtc (h 391) (308 + 961 * c + (45 + 6 * i)) t = mtr (gr (cl.2 3) i) t := by
  refine mtF_congr 4 0 (fun j _ hj => ⟨?_, rfl⟩)
  have z := (R.2 3 rfl).2.2 i j hi (by rw [tw_3]; omega)
  simp only [bk, tb_3, tw_3] at z
  rw [Nat.zero_add, ← z]
  congr 1
  omega
theorem mtr_congr {r : List Int32} {t t' : Nat → Int32} (h : ∀ j, j < 4 → t j = t' j) : mtr r t = mtr r t' := mtF_congr 4 0 (fun j _ hj => ⟨rfl, h j (by omega)⟩)
def ismF (cls : Nat → Cl) (key t : Nat → Int32) : Nat → Nat → Bool
  | 0, _ => false
  | d + 1, c => if memIx (cls c) key = -4 then ismF cls key t d (c + 1) else mtr (gr ((cls c).2 3) (memIx (cls c) key).toNatClampNeg) t
theorem memIx_in {cl : Cl} {key : Nat → Int32} (h : ¬ memIx cl key = -4) : ∃ j, j < (cl.2 3).length ∧ memIx cl key = nI j ∧ sP (cl.2 3) (fun k => key (1 + k)) (key 0) j = true := by
  unfold memIx at h ⊢
  by_cases e : cl.1 0 = 0
  · rw [if_pos e] at h
    exact absurd rfl h
  · rw [if_neg e] at h ⊢
    unfold sbIx at h ⊢
    rcases sIx_spec (-4) (sP (cl.2 3) (fun k => key (1 + k)) (key 0)) (cl.2 3).length 0 with ⟨e2, -⟩ | ⟨j, h1, h2, h3, h4, h5⟩
    · exact absurd e2 h
    · exact ⟨j, by omega, h3, h4⟩
theorem M_ism_2 {cls : Nat → Cl} {key : Nat → Int32} {a : Nat} (ha : xln a = 4) (ha1 : a ≠ 401) (t : Nat → Int32) : ∀ (d c n : Nat) (h : Mem), c + d = 6 → d < n → RA h cls → h 398 = key → h a = t →
    ∃ h', f_X8_isShareMatching_2 n 390 a (nI c) h = some (bI (ismF cls key t d c), h') ∧ ∀ b, b ≠ 401 → h' b = h b := by
  intro d
  induction d with
  | zero =>
    intro c n h h1 h2 R hk ht
    obtain ⟨n, rfl⟩ : ∃ z, n = z + 1 := ⟨n - 1, by omega⟩
    refine ⟨h, ?_, fun _ _ => rfl⟩
    unfold f_X8_isShareMatching_2 ismF
    simp (disch := omega) only [li_6, nI_leI, if_pos]
    rfl
  | succ d ih =>
    intro c n h h1 h2 R hk ht
    obtain ⟨n, rfl⟩ : ∃ z, n = z + 1 := ⟨n - 1, by omega⟩
    have Rc := R c (by omega)
    have q2 := (Rc.2 3 rfl).2.1
    rw [tc_3] at q2
    unfold ismF
    unfold f_X8_isShareMatching_2
    simp (disch := omega) only [li_6, li_1, nI_leI, if_neg, nI_add]
    rw [M_memberOf (by omega) Rc, b2_some, hk]
    by_cases e2 : memIx (cls c) key = -4
    · rw [if_pos e2, if_pos e2]
      obtain ⟨h3, e3, f3⟩ := ih (c + 1) n (set4 h 401 (fun k => key (1 + k))) (by omega) (by omega) (fun i hi => by rw [set4_ne (by omega)]; exact R i hi) (by rw [set4_ne (by omega)]; exact hk) (by rw [set4_ne ha1]; exact ht)
      exact ⟨h3, e3, fun b hb => by rw [f3 b hb, set4_ne hb]⟩
    · obtain ⟨j, j1, j2, -⟩ := memIx_in e2
      rw [if_neg e2, if_neg e2, j2, nI_clamp (by omega)]
      have R2 : RB (bk (set4 h 401 (fun k => key (1 + k)) 391) c) (cls c) := by rw [set4_ne (by omega)]; exact Rc
      simp (disch := omega) only [li_45, nI_mul, nI_add, M_at, b2_some]
      rw [M_isMatching (by omega) (by omega) (by omega), b2_some, zg_b, mtc_row R2 j1, set4_ne ha1, ht]
      exact ⟨_, rfl, fun b hb => set4_ne hb⟩
theorem M_ism {cls : Nat → Cl} {a : Nat} {h : Mem} (ha : xln a = 4) (ha1 : a ≠ 401) (R : RA h cls) : ∃ h', f_X8_isShareMatching 390 a h = some (bI (ismF cls (h 398) (h a) 6 0), h') ∧ ∀ b, b ≠ 401 → h' b = h b := M_ism_2 ha ha1 (h a) 6 0 xFU h (by omega) (by unfold xFU; omega) R rfl rfl
/-- somebody is a member -/
def amF (cls : Nat → Cl) (key : Nat → Int32) : Nat → Nat → Bool
  | 0, _ => false
  | d + 1, c => !(memIx (cls c) key == -4) || amF cls key d (c + 1)
def amA (cls : Nat → Cl) (key : Nat → Int32) : Bool := amF cls key 6 0
/-- the widest promise of those that match -/
def wdS (t : Nat → Int32) (b : Int32) (r : List Int32) : Int32 := if (g5 r 5 == 0 && mtr r t && decide (b < g5 r 4)) = true then g5 r 4 else b
def wdA (cl : Cl) (t : Nat → Int32) : Int32 := (cl.2 3).foldl (wdS t) (-4)
theorem M_widest_6 {c a : Nat} {cl : Cl} {h : Mem} (hc : c < 6) (ha : xln a = 4) (R : RB (bk (h 391) c) cl) : ∀ (d k n : Nat) (b : Int32), k + d = (cl.2 3).length → d < n → f_X8_widest_6 n 390 (nI c) a b (nI k) h = some (((cl.2 3).drop k).foldl (wdS (h a)) b, h) := by
  have q1 : h 391 (308 + 961 * c + 3) = nI (cl.2 3).length := (R.2 3 rfl).1
  have q2 := (R.2 3 rfl).2.1
  rw [tc_3] at q2
  intro d
  induction d with
  | zero =>
    intro k n b h1 h2
    obtain ⟨n, rfl⟩ : ∃ z, n = z + 1 := ⟨n - 1, by omega⟩
    unfold f_X8_widest_6
    simp (disch := omega) only [li_3, M_of, b2_some, q1, nI_leI, if_pos]
    rw [List.drop_eq_nil_of_le (by omega)]
    rfl
  | succ d ih =>
    intro k n b h1 h2
    obtain ⟨n, rfl⟩ : ∃ z, n = z + 1 := ⟨n - 1, by omega⟩
    have rr : ∀ j, j < 6 → h 391 (308 + 961 * c + (45 + 6 * k) + j) = g5 (gr (cl.2 3) k) j := fun j hj => by
      have z := (R.2 3 rfl).2.2 k j (by omega) (by rw [tw_3]; omega)
      simp only [bk, tb_3, tw_3] at z
      rw [← z]
      congr 1
      omega
    have r4 := rr 4 (by omega)
    have r5 := rr 5 (by omega)
    have hm := mtc_row (t := h a) R (show k < (cl.2 3).length by omega)
    rw [drop_gr _ k (by omega), List.foldl_cons]
    unfold f_X8_widest_6 f_X8_widest_78 f_X8_widest_79
    simp (disch := omega) only [li_3, li_45, li_6, li_5, li_4, li_1, M_of, M_at, b2_some, q1, nI_leI, if_neg, nI_mul, nI_add, xr_0, al_391, r5, r4, M_isMatching, hm, bI_0]
    have z := fun b' => ih (k + 1) n b' (by omega) (by omega)
    unfold wdS
    by_cases e5 : g5 (gr (cl.2 3) k) 5 = 0
    · rw [if_pos e5]
      cases em : mtr (gr (cl.2 3) k) (h a)
      · rw [if_pos rfl, if_neg (by simp)]
        exact z b
      · rw [if_neg (by decide)]
        by_cases e4 : g5 (gr (cl.2 3) k) 4 ≤ b
        · rw [if_pos e4, if_neg (by simp [Int32.not_lt.mpr e4])]
          exact z b
        · rw [if_neg e4, if_pos (by simp [e5, Int32.not_le.mp e4])]
          exact z _
    · rw [if_neg e5, if_neg (by simp [e5])]
      exact z b
theorem M_widest {c a : Nat} {cl : Cl} {h : Mem} (hc : c < 6) (ha : xln a = 4) (R : RB (bk (h 391) c) cl) : f_X8_widest 390 (nI c) a h = some (wdA cl (h a), h) := by
  have q2 := (R.2 3 rfl).2.1
  rw [tc_3] at q2
  have z := M_widest_6 hc ha R (cl.2 3).length 0 xFU (-4) (by omega) (by unfold xFU; omega)
  rw [List.drop_zero] at z
  exact z
