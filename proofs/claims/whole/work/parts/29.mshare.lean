/-! the reference: shares -/
def set5 (h : Mem) (a : Nat) (s : Nat → Int32) : Mem := mA h a (fun j => if j < 5 then s j else h a j)
def set4 (h : Mem) (a : Nat) (s : Nat → Int32) : Mem := mA h a (fun j => if j < 4 then s j else h a j)
theorem set5_ne {h : Mem} {a b : Nat} {s : Nat → Int32} (e : b ≠ a) : set5 h a s b = h b := mA_ne e
theorem set4_ne {h : Mem} {a b : Nat} {s : Nat → Int32} (e : b ≠ a) : set4 h a s b = h b := mA_ne e
theorem set5_in {h : Mem} {a j : Nat} {s : Nat → Int32} (e : j < 5) : set5 h a s a j = s j := by
  unfold set5
  rw [mA_eq, if_pos e]
theorem set4_in {h : Mem} {a j : Nat} {s : Nat → Int32} (e : j < 4) : set4 h a s a j = s j := by
  unfold set4
  rw [mA_eq, if_pos e]
theorem mu5 {h : Mem} {a : Nat} {s : Nat → Int32} : mu (mu (mu (mu (mu h a 0 (s 0)) a 1 (s 1)) a 2 (s 2)) a 3 (s 3)) a 4 (s 4) = set5 h a s := by
  funext b
  by_cases e : b = a
  · subst e
    funext j
    by_cases e5 : j < 5
    · rw [set5_in e5]
      rcases (show j = 0 ∨ j = 1 ∨ j = 2 ∨ j = 3 ∨ j = 4 by omega) with rfl | rfl | rfl | rfl | rfl <;> simp (disch := omega) only [mu_rde, mu_rdn]
    · unfold set5
      rw [mA_eq, if_neg e5]
      simp (disch := omega) only [mu_rdn]
  · rw [set5_ne e]
    simp (disch := omega) only [mu_ne]
theorem mu4 {h : Mem} {a : Nat} {s : Nat → Int32} : mu (mu (mu (mu h a 0 (s 0)) a 1 (s 1)) a 2 (s 2)) a 3 (s 3) = set4 h a s := by
  funext b
  by_cases e : b = a
  · subst e
    funext j
    by_cases e5 : j < 4
    · rw [set4_in e5]
      rcases (show j = 0 ∨ j = 1 ∨ j = 2 ∨ j = 3 by omega) with rfl | rfl | rfl | rfl <;> simp (disch := omega) only [mu_rde, mu_rdn]
    · unfold set4
      rw [mA_eq, if_neg e5]
      simp (disch := omega) only [mu_rdn]
  · rw [set4_ne e]
    simp (disch := omega) only [mu_ne]
/-- the key of a subscription: group, levels -/
def skey (r : List Int32) : Nat → Int32 := fun k => if k = 0 then g5 r 5 else g5 r (k - 1)
def ahF (a b : Nat → Int32) : Nat → Nat → Bool
  | 0, _ => false
  | d + 1, k => if a k = b k then ahF a b d (k + 1) else decide (a k < b k)
def ahd (a b : Nat → Int32) : Bool := ahF a b 5 0
theorem ahF_congr {a b a' b' : Nat → Int32} : ∀ (d k : Nat), (∀ j, k ≤ j → j < k + d → a j = a' j ∧ b j = b' j) → ahF a b d k = ahF a' b' d k
  | 0, _, _ => rfl
  | d + 1, k, h => by
    unfold ahF
    rw [(h k (by omega) (by omega)).1, (h k (by omega) (by omega)).2, ahF_congr d (k + 1) (fun j h1 h2 => h j (by omega) (by omega))]
theorem ahd_congr {a b a' b' : Nat → Int32} (h : ∀ j, j < 5 → a j = a' j ∧ b j = b' j) : ahd a b = ahd a' b' := ahF_congr 5 0 (fun j _ h2 => h j (by omega))
theorem M_isAhead_2 {a b : Nat} {h : Mem} (ha : xln a = 5) (hb : xln b = 5) : ∀ (d k n : Nat), k + d = 5 → d < n → f_X8_isAhead_2 n a b (nI k) h = some (bI (ahF (h a) (h b) d k), h) := by
  intro d
  induction d with
  | zero =>
    intro k n h1 h2
    obtain ⟨n, rfl⟩ : ∃ z, n = z + 1 := ⟨n - 1, by omega⟩
    unfold f_X8_isAhead_2 f_X8_isAhead_22 ahF
    simp (disch := omega) only [li_5, nI_leI, if_pos]
    rfl
  | succ d ih =>
    intro k n h1 h2
    obtain ⟨n, rfl⟩ : ∃ z, n = z + 1 := ⟨n - 1, by omega⟩
    have z1 := ih (k + 1) n (by omega) (by omega)
    unfold f_X8_isAhead_2 f_X8_isAhead_22 ahF
    simp (disch := omega) only [li_5, li_1, nI_leI, if_neg, nI_add, ald_nI, z1]
    by_cases e : h a k = h b k
    · rw [if_pos e, if_pos e]
    · rw [if_neg e, if_neg e]
      by_cases e2 : h b k ≤ h a k
      · rw [if_pos e2, decide_eq_false (Int32.not_lt.mpr e2)]
        rfl
      · rw [if_neg e2, decide_eq_true (Int32.not_le.mp e2)]
        rfl
theorem M_isAhead {a b : Nat} {h : Mem} (ha : xln a = 5) (hb : xln b = 5) : f_X8_isAhead 390 a b h = some (bI (ahd (h a) (h b)), h) := M_isAhead_2 ha hb 5 0 xFU (by omega) (by unfold xFU; omega)
theorem M_takesShare {c i to : Nat} {cl : Cl} {h : Mem} (hc : c < 6) (R : RB (bk (h 391) c) cl) (hi : i < (cl.2 3).length) (ht : xln to = 5) (hto : to ≠ 391) : f_X8_takesShare 390 (nI c) (nI i) to h = some ((), set5 h to (skey (gr (cl.2 3) i))) := by
  have q2 := (R.2 3 rfl).2.1
  rw [tc_3] at q2
  have rr : ∀ j, j < 6 → h 391 (308 + 961 * c + (45 + 6 * i) + j) = g5 (gr (cl.2 3) i) j := fun j hj => by
    have z := (R.2 3 rfl).2.2 i j hi (by rw [tw_3]; omega)
    simp only [bk, tb_3, tw_3] at z
    rw [← z]
    congr 1
    omega
  have r0 := rr 0 (by omega)
  have r1 := rr 1 (by omega)
  have r2 := rr 2 (by omega)
  have r3 := rr 3 (by omega)
  have r5 := rr 5 (by omega)
  obtain ⟨z, hz⟩ := xFUs
  unfold f_X8_takesShare
  rw [hz]
  simp (disch := omega) only [li_45, li_6, li_5, li_0, nI_mul, nI_add, M_at, b2_some, xr_0, al_391, ast_nI, r5]
  unfold f_X8_takesShare_28
  simp (disch := omega) only [li_4, li_1, xr_0, nI_leI, if_neg, nI_add, al_391, ast_nI, mu_rdk, r0, Nat.add_zero, Nat.zero_add]
  unfold f_X8_takesShare_28
  simp (disch := omega) only [li_4, li_1, xr_0, nI_leI, if_neg, nI_add, al_391, ast_nI, mu_rdk, r0, r1, Nat.add_zero, Nat.reduceAdd]
  unfold f_X8_takesShare_28
  simp (disch := omega) only [li_4, li_1, xr_0, nI_leI, if_neg, nI_add, al_391, ast_nI, mu_rdk, r0, r2, Nat.add_zero, Nat.reduceAdd]
  unfold f_X8_takesShare_28
  simp (disch := omega) only [li_4, li_1, xr_0, nI_leI, if_neg, nI_add, al_391, ast_nI, mu_rdk, r0, r3, Nat.add_zero, Nat.reduceAdd]
  unfold f_X8_takesShare_28
  simp (disch := omega) only [li_4, nI_leI, if_pos]
  rw [← mu5]
  have r0' : h 391 (308 + 961 * c + (45 + 6 * i)) = g5 (gr (cl.2 3) i) 0 := r0
  rw [r0']
  rfl
def nsS (beh : Nat → Int32) (s : Bool × (Nat → Int32)) (r : List Int32) : Bool × (Nat → Int32) :=
  if (decide (0 < g5 r 5) && ahd beh (skey r) && (!s.1 || ahd (skey r) s.2)) = true then (true, skey r) else s
def nsC (beh : Nat → Int32) (s : Bool × (Nat → Int32)) (cl : Cl) : Bool × (Nat → Int32) := if cl.1 0 = 0 then s else (cl.2 3).foldl (nsS beh) s
def nsF (beh : Nat → Int32) (cls : Nat → Cl) : Nat → Nat → Bool × (Nat → Int32) → Bool × (Nat → Int32)
  | 0, _, s => s
  | d + 1, c, s => nsF beh cls d (c + 1) (nsC beh s (cls c))
def nsA (cls : Nat → Cl) (sh : Nat → Int32) : Bool × (Nat → Int32) := nsF sh cls 6 0 (false, sh)
theorem drop_gr (rows : List (List Int32)) (k : Nat) (hk : k < rows.length) : rows.drop k = gr rows k :: rows.drop (k + 1) := by
  rw [List.drop_eq_getElem_cons hk]
  simp [gr, List.getD, List.getElem?_eq_getElem hk]
theorem M_ns37 {c : Nat} {cl : Cl} {beh : Nat → Int32} (hc : c < 6) (kk : Nat → Int32 → Int32 → Mem → Option (Int32 × Mem)) (h0 : ¬ cl.1 0 = 0) : ∀ (d k n : Nat) (s : Bool × (Nat → Int32)) (h : Mem), k + d = (cl.2 3).length → d < n → RB (bk (h 391) c) cl → (∀ j, j < 5 → h 400 j = beh j) → (∀ j, j < 5 → h 398 j = s.2 j) →
    ∃ h', f_X8_nextShare_37 kk n 390 (bI s.1) (nI c) (nI k) h = kk 390 (bI (((cl.2 3).drop k).foldl (nsS beh) s).1) (nI (c + 1)) h' ∧ (∀ a, a ≠ 398 → a ≠ 399 → h' a = h a) ∧ ∀ j, j < 5 → h' 398 j = (((cl.2 3).drop k).foldl (nsS beh) s).2 j := by
  intro d
  induction d with
  | zero =>
    intro k n s h h1 h2 R hb hs
    obtain ⟨n, rfl⟩ : ∃ z, n = z + 1 := ⟨n - 1, by omega⟩
    have q0 : h 391 (308 + 961 * c + 0) = cl.1 0 := R.1 0 (by omega) rfl
    have q1 : h 391 (308 + 961 * c + 3) = nI (cl.2 3).length := (R.2 3 rfl).1
    have q2 := (R.2 3 rfl).2.1
    rw [tc_3] at q2
    refine ⟨h, ?_, fun _ _ _ => rfl, ?_⟩
    · unfold f_X8_nextShare_37 f_X8_nextShare_127
      rw [li_0, M_of hc (by omega), b2_some, q0, if_neg (show ¬ cl.1 0 = nI 0 from h0)]
      simp (disch := omega) only [li_3, li_1, M_of, b2_some, q1, nI_leI, if_pos, nI_add]
      rw [List.drop_eq_nil_of_le (by omega)]
      rfl
    · rw [List.drop_eq_nil_of_le (by omega)]
      exact hs
  | succ d ih =>
    intro k n s h h1 h2 R hb hs
    obtain ⟨n, rfl⟩ : ∃ z, n = z + 1 := ⟨n - 1, by omega⟩
    have q0 : h 391 (308 + 961 * c + 0) = cl.1 0 := R.1 0 (by omega) rfl
    have q1 : h 391 (308 + 961 * c + 3) = nI (cl.2 3).length := (R.2 3 rfl).1
    have q2 := (R.2 3 rfl).2.1
    rw [tc_3] at q2
    have key : ∃ h1, f_X8_nextShare_37 kk (n + 1) 390 (bI s.1) (nI c) (nI k) h = f_X8_nextShare_37 kk n 390 (bI (nsS beh s (gr (cl.2 3) k)).1) (nI c) (nI (k + 1)) h1 ∧ (∀ a, a ≠ 398 → a ≠ 399 → h1 a = h a) ∧ ∀ j, j < 5 → h1 398 j = (nsS beh s (gr (cl.2 3) k)).2 j := by
      have eA : ahd (set5 h 399 (skey (gr (cl.2 3) k)) 400) (set5 h 399 (skey (gr (cl.2 3) k)) 399) = ahd beh (skey (gr (cl.2 3) k)) := ahd_congr (fun j hj => ⟨by rw [set5_ne (by omega)]; exact hb j hj, set5_in hj⟩)
      have eB : ahd (set5 h 399 (skey (gr (cl.2 3) k)) 399) (set5 h 399 (skey (gr (cl.2 3) k)) 398) = ahd (skey (gr (cl.2 3) k)) s.2 := ahd_congr (fun j hj => ⟨set5_in hj, by rw [set5_ne (by omega)]; exact hs j hj⟩)
      have e0 : set5 h 399 (skey (gr (cl.2 3) k)) 399 0 = g5 (gr (cl.2 3) k) 5 := set5_in (by omega)
      have R2 : RB (bk (set5 h 399 (skey (gr (cl.2 3) k)) 391) c) cl := by rw [set5_ne (by omega)]; exact R
      have hT := M_takesShare (to := 398) hc R2 (i := k) (by omega) xl_398 (by omega)
      have hno : ∃ h1, f_X8_nextShare_37 kk n 390 (bI s.1) (nI c) (nI (k + 1)) (set5 h 399 (skey (gr (cl.2 3) k))) = f_X8_nextShare_37 kk n 390 (bI s.1) (nI c) (nI (k + 1)) h1 ∧ (∀ a, a ≠ 398 → a ≠ 399 → h1 a = h a) ∧ ∀ j, j < 5 → h1 398 j = s.2 j := ⟨_, rfl, fun a _ g2 => set5_ne g2, fun j hj => by rw [set5_ne (by omega)]; exact hs j hj⟩
      have hyes : ∃ h1, b2 (f_X8_takesShare 390 (nI c) (nI k) 398 (set5 h 399 (skey (gr (cl.2 3) k)))) (fun _ h1 => f_X8_nextShare_37 kk n 390 (nI 1) (nI c) (nI (k + 1)) h1) = f_X8_nextShare_37 kk n 390 (bI true) (nI c) (nI (k + 1)) h1 ∧ (∀ a, a ≠ 398 → a ≠ 399 → h1 a = h a) ∧ ∀ j, j < 5 → h1 398 j = skey (gr (cl.2 3) k) j := ⟨_, by rw [hT, b2_some]; rfl, fun a g1 g2 => by rw [set5_ne g1, set5_ne g2], fun j hj => set5_in hj⟩
      unfold nsS
      rw [show f_X8_nextShare_37 kk (n + 1) 390 (bI s.1) (nI c) (nI k) h = (if g5 (gr (cl.2 3) k) 5 ≤ 0 then f_X8_nextShare_37 kk n 390 (bI s.1) (nI c) (nI (k + 1)) (set5 h 399 (skey (gr (cl.2 3) k))) else if ahd beh (skey (gr (cl.2 3) k)) = false then f_X8_nextShare_37 kk n 390 (bI s.1) (nI c) (nI (k + 1)) (set5 h 399 (skey (gr (cl.2 3) k))) else if s.1 = false then b2 (f_X8_takesShare 390 (nI c) (nI k) 398 (set5 h 399 (skey (gr (cl.2 3) k)))) (fun _ h1 => f_X8_nextShare_37 kk n 390 (nI 1) (nI c) (nI (k + 1)) h1) else if ahd (skey (gr (cl.2 3) k)) s.2 = false then f_X8_nextShare_37 kk n 390 (bI s.1) (nI c) (nI (k + 1)) (set5 h 399 (skey (gr (cl.2 3) k))) else b2 (f_X8_takesShare 390 (nI c) (nI k) 398 (set5 h 399 (skey (gr (cl.2 3) k)))) (fun _ h1 => f_X8_nextShare_37 kk n 390 (nI 1) (nI c) (nI (k + 1)) h1)) by
        rw [f_X8_nextShare_37]
        unfold f_X8_nextShare_121 f_X8_nextShare_109 f_X8_nextShare_121
        rw [li_0, M_of hc (by omega), b2_some, q0, if_neg (show ¬ cl.1 0 = nI 0 from h0)]
        simp (disch := omega) only [li_3, li_1, M_of, b2_some, q1, nI_leI, if_neg, nI_add, xr_16, xr_17, xr_18, M_takesShare hc R (show k < (cl.2 3).length by omega) xl_399 (by omega), al_399, e0, M_isAhead xl_400 xl_399, M_isAhead xl_399 xl_398, eA, eB, bI_n0]]
      by_cases g0 : g5 (gr (cl.2 3) k) 5 ≤ 0
      · rw [if_pos g0, if_neg (by simp [Int32.not_lt.mpr g0])]
        exact hno
      · rw [if_neg g0]
        have g0' := Int32.not_le.mp g0
        cases eA2 : ahd beh (skey (gr (cl.2 3) k))
        · rw [if_pos rfl, if_neg (by simp)]
          exact hno
        · rw [if_neg (by decide)]
          cases es : s.1
          · rw [if_pos rfl, if_pos (by simp [g0'])]
            exact hyes
          · rw [if_neg (by decide)]
            cases eB2 : ahd (skey (gr (cl.2 3) k)) s.2
            · rw [if_pos rfl, if_neg (by simp)]
              rw [es] at hno ⊢
              exact hno
            · rw [if_neg (by decide), if_pos (by simp [g0'])]
              exact hyes
    obtain ⟨h3, e3, f3, s3⟩ := key
    obtain ⟨h4, e4, f4, s4⟩ := ih (k + 1) n (nsS beh s (gr (cl.2 3) k)) h3 (by omega) (by omega) (by rw [f3 391 (by omega) (by omega)]; exact R) (fun j hj => by rw [f3 400 (by omega) (by omega)]; exact hb j hj) s3
    rw [drop_gr _ k (by omega)]
    exact ⟨h4, by rw [e3, e4]; rfl, fun a g1 g2 => (f4 a g1 g2).trans (f3 a g1 g2), s4⟩
