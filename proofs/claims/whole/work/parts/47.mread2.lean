/-! the reference: kept, had, subscription, client, rule -/
/-- the levels of a path -/
def lvF (f : Nat → Int32) : Nat → Nat → Nat
  | 0, k => k
  | d + 1, k => if f k ≤ 0 then k else lvF f d (k + 1)
def lvs (r : List Int32) : Nat := lvF (g5 r) 4 0
theorem M_lv2 {b : Nat} {h : Mem} {r : List Int32} (hb : b + 4 ≤ 6074) (hr : ∀ j, j < 4 → h 391 (b + j) = g5 r j) : ∀ (d k n : Nat), k + d = 4 → d < n → f_X8_levelsOf_2 n 391 (nI b) (nI k) h = some (nI (lvF (g5 r) d k), h) := by
  intro d
  induction d with
  | zero =>
    intro k n h1 h2
    obtain ⟨n, rfl⟩ : ∃ z, n = z + 1 := ⟨n - 1, by omega⟩
    unfold f_X8_levelsOf_2 lvF
    simp (disch := omega) only [li_4, nI_leI, if_pos]
  | succ d ih =>
    intro k n h1 h2
    obtain ⟨n, rfl⟩ : ∃ z, n = z + 1 := ⟨n - 1, by omega⟩
    have e := hr k (by omega)
    have z := ih (k + 1) n (by omega) (by omega)
    unfold f_X8_levelsOf_2 lvF
    simp (disch := omega) only [li_4, li_1, nI_leI, if_neg, nI_add, al_391, e]
    by_cases e2 : g5 r k ≤ 0
    · rw [if_pos e2, if_pos e2]
    · rw [if_neg e2, if_neg e2]
      exact z
theorem M_levelsOf {b : Nat} {h : Mem} {r : List Int32} (hb : b + 4 ≤ 6074) (hr : ∀ j, j < 4 → h 391 (b + j) = g5 r j) : f_X8_levelsOf 391 (nI b) h = some (nI (lvs r), h) := by
  unfold f_X8_levelsOf
  rw [li_0]
  exact M_lv2 hb hr 4 0 xFU (by omega) (by unfold xFU; omega)
def O_kept (T : Top) (i f : Int32) : Int32 × Top :=
  if i < 0 ∨ inR f 0 7 = false then (-1, T)
  else if i.toNatClampNeg < (T.1.2.1 6).length then (if f = 0 then nI (lvs (gr (T.1.2.1 6) i.toNatClampNeg)) else if 4 ≤ f then g5 (gr (T.1.2.1 6) i.toNatClampNeg) (f.toNatClampNeg - 4) else g5 (gr (T.1.2.1 6) i.toNatClampNeg) (3 + f.toNatClampNeg), T)
  else (-4, T)
theorem M_kept (T : Top) (i f : Int32) : MO (f_X8_kept 390 i f) (fun T => O_kept T i f) T := by
  intro h R
  unfold f_X8_kept O_kept
  have same : ∀ r : Int32, Tr (some (r, h)) (fun r' h' => r' = r ∧ RMo h' T ∧ ∀ a, a < 390 → h' a = h a) := fun r => wR ⟨rfl, R, fun _ _ => rfl⟩
  rw [lo_0, lo_7]
  simp only [M_in, bI_0, b2_some]
  by_cases e2 : i < 0
  · rw [if_pos e2, if_pos (Or.inl e2)]
    exact same _
  cases e3 : inR f 0 7
  · rw [if_neg e2, if_pos rfl, if_pos (Or.inr rfl)]
    exact same _
  rw [if_neg e2, if_neg (show ¬ true = false by decide), if_neg (show ¬ (i < 0 ∨ true = false) by simpa using e2)]
  obtain ⟨j, hj, rfl⟩ := nI_nn e2
  obtain ⟨m, hm, rfl⟩ := inR_ex (b := 7) (by omega) e3
  obtain ⟨q1, q2, q3⟩ := R.1.2.2.1
  have m0 : nI m = 0 ↔ m = 0 := by rw [li_0, nI_eq (by omega) (by omega)]
  have m4 : 4 ≤ nI m ↔ 4 ≤ m := by rw [li_4, nI_leI (by omega) (by omega)]
  rw [nI_clamp hj, nI_clamp (show m < 2 ^ 31 by omega), xr_0, li_6, al_391 (by omega), q1]
  by_cases e4 : nI j < nI (T.1.2.1 6).length
  · rw [if_pos e4]
    rw [nI_ltI hj (by omega)] at e4
    rw [if_pos e4]
    by_cases e5 : nI m = 0
    · rw [if_pos e5, if_pos e5]
      have o : f_X8_levelsOf 391 (8 + 7 * nI j) h = some (nI (lvs (gr (T.1.2.1 6) j)), h) := by
        rw [li_8, li_7, nI_mul, nI_add]
        exact M_levelsOf (by omega) (fun k hk => q3 j k e4 (by omega))
      rw [o, b2_some]
      exact same _
    · rw [if_neg e5, if_neg e5]
      rw [m0] at e5
      by_cases e6 : 4 ≤ nI m
      · rw [if_pos e6, if_pos e6]
        rw [m4] at e6
        have z := q3 j (m - 4) e4 (by omega)
        have e8 : 8 + 7 * nI j + nI m - 4 = nI (8 + 7 * j + (m - 4)) := by
          simp (disch := omega) only [li_8, li_7, li_4, nI_mul, nI_add, nI_subP]
          congr 1
          omega
        rw [e8, al_391 (by omega), z]
        exact same _
      · rw [if_neg e6, if_neg e6]
        rw [m4] at e6
        have z := q3 j (3 + m) e4 (by omega)
        have e8 : 8 + 7 * nI j + 3 + nI m = nI (8 + 7 * j + (3 + m)) := by
          simp (disch := omega) only [li_8, li_7, li_3, nI_mul, nI_add]
          congr 1
          omega
        rw [e8, al_391 (by omega), z]
        exact same _
  · rw [if_neg e4]
    rw [nI_ltI hj (by omega)] at e4
    rw [if_neg e4]
    exact same _
def hkey (g : Int32) (row : List Int32) : Nat → Int32 := fun j => if j = 0 then g else g5 row (j - 1)
def O_had (T : Top) (g : Int32) : Int32 × Top :=
  if inR g 1 3 = false then (-1, T)
  else if hdIx (T.1.2.1 7) (hkey g T.2.1) = -4 then (-4, T)
  else (g5 (gr (T.1.2.1 7) (hdIx (T.1.2.1 7) (hkey g T.2.1)).toNatClampNeg) 5, T)
theorem M_had23 {T : Top} {h0 : Mem} (R : RMo h0 T) (g : Int32) : ∀ (d k n : Nat) (h : Mem), k + d = 4 → d < n → (∀ a, a ≠ 398 → h a = h0 a) → (∀ j, j < k + 1 → h 398 j = hkey g T.2.1 j) → ∃ h', (∀ a, a ≠ 398 → h' a = h0 a) ∧ f_X8_had_23 n 390 (nI k) h = some ((if hdIx (T.1.2.1 7) (hkey g T.2.1) = -4 then (-4, T) else (g5 (gr (T.1.2.1 7) (hdIx (T.1.2.1 7) (hkey g T.2.1)).toNatClampNeg) 5, T)).1, h') := by
  intro d
  induction d with
  | zero =>
    intro k n h h1 h2 h3 h4
    obtain ⟨n, rfl⟩ : ∃ z, n = z + 1 := ⟨n - 1, by omega⟩
    have T7 : GTb (h 391) 7 92 6 36 (T.1.2.1 7) := by rw [h3 391 (by omega)]; exact R.1.2.2.2.1
    refine ⟨h, h3, ?_⟩
    have e4 : (4 : Int32) ≤ nI k := by rw [li_4, nI_leI (by omega) (by omega)]; omega
    unfold f_X8_had_23
    rw [if_pos e4, M_hadOf T7, b2_some, hdIx_congr (fun j hj => h4 j (by omega))]
    by_cases e : hdIx (T.1.2.1 7) (hkey g T.2.1) = -4
    · rw [if_pos e, if_pos e]
    · rw [if_neg e, if_neg e]
      rcases sIx_spec (-4) (hPt (T.1.2.1 7) (hkey g T.2.1)) (T.1.2.1 7).length 0 with ⟨e3, -⟩ | ⟨j, hj0, hj, e3, -, -⟩
      · exact absurd e3 e
      · have e5 : hdIx (T.1.2.1 7) (hkey g T.2.1) = nI j := e3
        have q2 := T7.2.1
        have z := T7.2.2 j 5 (by omega) (by omega)
        rw [e5, nI_clamp (by omega)]
        simp (disch := omega) only [li_92, li_6, li_5, xr_0, nI_mul, nI_add, al_391, z]
  | succ d ih =>
    intro k n h h1 h2 h3 h4
    obtain ⟨n, rfl⟩ : ∃ z, n = z + 1 := ⟨n - 1, by omega⟩
    have e5 : h 390 5 = nI T.2.1.length := by rw [h3 390 (by omega)]; exact R.2.1.1
    have l4 := R.2.1.2.1
    have st : ∀ v, v = g5 T.2.1 k → ∃ h', (∀ a, a ≠ 398 → h' a = h0 a) ∧ f_X8_had_23 n 390 (nI (k + 1)) (mu h 398 (1 + k) v) = some ((if hdIx (T.1.2.1 7) (hkey g T.2.1) = -4 then (-4, T) else (g5 (gr (T.1.2.1 7) (hdIx (T.1.2.1 7) (hkey g T.2.1)).toNatClampNeg) 5, T)).1, h') := by
      intro v hv
      refine ih (k + 1) n _ (by omega) (by omega) (fun a ha => by rw [mu_ne ha, h3 a ha]) (fun j hj => ?_)
      by_cases e : j = 1 + k
      · rw [mu_rde e, hv, e]
        unfold hkey
        rw [if_neg (by omega), Nat.add_sub_cancel_left]
      · rw [mu_rdn e, h4 j (by omega)]
    have e4 : ¬ (4 : Int32) ≤ nI k := by rw [li_4, nI_leI (by omega) (by omega)]; omega
    unfold f_X8_had_23 f_X8_had_53
    rw [if_neg e4, e5]
    have o : (1 : Int32) + nI k = nI (1 + k) := by rw [li_1, nI_add]
    have o2 : nI k + (1 : Int32) = nI (k + 1) := by rw [li_1, nI_add]
    by_cases el : T.2.1.length ≤ k
    · obtain ⟨h', p1, p2⟩ := st 0 (by
        unfold g5
        simp [List.getD, List.getElem?_eq_none el])
      refine ⟨h', p1, ?_⟩
      rw [if_pos (by rw [nI_leI (by omega) (by omega)]; exact el), xr_16, o, as_398 (by omega), o2]
      exact p2
    · obtain ⟨h', p1, p2⟩ := st _ rfl
      refine ⟨h', p1, ?_⟩
      have e6 : h 395 k = g5 T.2.1 k := by rw [h3 395 (by omega)]; exact R.2.1.2.2 (by omega) k (by omega)
      rw [if_neg (by rw [nI_leI (by omega) (by omega)]; exact el), xr_4, al_395 (by omega), xr_16, o, as_398 (by omega), o2, e6]
      exact p2
theorem RMo.fr {h h' : Mem} {T : Top} (R : RMo h T) (f : ∀ a, 390 ≤ a → a < 397 → h' a = h a) : RMo h' T := by
  obtain ⟨r1, r2, r3, r4, r5⟩ := R
  refine ⟨by rw [f 391 (by omega) (by omega)]; exact r1, ?_, ?_, ?_, ?_⟩
  · rw [f 390 (by omega) (by omega), f 395 (by omega) (by omega)]; exact r2
  · rw [f 390 (by omega) (by omega), f 396 (by omega) (by omega)]; exact r3
  · rw [f 390 (by omega) (by omega)]; exact r4
  · intro k hk
    rw [f 394 (by omega) (by omega), f 393 (by omega) (by omega)]
    exact r5 k hk
theorem M_had (T : Top) (g : Int32) : MO (f_X8_had 390 g) (fun T => O_had T g) T := by
  intro h R
  unfold f_X8_had O_had
  rw [lo_1, lo_3]
  simp only [M_in, bI_0, b2_some]
  cases e1 : inR g 1 3
  · rw [if_pos rfl, if_pos rfl]
    exact wR ⟨rfl, R, fun _ _ => rfl⟩
  · rw [if_neg (show ¬ true = false by decide), if_neg (show ¬ true = false by decide)]
    obtain ⟨h', p1, p2⟩ := M_had23 R g 4 0 xFU (mu h 398 0 g) (by omega) (by unfold xFU; omega) (fun a ha => mu_ne ha) (fun j hj => by
      have : j = 0 := by omega
      subst this
      rw [mu_rde rfl]
      rfl)
    rw [xr_16, li_0, as_398 (by omega)]
    refine wE p2 ⟨rfl, ?_, fun a ha => p1 a (by omega)⟩
    split
    · exact R.fr (fun a b1 b2 => p1 a (by omega))
    · exact R.fr (fun a b1 b2 => p1 a (by omega))
def O_subscription (T : Top) (c i f : Int32) : Int32 × Top :=
  if inR c 0 5 = false ∨ i < 0 ∨ inR f 0 7 = false then (-1, T)
  else if ¬ (T.1.2.2 c.toNatClampNeg).1 0 = 0 ∧ i.toNatClampNeg < ((T.1.2.2 c.toNatClampNeg).2 3).length then
    (if f = 0 then nI (lvs (gr ((T.1.2.2 c.toNatClampNeg).2 3) i.toNatClampNeg))
     else if f = 1 then g5 (gr ((T.1.2.2 c.toNatClampNeg).2 3) i.toNatClampNeg) 4
     else if f = 2 then g5 (gr ((T.1.2.2 c.toNatClampNeg).2 3) i.toNatClampNeg) 5
     else if f = 3 then (if isTp T.2.1 = true then bI (mtr (gr ((T.1.2.2 c.toNatClampNeg).2 3) i.toNatClampNeg) (g5 T.2.1)) else -4)
     else g5 (gr ((T.1.2.2 c.toNatClampNeg).2 3) i.toNatClampNeg) (f.toNatClampNeg - 4), T)
  else (-4, T)
theorem M_subscription (T : Top) (c i f : Int32) : MO (f_X8_subscription 390 c i f) (fun T => O_subscription T c i f) T := by
  intro h R
  unfold f_X8_subscription O_subscription
  have same : ∀ r : Int32, Tr (some (r, h)) (fun r' h' => r' = r ∧ RMo h' T ∧ ∀ a, a < 390 → h' a = h a) := fun r => wR ⟨rfl, R, fun _ _ => rfl⟩
  rw [M_isClient, b2_some, lo_0, lo_7]
  simp only [M_in, bI_0, b2_some]
  cases e1 : inR c 0 5
  · rw [if_pos rfl, if_pos (by simp)]
    exact same _
  by_cases e2 : i < 0
  · rw [if_neg (by decide), if_pos e2, if_pos (Or.inr (Or.inl e2))]
    exact same _
  cases e3 : inR f 0 7
  · rw [if_neg (by decide), if_neg e2, if_pos rfl, if_pos (by simp)]
    exact same _
  rw [if_neg (show ¬ true = false by decide), if_neg e2, if_neg (show ¬ true = false by decide), if_neg (show ¬ (true = false ∨ i < 0 ∨ true = false) by simpa using e2)]
  obtain ⟨n, hn, rfl⟩ := inR_ex (b := 5) (by omega) e1
  obtain ⟨j, hj, rfl⟩ := nI_nn e2
  obtain ⟨m, hm, rfl⟩ := inR_ex (b := 7) (by omega) e3
  have hc : n < 6 := by omega
  have Rc := R.1.2.2.2.2 n hc
  have q0 : h 391 (308 + 961 * n + 0) = (T.1.2.2 n).1 0 := Rc.1 0 (by omega) rfl
  have q1 : h 391 (308 + 961 * n + 3) = nI ((T.1.2.2 n).2 3).length := (Rc.2 3 rfl).1
  have q2 := (Rc.2 3 rfl).2.1
  rw [tc_3] at q2
  have o0 : f_X8_of 390 (nI n) 0 h = some ((T.1.2.2 n).1 0, h) := by rw [li_0, M_of hc (by omega), q0]
  have o3 : f_X8_of 390 (nI n) 3 h = some (nI ((T.1.2.2 n).2 3).length, h) := by rw [li_3, M_of hc (by omega), q1]
  rw [nI_clamp (show n < 2 ^ 31 by omega), nI_clamp hj, nI_clamp (show m < 2 ^ 31 by omega), o0, b2_some]
  by_cases ea : (T.1.2.2 n).1 0 = 0
  · rw [if_pos ea, if_neg (fun z => z.1 ea)]
    exact same _
  rw [if_neg ea, o3, b2_some]
  by_cases e4 : nI j < nI ((T.1.2.2 n).2 3).length
  · rw [if_pos e4]
    rw [nI_ltI hj (by omega)] at e4
    rw [if_pos (show ¬ (T.1.2.2 n).1 0 = 0 ∧ j < ((T.1.2.2 n).2 3).length from ⟨ea, e4⟩)]
    have oa : f_X8_at (nI n) (45 + 6 * nI j) h = some (nI (308 + 961 * n + (45 + 6 * j)), h) := by rw [li_45, li_6, nI_mul, nI_add, M_at]
    have cz : ∀ k, k < 6 → h 391 (308 + 961 * n + (45 + 6 * j) + k) = g5 (gr ((T.1.2.2 n).2 3) j) k := by
      intro k hk
      have z := Rc.cell (t := 3) (i := j) (j := k) rfl e4 (by rw [tw_3]; omega)
      simp only [tb_3, tw_3] at z
      rw [← z]
      congr 1
      omega
    have o102 : ∀ k : Nat, 1 ≤ k → k ≤ 2 → f_X8_subscription_102 390 (nI k) (nI (308 + 961 * n + (45 + 6 * j))) h = some (g5 (gr ((T.1.2.2 n).2 3) j) (3 + k), h) := by
      intro k k1 k2
      unfold f_X8_subscription_102
      rw [xr_0, li_3, nI_add, nI_add, al_391 (by omega), Nat.add_assoc _ 3 k, cz _ (by omega)]
    rw [oa, b2_some]
    rcases (show m = 0 ∨ m = 1 ∨ m = 2 ∨ m = 3 ∨ 4 ≤ m by omega) with rfl | rfl | rfl | rfl | e5
    · rw [if_pos (show nI 0 = 0 from rfl), if_pos (show nI 0 = 0 from rfl), xr_0, M_levelsOf (by omega) (fun k hk => cz k (by omega)), b2_some]
      exact same _
    · rw [if_neg (show ¬ nI 1 = 0 by decide), if_neg (show ¬ nI 1 = 0 by decide), if_pos (show nI 1 = 1 from rfl), if_pos (show nI 1 = 1 from rfl), o102 1 (by omega) (by omega)]
      exact same _
    · rw [if_neg (show ¬ nI 2 = 0 by decide), if_neg (show ¬ nI 2 = 0 by decide), if_neg (show ¬ nI 2 = 1 by decide), if_neg (show ¬ nI 2 = 1 by decide), if_pos (show nI 2 = 2 from rfl), if_pos (show nI 2 = 2 from rfl), o102 2 (by omega) (by omega)]
      exact same _
    · rw [if_neg (show ¬ nI 3 = 0 by decide), if_neg (show ¬ nI 3 = 0 by decide), if_neg (show ¬ nI 3 = 1 by decide), if_neg (show ¬ nI 3 = 1 by decide), if_neg (show ¬ nI 3 = 2 by decide), if_neg (show ¬ nI 3 = 2 by decide), if_pos (show nI 3 = 3 from rfl), if_pos (show nI 3 = 3 from rfl), M_isTopic R, b2_some]
      simp only [bI_0]
      cases et : isTp T.2.1
      · rw [if_pos rfl, if_neg (by decide)]
        exact same _
      · rw [if_neg (by decide), if_pos rfl, xr_4, M_isMatching (by omega) (by rw [xl_395]; omega) (by rw [xl_395]; omega), mtc_row Rc e4, mtr_congr (R.2.1.2.2 (isTp_pos et)), b2_some, flag_b, b2_some]
        exact same _
    · have n0 : ¬ nI m = 0 := nI_ne0 (by omega) (by omega)
      have n1 : ¬ nI m = 1 := by rw [li_1, nI_eq (by omega) (by omega)]; omega
      have n2 : ¬ nI m = 2 := by rw [li_2, nI_eq (by omega) (by omega)]; omega
      have n3 : ¬ nI m = 3 := by rw [li_3, nI_eq (by omega) (by omega)]; omega
      have e8 : nI (308 + 961 * n + (45 + 6 * j)) + nI m - 4 = nI (308 + 961 * n + (45 + 6 * j) + (m - 4)) := by
        rw [li_4, nI_add, nI_subP (by omega)]
        congr 1
        omega
      rw [if_neg n0, if_neg n0, if_neg n1, if_neg n1, if_neg n2, if_neg n2, if_neg n3, if_neg n3, xr_0, e8, al_391 (by omega), cz _ (by omega)]
      exact same _
  · rw [if_neg e4]
    rw [nI_ltI hj (by omega)] at e4
    rw [if_neg (fun z => e4 z.2)]
    exact same _
