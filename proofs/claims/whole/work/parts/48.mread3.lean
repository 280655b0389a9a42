/-! the reference: client, rule -/
def alC (cl : Cl) : Nat := (if cl.1 29 ≤ 0 then 0 else 1) + (if cl.1 33 ≤ 0 then 0 else 1) + (if cl.1 37 ≤ 0 then 0 else 1) + (if cl.1 41 ≤ 0 then 0 else 1)
theorem M_ali29 {n c k s : Nat} (x : Int32) (h : Mem) : (if x ≤ 0 then f_X8_aliases_29 (f_X8_aliases_4 n) 390 (nI c) (nI k) (nI s) 0 h else f_X8_aliases_29 (f_X8_aliases_4 n) 390 (nI c) (nI k) (nI s) 1 h) = f_X8_aliases_4 n 390 (nI c) (nI (s + if x ≤ 0 then 0 else 1)) (nI (k + 1)) h := by
  by_cases e : x ≤ 0
  · rw [if_pos e, if_pos e]
    unfold f_X8_aliases_29 f_X8_flag
    rw [if_pos rfl, b2_some, li_0, li_1, nI_add, nI_add]
  · rw [if_neg e, if_neg e]
    unfold f_X8_aliases_29 f_X8_flag
    rw [if_neg (by decide), b2_some, li_1, nI_add, nI_add]
theorem M_aliases {c : Nat} {h : Mem} {cl : Cl} (hc : c < 6) (R : RB (bk (h 391) c) cl) : f_X8_aliases 390 (nI c) h = some (nI (alC cl), h) := by
  have r : ∀ k, k < 45 → ict k = false → f_X8_of 390 (nI c) (nI k) h = some (cl.1 k, h) := by
    intro k hk hk2
    rw [M_of hc (by omega)]
    have z : h 391 (308 + 961 * c + k) = cl.1 k := R.1 k hk hk2
    rw [z]
  have r0 := r 29 (by omega) rfl
  have r1 := r 33 (by omega) rfl
  have r2 := r 37 (by omega) rfl
  have r3 := r 41 (by omega) rfl
  obtain ⟨z, hz⟩ := xFUs
  have st : ∀ (n k s : Nat) (v : Int32), k < 4 → f_X8_of 390 (nI c) (nI (29 + 4 * k)) h = some (v, h) → f_X8_aliases_4 (n + 1) 390 (nI c) (nI s) (nI k) h = f_X8_aliases_4 n 390 (nI c) (nI (s + if v ≤ 0 then 0 else 1)) (nI (k + 1)) h := by
    intro n k s v hk hv
    rw [← M_ali29]
    show (if (4 : Int32) ≤ nI k then some (nI s, h) else b2 (f_X8_of 390 (nI c) (29 + 4 * nI k) h) fun v2 h1 => if v2 ≤ 0 then f_X8_aliases_29 (f_X8_aliases_4 n) 390 (nI c) (nI k) (nI s) 0 h1 else f_X8_aliases_29 (f_X8_aliases_4 n) 390 (nI c) (nI k) (nI s) 1 h1) = _
    rw [if_neg (by rw [li_4, nI_leI (by omega) (by omega)]; omega), show (29 : Int32) + 4 * nI k = nI (29 + 4 * k) by rw [li_29, li_4, nI_mul, nI_add], hv, b2_some]
  unfold f_X8_aliases
  rw [hz, li_0, st _ 0 0 _ (by omega) r0, st _ 1 _ _ (by omega) r1, st _ 2 _ _ (by omega) r2, st _ 3 _ _ (by omega) r3]
  have e4 : (4 : Int32) ≤ nI 4 := by decide
  show (if (4 : Int32) ≤ nI 4 then some (nI _, h) else _) = _
  rw [if_pos e4, Nat.zero_add]
  rfl
def O_cl45 (cl : Cl) (m : Nat) : Int32 :=
  if m = 2 then (if cl.1 0 = 1 then -4 else cl.1 2)
  else if m = 9 then nI (alC cl)
  else if m = 10 then cl.1 12
  else if m = 11 then cl.1 21
  else if m = 12 then cl.1 10
  else if 3 ≤ m then nI (cl.2 m).length
  else cl.1 m
theorem M_cl45 {c m : Nat} {h : Mem} {cl : Cl} (hc : c < 6) (hm : m ≤ 12) (R : RB (bk (h 391) c) cl) : f_X8_client_45 390 (nI c) (nI m) h = some (O_cl45 cl m, h) := by
  have r : ∀ k, k < 45 → ict k = false → f_X8_of 390 (nI c) (nI k) h = some (cl.1 k, h) := by
    intro k hk hk2
    rw [M_of hc (by omega)]
    have z : h 391 (308 + 961 * c + k) = cl.1 k := R.1 k hk hk2
    rw [z]
  have rt : ∀ t, t < 45 → ict t = true → f_X8_of 390 (nI c) (nI t) h = some (nI (cl.2 t).length, h) := by
    intro t ht ht2
    rw [M_of hc (by omega)]
    have z : h 391 (308 + 961 * c + t) = nI (cl.2 t).length := (R.2 t ht2).1
    rw [z]
  have n : ∀ k, k ≤ 12 → m ≠ k → ¬ nI m = nI k := fun k hk hne => by rw [nI_eq (by omega) (by omega)]; exact hne
  have tt : ∀ t, t < 45 → ict t = true → f_X8_client_154 390 (nI c) (nI t) h = some (nI (cl.2 t).length, h) := by
    intro t ht ht2
    unfold f_X8_client_154
    rw [rt t ht ht2, b2_some]
  have ts : ∀ k, k < 45 → ict k = false → f_X8_client_154 390 (nI c) (nI k) h = some (cl.1 k, h) := by
    intro k ht ht2
    unfold f_X8_client_154
    rw [r k ht ht2, b2_some]
  unfold f_X8_client_45 O_cl45
  by_cases e2 : m = 2
  · subst e2
    rw [if_pos (show nI 2 = 2 from rfl), if_pos rfl, M_awake hc R, b2_some]
    by_cases ea : cl.1 0 = 1
    · rw [if_pos ea, if_neg (by decide), if_pos ea]
    · rw [if_neg ea, if_pos rfl, if_neg ea, li_2, r 2 (by omega) rfl, b2_some]
  rw [if_neg (show ¬ nI m = 2 from n 2 (by omega) e2), if_neg e2]
  by_cases e3 : m = 3
  · subst e3
    rw [if_pos (show nI 3 = 3 from rfl), tt 3 (by omega) rfl]
    rfl
  rw [if_neg (show ¬ nI m = 3 from n 3 (by omega) e3)]
  by_cases e4 : m = 4
  · subst e4
    rw [if_pos (show nI 4 = 4 from rfl), tt 4 (by omega) rfl]
    rfl
  rw [if_neg (show ¬ nI m = 4 from n 4 (by omega) e4)]
  by_cases e5 : m = 5
  · subst e5
    rw [if_pos (show nI 5 = 5 from rfl), tt 5 (by omega) rfl]
    rfl
  rw [if_neg (show ¬ nI m = 5 from n 5 (by omega) e5)]
  by_cases e6 : m = 6
  · subst e6
    rw [if_pos (show nI 6 = 6 from rfl), tt 6 (by omega) rfl]
    rfl
  rw [if_neg (show ¬ nI m = 6 from n 6 (by omega) e6)]
  by_cases e7 : m = 7
  · subst e7
    rw [if_pos (show nI 7 = 7 from rfl), tt 7 (by omega) rfl]
    rfl
  rw [if_neg (show ¬ nI m = 7 from n 7 (by omega) e7)]
  by_cases e8 : m = 8
  · subst e8
    rw [if_pos (show nI 8 = 8 from rfl), tt 8 (by omega) rfl]
    rfl
  rw [if_neg (show ¬ nI m = 8 from n 8 (by omega) e8)]
  by_cases e9 : m = 9
  · subst e9
    rw [if_pos (show nI 9 = 9 from rfl), M_aliases hc R, b2_some, if_pos rfl]
  rw [if_neg (show ¬ nI m = 9 from n 9 (by omega) e9), if_neg e9]
  by_cases e10 : m = 10
  · subst e10
    rw [if_pos (show nI 10 = 10 from rfl), li_12, r 12 (by omega) rfl, b2_some, if_pos rfl]
  rw [if_neg (show ¬ nI m = 10 from n 10 (by omega) e10), if_neg e10]
  by_cases e11 : m = 11
  · subst e11
    rw [if_pos (show nI 11 = 11 from rfl), li_21, r 21 (by omega) rfl, b2_some, if_pos rfl]
  rw [if_neg (show ¬ nI m = 11 from n 11 (by omega) e11), if_neg e11]
  by_cases e12 : m = 12
  · subst e12
    rw [if_pos (show nI 12 = 12 from rfl), li_10, r 10 (by omega) rfl, b2_some, if_pos rfl]
  rw [if_neg (show ¬ nI m = 12 from n 12 (by omega) e12), if_neg e12, if_neg (by omega)]
  refine ts m (by omega) ?_
  unfold ict
  simp only [Bool.or_eq_false_iff, beq_eq_false_iff_ne]
  omega
def O_client (T : Top) (c f : Int32) : Int32 × Top :=
  if inR c 0 5 = false ∨ inR f 0 12 = false then (-1, T)
  else if inR f 1 10 = true ∧ (T.1.2.2 c.toNatClampNeg).1 0 = 0 then (-4, T)
  else (O_cl45 (T.1.2.2 c.toNatClampNeg) f.toNatClampNeg, T)
theorem M_client (T : Top) (c f : Int32) : MO (f_X8_client 390 c f) (fun T => O_client T c f) T := by
  intro h R
  unfold f_X8_client O_client
  have same : ∀ r : Int32, Tr (some (r, h)) (fun r' h' => r' = r ∧ RMo h' T ∧ ∀ a, a < 390 → h' a = h a) := fun r => wR ⟨rfl, R, fun _ _ => rfl⟩
  rw [M_isClient, b2_some, lo_0, lo_1, lo_10, lo_12]
  simp only [M_in, bI_0, b2_some]
  cases e1 : inR c 0 5
  · rw [if_pos rfl, if_pos (by simp)]
    exact same _
  cases e2 : inR f 0 12
  · rw [if_neg (by decide), if_pos rfl, if_pos (by simp)]
    exact same _
  rw [if_neg (show ¬ true = false by decide), if_neg (show ¬ true = false by decide), if_neg (show ¬ (true = false ∨ true = false) by simp)]
  obtain ⟨n, hn, rfl⟩ := inR_ex (b := 5) (by omega) e1
  obtain ⟨m, hm, rfl⟩ := inR_ex (b := 12) (by omega) e2
  have hc : n < 6 := by omega
  have Rc := R.1.2.2.2.2 n hc
  have q0 : h 391 (308 + 961 * n + 0) = (T.1.2.2 n).1 0 := Rc.1 0 (by omega) rfl
  have o0 : f_X8_of 390 (nI n) 0 h = some ((T.1.2.2 n).1 0, h) := by rw [li_0, M_of hc (by omega), q0]
  rw [nI_clamp (show n < 2 ^ 31 by omega), nI_clamp (show m < 2 ^ 31 by omega)]
  cases e3 : inR (nI m) 1 10
  · rw [if_pos rfl, if_neg (fun z => by cases z.1), M_cl45 hc hm Rc]
    exact same _
  · rw [if_neg (by decide), o0, b2_some]
    by_cases ea : (T.1.2.2 n).1 0 = 0
    · rw [if_pos ea, if_pos ⟨rfl, ea⟩]
      exact same _
    · rw [if_neg ea, if_neg (fun z => ea z.2), M_cl45 hc hm Rc]
      exact same _
def shCt (cls : Nat → Cl) : Nat → (Nat → Int32) → Nat
  | 0, _ => 0
  | n + 1, key => if (nsA cls key).1 = true then shCt cls n (nsA cls key).2 + 1 else 0
theorem M_shs6 {cls : Nat → Cl} : ∀ (n m s : Nat) (key : Nat → Int32) (h : Mem), cntS cls key < n → n ≤ m → RA h cls → (∀ j, j < 5 → h 398 j = key j) → ∃ h', f_X8_shares_6 m 390 (nI s) h = some (nI (s + shCt cls n key), h') ∧ ∀ a, a ≠ 398 → a ≠ 399 → a ≠ 400 → h' a = h a := by
  intro n
  induction n with
  | zero => intro m s key h h1; omega
  | succ n ih =>
    intro m s key h h1 h2 R hk
    obtain ⟨m, rfl⟩ : ∃ z, m = z + 1 := ⟨m - 1, by omega⟩
    obtain ⟨g1, e1, f1, s1⟩ := M_nextShare (h := h) (cls := cls) R
    have hc := nsA_congr hk cls
    unfold f_X8_shares_6 shCt
    rw [e1, b2_some, hc.1]
    simp only [bI_0]
    cases en : (nsA cls key).1
    · exact ⟨g1, by rw [if_pos rfl, if_neg (by decide), Nat.add_zero], f1⟩
    · have hlt := cntS_lt en
      obtain ⟨h', p1, p2⟩ := ih m (s + 1) (nsA cls key).2 g1 (by omega) (by omega) (fun c hc => by rw [f1 391 (by omega) (by omega) (by omega)]; exact R c hc) (fun j hj => (s1 j hj).trans (hc.2 j hj))
      refine ⟨h', ?_, fun a q1 q2 q3 => by rw [p2 a q1 q2 q3, f1 a q1 q2 q3]⟩
      rw [if_neg (by decide), if_pos rfl, li_1, nI_add, p1]
      congr 3
      omega
def O_rule (T : Top) (n : Int32) : Int32 × Top :=
  if inR n 0 10 = false then (-1, T)
  else if n = 7 then (nI (shCt T.1.2.2 shN (fun _ => 0)), T)
  else if n = 8 then (nI T.2.1.length, T)
  else if n = 9 then (nI T.2.2.1.length, T)
  else if n = 10 then (bI (T.2.2.2.2 0).isSome + bI (T.2.2.2.2 1).isSome, T)
  else if n = 0 then (T.1.1 0, T)
  else if n = 1 then (T.1.1 1, T)
  else if n = 2 then (sm6 (fun c => (T.1.2.2 c).1 50), T)
  else if n = 3 then (sm6 (fun c => (T.1.2.2 c).1 51), T)
  else if n = 4 then (sm6 (fun c => (T.1.2.2 c).1 10), T)
  else if n = 5 then (sm6 (fun c => (T.1.2.2 c).1 52), T)
  else (nI (T.1.2.1 6).length, T)
theorem M_rule (T : Top) (S : ShOk T.1) (n : Int32) : MO (f_X8_rule 390 n) (fun T => O_rule T n) T := by
  intro h R
  unfold f_X8_rule O_rule
  have same : ∀ r : Int32, Tr (some (r, h)) (fun r' h' => r' = r ∧ RMo h' T ∧ ∀ a, a < 390 → h' a = h a) := fun r => wR ⟨rfl, R, fun _ _ => rfl⟩
  rw [lo_0, lo_10]
  simp only [M_in, bI_0, b2_some]
  cases e1 : inR n 0 10
  · rw [if_pos rfl, if_pos rfl]
    exact same _
  rw [if_neg (show ¬ true = false by decide), if_neg (show ¬ true = false by decide)]
  obtain ⟨m, hm, rfl⟩ := inR_ex (b := 10) (by omega) e1
  have hl : (arw T.1.2.2).length ≤ 36 := arw_len (fun c hc => (S.2.1 c hc).2)
  obtain ⟨⟨g0, g1⟩, ⟨s2, s3, s4, s5⟩, k6, -⟩ := R.1
  have r5 := R.2.2.2.2
  rcases (show m = 7 ∨ m = 8 ∨ m = 9 ∨ m = 10 ∨ m < 7 by omega) with rfl | rfl | rfl | rfl | e7
  · rw [if_pos (show nI 7 = 7 from rfl), if_pos (show nI 7 = 7 from rfl)]
    unfold f_X8_shares
    have R2 : RA (set5 h 398 (fun _ => 0)) T.1.2.2 := fun c hc => by rw [set5_ne (by omega)]; exact R.1.2.2.2.2 c hc
    obtain ⟨h', p1, p2⟩ := M_shs6 shN xFU 0 (fun _ => 0) (set5 h 398 (fun _ => 0)) (by unfold shN cntS; have := List.countP_le_length (p := fun r => ahd (fun _ => 0) (skey r)) (l := arw T.1.2.2); omega) (by unfold shN xFU; omega) R2 (fun j hj => set5_in hj)
    have p0 : f_X8_shares_6 xFU 390 0 (set5 h 398 fun _ => 0) = some (nI (shCt T.1.2.2 shN fun _ => 0), h') := by
      rw [Nat.zero_add] at p1
      exact p1
    rw [M_noShare, b2_some, p0, b2_some]
    exact wR ⟨rfl, R.fr (fun a b1 b2 => by rw [p2 a (by omega) (by omega) (by omega), set5_ne (by omega)]), fun a ha => by rw [p2 a (by omega) (by omega) (by omega), set5_ne (by omega)]⟩
  · rw [if_neg (show ¬ nI 8 = 7 by decide), if_neg (show ¬ nI 8 = 7 by decide), if_pos (show nI 8 = 8 from rfl), if_pos (show nI 8 = 8 from rfl), R.2.1.1]
    exact same _
  · rw [if_neg (show ¬ nI 9 = 7 by decide), if_neg (show ¬ nI 9 = 7 by decide), if_neg (show ¬ nI 9 = 8 by decide), if_neg (show ¬ nI 9 = 8 by decide), if_pos (show nI 9 = 9 from rfl), if_pos (show nI 9 = 9 from rfl), R.2.2.1.1]
    exact same _
  · rw [if_neg (show ¬ nI 10 = 7 by decide), if_neg (show ¬ nI 10 = 7 by decide), if_neg (show ¬ nI 10 = 8 by decide), if_neg (show ¬ nI 10 = 8 by decide), if_neg (show ¬ nI 10 = 9 by decide), if_neg (show ¬ nI 10 = 9 by decide), if_pos (show nI 10 = 10 from rfl), if_pos (show nI 10 = 10 from rfl), xr_3, show (0 : Int32) = nI 0 from li_0, al_394 (by omega), (r5 0 (by omega)).1, flag_b, b2_some, show (1 : Int32) = nI 1 from li_1, al_394 (by omega), (r5 1 (by omega)).1, flag_b, b2_some]
    exact same _
  · have n : ∀ k, k ≤ 10 → m ≠ k → ¬ nI m = nI k := fun k hk hne => by rw [nI_eq (by omega) (by omega)]; exact hne
    have n7 : ¬ nI m = 7 := n 7 (by omega) (by omega)
    have n8 : ¬ nI m = 8 := n 8 (by omega) (by omega)
    have n9 : ¬ nI m = 9 := n 9 (by omega) (by omega)
    have n10 : ¬ nI m = 10 := n 10 (by omega) (by omega)
    rw [if_neg n7, if_neg n7, if_neg n8, if_neg n8, if_neg n9, if_neg n9, if_neg n10, if_neg n10, xr_0, al_391 (by omega)]
    rcases (show m = 0 ∨ m = 1 ∨ m = 2 ∨ m = 3 ∨ m = 4 ∨ m = 5 ∨ m = 6 by omega) with rfl | rfl | rfl | rfl | rfl | rfl | rfl
    · rw [g0]; exact same _
    · rw [g1]; exact same _
    · rw [s2]; exact same _
    · rw [s3]; exact same _
    · rw [s4]; exact same _
    · rw [s5]; exact same _
    · rw [k6.1]; exact same _
