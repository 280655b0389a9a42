/-! the reference: keep, back, and the readers of tables -/
theorem li_6074 : (6074 : Int32) = nI 6074 := by decide +kernel
theorem RM.frame {f f' : Nat → Int32} {st : St} (R : RM f st) (e : ∀ x, x < 6074 → f' x = f x) : RM f' st := by
  obtain ⟨⟨g0, g1⟩, ⟨s2, s3, s4, s5⟩, k6, k7, rb⟩ := R
  refine ⟨⟨by rw [e 0 (by omega)]; exact g0, by rw [e 1 (by omega)]; exact g1⟩, ⟨by rw [e 2 (by omega)]; exact s2, by rw [e 3 (by omega)]; exact s3, by rw [e 4 (by omega)]; exact s4, by rw [e 5 (by omega)]; exact s5⟩, k6.frame (e 6 (by omega)) (fun x h1 h2 => e x (by omega)), k7.frame (e 7 (by omega)) (fun x h1 h2 => e x (by omega)), fun c hc => (rb c hc).frame (fun k hk => ?_)⟩
  simp only [bk]
  exact e _ (by omega)
theorem M_keep31 {m : Nat} (hm : m < 2) (v : Int32) : ∀ (d k n : Nat) (h : Mem), k + d = 6074 → d < n → ∃ h', f_X8_keep_31 n 390 (nI m) v (nI k) h = some (v, h') ∧ (∀ a, a ≠ 393 → h' a = h a) ∧ ∀ x, h' 393 x = if 6074 * m + k ≤ x ∧ x < 6074 * m + 6074 then h 391 (x - 6074 * m) else h 393 x := by
  intro d
  induction d with
  | zero =>
    intro k n h h1 h2
    obtain ⟨n, rfl⟩ : ∃ z, n = z + 1 := ⟨n - 1, by omega⟩
    refine ⟨h, ?_, fun _ _ => rfl, fun x => by rw [if_neg (by omega)]⟩
    unfold f_X8_keep_31
    simp (disch := omega) only [li_6074, nI_leI, if_pos]
  | succ d ih =>
    intro k n h h1 h2
    obtain ⟨n, rfl⟩ : ∃ z, n = z + 1 := ⟨n - 1, by omega⟩
    obtain ⟨h', g1, g2, g3⟩ := ih (k + 1) n (mu h 393 (6074 * m + k) (h 391 k)) (by omega) (by omega)
    refine ⟨h', ?_, fun a ha => by rw [g2 a ha, mu_ne ha], fun x => ?_⟩
    · refine Eq.trans ?_ g1
      generalize hY : f_X8_keep_31 n 390 (nI m) v (nI (k + 1)) (mu h 393 (6074 * m + k) (h 391 k)) = Y
      unfold f_X8_keep_31
      simp (disch := omega) only [li_6074, li_1, xr_0, xr_2, nI_leI, if_neg, nI_mul, nI_add, al_391, as_393, hY]
    · rw [g3 x, mu_rdk (by omega)]
      by_cases e : x = 6074 * m + k
      · rw [if_neg (by omega), mu_rde e, if_pos (by omega)]
        congr 1
        omega
      · rw [mu_rdn e]
        by_cases e2 : 6074 * m + (k + 1) ≤ x ∧ x < 6074 * m + 6074
        · rw [if_pos e2, if_pos (by omega)]
        · rw [if_neg e2, if_neg (by omega)]
def O_keep (T : Top) (k : Int32) : Int32 × Top :=
  if inR k 0 1 = false then (-1, T)
  else (bI (T.2.2.2.2 k.toNatClampNeg).isSome, T.1, T.2.1, T.2.2.1, T.2.2.2.1, ud T.2.2.2.2 k.toNatClampNeg (some T.1))
theorem flag_b (b : Bool) (h : Mem) : f_X8_flag (bI b) h = some (bI b, h) := by
  unfold f_X8_flag
  cases b
  · rw [if_pos (by decide)]; rfl
  · rw [if_neg (by decide)]; rfl
theorem M_keep (T : Top) (k : Int32) : MO (f_X8_keep 390 k) (fun T => O_keep T k) T := by
  intro h R
  unfold f_X8_keep O_keep
  rw [lo_0, lo_1]
  simp only [M_in, bI_0, b2_some]
  cases e1 : inR k 0 1
  · rw [if_pos rfl, if_pos rfl]
    exact wR ⟨rfl, R, fun _ _ => rfl⟩
  · rw [if_neg (show ¬ true = false by decide), if_neg (show ¬ true = false by decide)]
    obtain ⟨m, hm, rfl⟩ := inR_ex (b := 1) (by omega) e1
    have hm2 : m < 2 := by omega
    obtain ⟨r1, r2, r3, r4, r5⟩ := R
    obtain ⟨h', g1, g2, g3⟩ := M_keep31 hm2 (bI (T.2.2.2.2 m).isSome) 6074 0 xFU (mu h 394 m 1) (by omega) (by unfold xFU; omega)
    rw [nI_clamp (by omega), xr_3, al_394 (by omega), (r5 m hm2).1, flag_b, b2_some, as_394 (by omega), li_0]
    refine wE g1 ⟨rfl, ⟨?_, ?_, ?_, ?_, ?_⟩, fun a ha => by rw [g2 a (by omega), mu_ne (by omega)]⟩
    · rw [g2 391 (by omega), mu_ne (by omega)]; exact r1
    · rw [g2 390 (by omega), mu_ne (by omega), g2 395 (by omega), mu_ne (by omega)]; exact r2
    · rw [g2 390 (by omega), mu_ne (by omega), g2 396 (by omega), mu_ne (by omega)]; exact r3
    · rw [g2 390 (by omega), mu_ne (by omega)]; exact r4
    · intro j hj
      show h' 394 j = bI (ud T.2.2.2.2 m (some T.1) j).isSome ∧ ∀ s, ud T.2.2.2.2 m (some T.1) j = some s → _
      rw [g2 394 (by omega)]
      by_cases e : j = m
      · subst e
        rw [ud_eq, mu_rde rfl]
        refine ⟨rfl, fun s es => ?_⟩
        have es2 : T.1 = s := Option.some.inj es
        rw [← es2]
        refine r1.frame (fun x hx => ?_)
        show h' 393 (6074 * j + x) = h 391 x
        rw [g3, if_pos (by omega), mu_rdk (by omega), Nat.add_sub_cancel_left]
      · rw [ud_ne e, mu_rdn e]
        refine ⟨(r5 j hj).1, fun s es => ((r5 j hj).2 s es).frame (fun x hx => ?_)⟩
        show h' 393 (6074 * j + x) = h 393 (6074 * j + x)
        rw [g3, if_neg (by omega), mu_rdk (by omega)]
theorem M_back26 {m : Nat} (hm : m < 2) : ∀ (d k n : Nat) (h : Mem), k + d = 6074 → d < n → ∃ h', f_X8_back_26 n 390 (nI m) (nI k) h = some (h' 391 0, h') ∧ (∀ a, a ≠ 391 → h' a = h a) ∧ ∀ x, h' 391 x = if k ≤ x ∧ x < 6074 then h 393 (6074 * m + x) else h 391 x := by
  intro d
  induction d with
  | zero =>
    intro k n h h1 h2
    obtain ⟨n, rfl⟩ : ∃ z, n = z + 1 := ⟨n - 1, by omega⟩
    refine ⟨h, ?_, fun _ _ => rfl, fun x => by rw [if_neg (by omega)]⟩
    unfold f_X8_back_26
    simp (disch := omega) only [li_6074, li_0, xr_0, al_391, nI_leI, if_pos]
  | succ d ih =>
    intro k n h h1 h2
    obtain ⟨n, rfl⟩ : ∃ z, n = z + 1 := ⟨n - 1, by omega⟩
    obtain ⟨h', g1, g2, g3⟩ := ih (k + 1) n (mu h 391 k (h 393 (6074 * m + k))) (by omega) (by omega)
    refine ⟨h', ?_, fun a ha => by rw [g2 a ha, mu_ne ha], fun x => ?_⟩
    · refine Eq.trans ?_ g1
      generalize hY : f_X8_back_26 n 390 (nI m) (nI (k + 1)) (mu h 391 k (h 393 (6074 * m + k))) = Y
      unfold f_X8_back_26
      simp (disch := omega) only [li_6074, li_1, xr_0, xr_2, nI_leI, if_neg, nI_mul, nI_add, al_393, as_391, hY]
    · rw [g3 x, mu_rdk (by omega)]
      by_cases e : x = k
      · rw [if_neg (by omega), mu_rde e, if_pos (by omega), e]
      · rw [mu_rdn e]
        by_cases e2 : k + 1 ≤ x ∧ x < 6074
        · rw [if_pos e2, if_pos (by omega)]
        · rw [if_neg e2, if_neg (by omega)]
def O_back (T : Top) (k : Int32) : Int32 × Top :=
  if inR k 0 1 = false then (-1, T)
  else match T.2.2.2.2 k.toNatClampNeg with
  | none => (-2, T)
  | some s => (s.1 0, s, T.2)
theorem M_back (T : Top) (k : Int32) : MO (f_X8_back 390 k) (fun T => O_back T k) T := by
  intro h R
  unfold f_X8_back O_back
  rw [lo_0, lo_1]
  simp only [M_in, bI_0, b2_some]
  cases e1 : inR k 0 1
  · rw [if_pos rfl, if_pos rfl]
    exact wR ⟨rfl, R, fun _ _ => rfl⟩
  · rw [if_neg (show ¬ true = false by decide), if_neg (show ¬ true = false by decide)]
    obtain ⟨m, hm, rfl⟩ := inR_ex (b := 1) (by omega) e1
    have hm2 : m < 2 := by omega
    have r5 := R.2.2.2.2 m hm2
    rw [nI_clamp (by omega), xr_3, al_394 (by omega), r5.1]
    cases es : T.2.2.2.2 m with
    | none =>
      rw [if_pos (by rw [bI_0]; rfl)]
      exact wR ⟨rfl, R, fun _ _ => rfl⟩
    | some s =>
      obtain ⟨h', g1, g2, g3⟩ := M_back26 hm2 6074 0 xFU h (by omega) (by unfold xFU; omega)
      rw [if_neg (by rw [bI_0]; simp), li_0]
      have R2 : RM (h' 391) s := (r5.2 s es).frame (fun x hx => by rw [g3 x, if_pos (by omega)])
      exact wE g1 ⟨R2.1.1, R.st R2 (fun a b1 _ => g2 a b1), fun a ha => g2 a (by omega)⟩
/-! readers -/
theorem nI_nn {x : Int32} (h : ¬ x < 0) : ∃ n, n < 2 ^ 31 ∧ x = nI n := nI_of h
def O_took (T : Top) (c i f : Int32) : Int32 × Top :=
  if inR c 0 5 = false ∨ i < 0 ∨ inR f 0 3 = false then (-1, T)
  else if nI ((T.1.2.2 c.toNatClampNeg).2 11).length ≤ i then (-4, T)
  else (g5 (gr ((T.1.2.2 c.toNatClampNeg).2 11) i.toNatClampNeg) f.toNatClampNeg, T)
theorem M_took (T : Top) (c i f : Int32) : MO (f_X8_took 390 c i f) (fun T => O_took T c i f) T := by
  intro h R
  unfold f_X8_took O_took
  have same : ∀ r : Int32, Tr (some (r, h)) (fun r' h' => r' = r ∧ RMo h' T ∧ ∀ a, a < 390 → h' a = h a) := fun r => wR ⟨rfl, R, fun _ _ => rfl⟩
  rw [M_isClient, b2_some, show (0 : Int64) = (0 : Int32).toInt64 from lo_0, lo_3]
  simp only [M_in, bI_0, b2_some]
  cases e1 : inR c 0 5
  · rw [if_pos rfl, if_pos (by simp)]
    exact same _
  by_cases e2 : i < 0
  · rw [if_neg (by decide), if_pos e2, if_pos (Or.inr (Or.inl e2))]
    exact same _
  cases e3 : inR f 0 3
  · rw [if_neg (by decide), if_neg e2, if_pos rfl, if_pos (by simp)]
    exact same _
  rw [if_neg (by decide), if_neg e2, if_neg (by decide), if_neg (by simpa using e2)]
  obtain ⟨n, hn, rfl⟩ := inR_ex (b := 5) (by omega) e1
  obtain ⟨j, hj, rfl⟩ := nI_nn e2
  obtain ⟨m, hm, rfl⟩ := inR_ex (b := 3) (by omega) e3
  have hc : n < 6 := by omega
  have Rc := R.1.2.2.2.2 n hc
  have q1 : h 391 (308 + 961 * n + 11) = nI ((T.1.2.2 n).2 11).length := (Rc.2 11 rfl).1
  have q2 := (Rc.2 11 rfl).2.1
  rw [tc_11] at q2
  have o1 : f_X8_of 390 (nI n) 11 h = some (nI ((T.1.2.2 n).2 11).length, h) := by rw [li_11, M_of hc (by omega), q1]
  rw [nI_clamp (show n < 2 ^ 31 by omega), nI_clamp hj, nI_clamp (show m < 2 ^ 31 by omega), o1, b2_some]
  by_cases e4 : nI ((T.1.2.2 n).2 11).length ≤ nI j
  · rw [if_pos e4, if_pos e4]
    exact same _
  · rw [if_neg e4, if_neg e4]
    rw [nI_leI (by omega) hj] at e4
    have z := Rc.cell (t := 11) (i := j) (j := m) rfl (by omega) (by rw [tw_11]; omega)
    simp only [tb_11, tw_11] at z
    have o2 : f_X8_of 390 (nI n) (281 + 4 * nI j + nI m) h = some (g5 (gr ((T.1.2.2 n).2 11) j) m, h) := by
      simp (disch := omega) only [li_281, li_4, nI_mul, nI_add, M_of, z]
    rw [o2, b2_some]
    exact same _
def O_line (T : Top) (c w i f : Int32) : Int32 × Top :=
  if inR c 0 5 = false ∨ inR w 0 1 = false ∨ i < 0 ∨ inR f 0 4 = false then (-1, T)
  else if w = 0 then (if i < nI ((T.1.2.2 c.toNatClampNeg).2 6).length then (g5 (gr ((T.1.2.2 c.toNatClampNeg).2 6) i.toNatClampNeg) f.toNatClampNeg, T) else (-4, T))
  else (if i < nI ((T.1.2.2 c.toNatClampNeg).2 7).length ∧ f < 2 then (g5 (gr ((T.1.2.2 c.toNatClampNeg).2 7) i.toNatClampNeg) f.toNatClampNeg, T) else (-4, T))
theorem M_line (T : Top) (c w i f : Int32) : MO (f_X8_line 390 c w i f) (fun T => O_line T c w i f) T := by
  intro h R
  unfold f_X8_line O_line
  have same : ∀ r : Int32, Tr (some (r, h)) (fun r' h' => r' = r ∧ RMo h' T ∧ ∀ a, a < 390 → h' a = h a) := fun r => wR ⟨rfl, R, fun _ _ => rfl⟩
  rw [M_isClient, b2_some, lo_0, lo_1, lo_4]
  simp only [M_in, bI_0, b2_some]
  cases e1 : inR c 0 5
  · rw [if_pos rfl, if_pos (by simp)]
    exact same _
  cases e0 : inR w 0 1
  · rw [if_neg (by decide), if_pos rfl, if_pos (by simp)]
    exact same _
  by_cases e2 : i < 0
  · rw [if_neg (by decide), if_neg (by decide), if_pos e2, if_pos (Or.inr (Or.inr (Or.inl e2)))]
    exact same _
  cases e3 : inR f 0 4
  · rw [if_neg (by decide), if_neg (by decide), if_neg e2, if_pos rfl, if_pos (by simp)]
    exact same _
  rw [if_neg (by decide), if_neg (by decide), if_neg e2, if_neg (show ¬ true = false by decide), if_neg (show ¬ (true = false ∨ true = false ∨ i < 0 ∨ true = false) by simpa using e2)]
  obtain ⟨n, hn, rfl⟩ := inR_ex (b := 5) (by omega) e1
  obtain ⟨j, hj, rfl⟩ := nI_nn e2
  obtain ⟨m, hm, rfl⟩ := inR_ex (b := 4) (by omega) e3
  obtain ⟨y, hy, rfl⟩ := inR_ex (b := 1) (by omega) e0
  have hc : n < 6 := by omega
  have Rc := R.1.2.2.2.2 n hc
  have q1 : h 391 (308 + 961 * n + 6) = nI ((T.1.2.2 n).2 6).length := (Rc.2 6 rfl).1
  have q2 := (Rc.2 6 rfl).2.1
  rw [tc_6] at q2
  have p1 : h 391 (308 + 961 * n + 7) = nI ((T.1.2.2 n).2 7).length := (Rc.2 7 rfl).1
  have p2 := (Rc.2 7 rfl).2.1
  rw [tc_7] at p2
  rw [nI_clamp (show n < 2 ^ 31 by omega), nI_clamp hj, nI_clamp (show m < 2 ^ 31 by omega)]
  unfold f_X8_line_50
  have o6 : f_X8_of 390 (nI n) 6 h = some (nI ((T.1.2.2 n).2 6).length, h) := by rw [li_6, M_of hc (by omega), q1]
  have o7 : f_X8_of 390 (nI n) 7 h = some (nI ((T.1.2.2 n).2 7).length, h) := by rw [li_7, M_of hc (by omega), p1]
  rcases (show y = 0 ∨ y = 1 by omega) with rfl | rfl
  · rw [if_pos (show nI 0 = 0 from rfl), if_pos (show nI 0 = 0 from rfl), o6, b2_some]
    by_cases e4 : nI j < nI ((T.1.2.2 n).2 6).length
    · rw [if_pos e4, if_pos e4, if_neg (show ¬ nI 0 = 1 by decide)]
      rw [nI_ltI (by omega) (by omega)] at e4
      have z := Rc.cell (t := 6) (i := j) (j := m) rfl (by omega) (by rw [tw_6]; omega)
      simp only [tb_6, tw_6] at z
      have o2 : f_X8_of 390 (nI n) (153 + 6 * nI j + nI m) h = some (g5 (gr ((T.1.2.2 n).2 6) j) m, h) := by
        simp (disch := omega) only [li_153, li_6, nI_mul, nI_add, M_of, z]
      rw [o2, b2_some]
      exact same _
    · rw [if_neg e4, if_neg e4]
      exact same _
  · rw [if_neg (show ¬ nI 1 = 0 by decide), if_neg (show ¬ nI 1 = 0 by decide), o7, b2_some]
    by_cases e4 : nI j < nI ((T.1.2.2 n).2 7).length
    · rw [if_pos e4, if_pos (show nI 1 = 1 from rfl)]
      by_cases e5 : 2 ≤ nI m
      · rw [if_pos e5, if_neg (fun q => Int32.not_lt.mpr e5 q.2)]
        exact same _
      · rw [if_neg e5, if_pos ⟨e4, Int32.not_le.mp e5⟩]
        rw [nI_ltI (by omega) (by omega)] at e4
        rw [li_2, nI_leI (by omega) (by omega)] at e5
        have z := Rc.cell (t := 7) (i := j) (j := m) rfl (by omega) (by rw [tw_7]; omega)
        simp only [tb_7, tw_7] at z
        have o2 : f_X8_of 390 (nI n) (249 + 2 * nI j + nI m) h = some (g5 (gr ((T.1.2.2 n).2 7) j) m, h) := by
          simp (disch := omega) only [li_249, li_2, nI_mul, nI_add, M_of, z]
        rw [o2, b2_some]
        exact same _
    · rw [if_neg e4, if_neg (fun q => e4 q.1)]
      exact same _
def O_flight (T : Top) (c i f : Int32) : Int32 × Top :=
  if inR c 0 5 = false ∨ i < 0 ∨ inR f 0 4 = false then (-1, T)
  else if i.toNatClampNeg < ((T.1.2.2 c.toNatClampNeg).2 4).length then (g5 (gr ((T.1.2.2 c.toNatClampNeg).2 4) i.toNatClampNeg) (if f = 4 then 5 else f.toNatClampNeg), T)
  else if i.toNatClampNeg - ((T.1.2.2 c.toNatClampNeg).2 4).length < ((T.1.2.2 c.toNatClampNeg).2 5).length then (if f = 0 ∨ f = 4 then 0 else g5 (gr ((T.1.2.2 c.toNatClampNeg).2 5) (i.toNatClampNeg - ((T.1.2.2 c.toNatClampNeg).2 4).length)) (f.toNatClampNeg - 1), T)
  else (-4, T)
theorem M_flight (T : Top) (c i f : Int32) : MO (f_X8_flight 390 c i f) (fun T => O_flight T c i f) T := by
  intro h R
  unfold f_X8_flight O_flight
  have same : ∀ r : Int32, Tr (some (r, h)) (fun r' h' => r' = r ∧ RMo h' T ∧ ∀ a, a < 390 → h' a = h a) := fun r => wR ⟨rfl, R, fun _ _ => rfl⟩
  rw [M_isClient, b2_some, lo_0, lo_4]
  simp only [M_in, bI_0, b2_some]
  cases e1 : inR c 0 5
  · rw [if_pos rfl, if_pos (by simp)]
    exact same _
  by_cases e2 : i < 0
  · rw [if_neg (by decide), if_pos e2, if_pos (Or.inr (Or.inl e2))]
    exact same _
  cases e3 : inR f 0 4
  · rw [if_neg (by decide), if_neg e2, if_pos rfl, if_pos (by simp)]
    exact same _
  rw [if_neg (by decide), if_neg e2, if_neg (by decide), if_neg (by simpa using e2)]
  obtain ⟨n, hn, rfl⟩ := inR_ex (b := 5) (by omega) e1
  obtain ⟨j, hj, rfl⟩ := nI_nn e2
  obtain ⟨m, hm, rfl⟩ := inR_ex (b := 4) (by omega) e3
  have hc : n < 6 := by omega
  have Rc := R.1.2.2.2.2 n hc
  have q1 : h 391 (308 + 961 * n + 4) = nI ((T.1.2.2 n).2 4).length := (Rc.2 4 rfl).1
  have q2 := (Rc.2 4 rfl).2.1
  rw [tc_4] at q2
  have p1 : h 391 (308 + 961 * n + 5) = nI ((T.1.2.2 n).2 5).length := (Rc.2 5 rfl).1
  have p2 := (Rc.2 5 rfl).2.1
  rw [tc_5] at p2
  have o4 : f_X8_of 390 (nI n) 4 h = some (nI ((T.1.2.2 n).2 4).length, h) := by rw [li_4, M_of hc (by omega), q1]
  have o5 : f_X8_of 390 (nI n) 5 h = some (nI ((T.1.2.2 n).2 5).length, h) := by rw [li_5, M_of hc (by omega), p1]
  have m0 : nI m = 0 ↔ m = 0 := by rw [li_0, nI_eq (by omega) (by omega)]
  have m4 : nI m = 4 ↔ m = 4 := by rw [li_4, nI_eq (by omega) (by omega)]
  rw [nI_clamp (show n < 2 ^ 31 by omega), nI_clamp hj, nI_clamp (show m < 2 ^ 31 by omega), o4, b2_some]
  unfold f_X8_flight_88 f_X8_flight_58
  by_cases e4 : nI ((T.1.2.2 n).2 4).length ≤ nI j
  · rw [if_pos e4]
    rw [nI_leI (by omega) hj] at e4
    rw [if_neg (show ¬ j < ((T.1.2.2 n).2 4).length by omega), o5, b2_some, nI_subP e4]
    by_cases e5 : nI (j - ((T.1.2.2 n).2 4).length) < nI ((T.1.2.2 n).2 5).length
    · rw [if_pos e5]
      rw [nI_ltI (by omega) (by omega)] at e5
      rw [if_pos e5]
      by_cases e6 : nI m = 0
      · rw [if_pos e6, if_pos (Or.inl e6)]
        exact same _
      · rw [if_neg e6]
        by_cases e7 : nI m = 4
        · rw [if_pos e7, if_pos (Or.inr e7)]
          exact same _
        · rw [if_neg e7, if_neg (fun z => z.elim e6 e7)]
          rw [m0] at e6
          rw [m4] at e7
          have z := Rc.cell (t := 5) (i := j - ((T.1.2.2 n).2 4).length) (j := m - 1) rfl e5 (by rw [tw_5]; omega)
          simp only [tb_5, tw_5] at z
          have e8 : 105 + 4 * (j - ((T.1.2.2 n).2 4).length) + m - 1 = 105 + 4 * (j - ((T.1.2.2 n).2 4).length) + (m - 1) := by omega
          have o2 : f_X8_of 390 (nI n) (105 + 4 * nI (j - ((T.1.2.2 n).2 4).length) + nI m - 1) h = some (g5 (gr ((T.1.2.2 n).2 5) (j - ((T.1.2.2 n).2 4).length)) (m - 1), h) := by
            simp (disch := omega) only [li_105, li_4, li_1, nI_mul, nI_add, nI_subP, e8, M_of, z]
          rw [o2, b2_some]
          exact same _
    · rw [if_neg e5]
      rw [nI_ltI (by omega) (by omega)] at e5
      rw [if_neg e5]
      exact same _
  · rw [if_neg e4]
    rw [nI_leI (by omega) hj] at e4
    rw [if_pos (show j < ((T.1.2.2 n).2 4).length by omega)]
    by_cases e7 : nI m = 4
    · rw [if_pos e7, if_pos e7]
      have z := Rc.cell (t := 4) (i := j) (j := 5) rfl (by omega) (by rw [tw_4]; omega)
      simp only [tb_4, tw_4] at z
      have o2 : f_X8_of 390 (nI n) (81 + 6 * nI j + 5) h = some (g5 (gr ((T.1.2.2 n).2 4) j) 5, h) := by
        simp (disch := omega) only [li_81, li_6, li_5, nI_mul, nI_add, M_of, z]
      rw [o2, b2_some]
      exact same _
    · rw [if_neg e7, if_neg e7]
      have z := Rc.cell (t := 4) (i := j) (j := m) rfl (by omega) (by rw [tw_4]; rw [m4] at e7; omega)
      simp only [tb_4, tw_4] at z
      have o2 : f_X8_of 390 (nI n) (81 + 6 * nI j + nI m) h = some (g5 (gr ((T.1.2.2 n).2 4) j) m, h) := by
        simp (disch := omega) only [li_81, li_6, nI_mul, nI_add, M_of, z]
      rw [o2, b2_some]
      exact same _
