/-! the reference: row and tape -/
theorem RMo.row {h h' : Mem} {T : Top} (R : RMo h T) (l : List Int32) (e5 : h' 390 5 = nI l.length) (hl : l.length ≤ 4) (hr : 0 < l.length → ∀ j, j < 4 → h' 395 j = g5 l j) (f : ∀ a, a ≠ 390 → a ≠ 395 → h' a = h a) (f5 : ∀ x, x ≠ 5 → h' 390 x = h 390 x) : RMo h' (T.1, l, T.2.2) := by
  obtain ⟨r1, _, r3, r4, r5⟩ := R
  refine ⟨by rw [f 391 (by omega) (by omega)]; exact r1, ⟨e5, hl, hr⟩, ?_, ?_, ?_⟩
  · rw [f5 7 (by omega), f 396 (by omega) (by omega)]; exact r3
  · rw [f5 8 (by omega)]; exact r4
  · intro k hk
    rw [f 394 (by omega) (by omega), f 393 (by omega) (by omega)]
    exact r5 k hk
theorem RMo.tp {h h' : Mem} {T : Top} (R : RMo h T) (l : List Int32) (e7 : h' 390 7 = nI l.length) (hl : l.length ≤ 200) (hr : ∀ j, j < l.length → h' 396 j = g5 l j) (f : ∀ a, a ≠ 390 → a ≠ 396 → h' a = h a) (f5 : ∀ x, x ≠ 7 → h' 390 x = h 390 x) : RMo h' (T.1, T.2.1, l, T.2.2.2) := by
  obtain ⟨r1, r2, _, r4, r5⟩ := R
  refine ⟨by rw [f 391 (by omega) (by omega)]; exact r1, ?_, ⟨e7, hl, hr⟩, ?_, ?_⟩
  · rw [f5 5 (by omega), f 395 (by omega) (by omega)]; exact r2
  · rw [f5 8 (by omega)]; exact r4
  · intro k hk
    rw [f 394 (by omega) (by omega), f 393 (by omega) (by omega)]
    exact r5 k hk
theorem li_200 : (200 : Int32) = nI 200 := by decide +kernel
theorem g5_app {l : List Int32} {x : Int32} {j : Nat} : g5 (l ++ [x]) j = if j < l.length then g5 l j else if j = l.length then x else 0 := by
  unfold g5
  by_cases e : j < l.length
  · rw [if_pos e]
    simp [List.getD, List.getElem?_append_left e]
  · rw [if_neg e]
    by_cases e2 : j = l.length
    · rw [if_pos e2, e2]
      simp [List.getD]
    · rw [if_neg e2]
      simp only [List.getD]
      rw [List.getElem?_eq_none (by simp; omega)]
      rfl
theorem g5_take {l : List Int32} {n j : Nat} (hj : j < n) : g5 (l.take n) j = g5 l j := by
  unfold g5
  simp [List.getD, List.getElem?_take, hj]
def O_feed (T : Top) (x : Int32) : Int32 × Top :=
  if inR x 0 127 = false then (-1, T)
  else if T.2.2.1.length = 200 then (-3, T)
  else (nI (T.2.2.1.length + 1), T.1, T.2.1, T.2.2.1 ++ [x], T.2.2.2)
theorem M_feed (T : Top) (x : Int32) : MO (f_X8_feed 390 x) (fun T => O_feed T x) T := by
  intro h R
  unfold f_X8_feed O_feed
  have same : ∀ r : Int32, Tr (some (r, h)) (fun r' h' => r' = r ∧ RMo h' T ∧ ∀ a, a < 390 → h' a = h a) := fun r => wR ⟨rfl, R, fun _ _ => rfl⟩
  obtain ⟨q1, q2, q3⟩ := R.2.2.1
  rw [lo_0, lo_127]
  simp only [M_in, bI_0, b2_some]
  cases e1 : inR x 0 127
  · rw [if_pos rfl, if_pos rfl]
    exact same _
  · rw [if_neg (show ¬ true = false by decide), if_neg (show ¬ true = false by decide), q1, li_200]
    simp only [nI_eq (show T.2.2.1.length < 2 ^ 31 by omega) (show 200 < 2 ^ 31 by omega)]
    by_cases e2 : T.2.2.1.length = 200
    · rw [if_pos e2, if_pos e2]
      exact same _
    · rw [if_neg e2, if_neg e2, xr_6, as_396 (by omega), mlet_eq, mu_rde rfl, mu_rdk (by omega), q1, li_1, nI_add]
      refine wR ⟨rfl, R.tp _ ?_ ?_ ?_ ?_ ?_, fun a ha => by rw [mu_ne (by omega), mu_ne (by omega)]⟩
      · rw [mu_rde rfl]; simp
      · simp; omega
      · intro j hj
        rw [mu_rdk (by omega), g5_app]
        simp at hj
        by_cases e3 : j < T.2.2.1.length
        · rw [if_pos e3, mu_rdn (by omega), q3 j e3]
        · rw [if_neg e3, if_pos (by omega), mu_rde (by omega)]
      · intro a b1 b2
        rw [mu_ne b1, mu_ne b2]
      · intro y hy
        rw [mu_rdn hy, mu_rdk (by omega)]
def O_end (T : Top) (n : Int32) : Int32 × Top :=
  if inR n 0 (nI T.2.2.1.length) = false then (-1, T)
  else (nI T.2.2.1.length, T.1, T.2.1, T.2.2.1.take n.toNatClampNeg, T.2.2.2)
theorem M_end (T : Top) (n : Int32) : MO (f_X8_end 390 n) (fun T => O_end T n) T := by
  intro h R
  unfold f_X8_end O_end
  obtain ⟨q1, q2, q3⟩ := R.2.2.1
  rw [lo_0]
  simp only [M_in, bI_0, b2_some]
  rw [q1]
  cases e1 : inR n 0 (nI T.2.2.1.length)
  · rw [if_pos rfl, if_pos rfl]
    exact wR ⟨rfl, R, fun _ _ => rfl⟩
  · rw [if_neg (by decide), if_neg (by decide), mlet_eq]
    obtain ⟨m, hm, rfl⟩ := inR_ex (by omega) e1
    rw [nI_clamp (by omega)]
    refine wR ⟨rfl, R.tp _ ?_ ?_ ?_ ?_ ?_, fun a ha => by rw [mu_ne (by omega)]⟩
    · rw [mu_rde rfl, List.length_take, Nat.min_eq_left hm]
    · rw [List.length_take]; omega
    · intro j hj
      rw [List.length_take] at hj
      rw [mu_rdk (by omega), g5_take (by omega), q3 j (by omega)]
    · intro a b1 b2
      rw [mu_ne b1]
    · intro y hy
      rw [mu_rdn hy]
def O_fault (T : Top) : Int32 × Top := (T.2.2.2.1, T)
theorem M_fault (T : Top) : MO (f_X8_fault 390) O_fault T := by
  intro h R
  unfold f_X8_fault O_fault
  exact wR ⟨R.2.2.2.1, R, fun _ _ => rfl⟩
/-- zero the row from k on -/
theorem M_zrow {A : Type} (F : Nat → Int32 → Mem → Option (A × Mem)) (D : Mem → A) (hd : ∀ n k h, 4 ≤ k → k < 10 → F (n + 1) (nI k) h = some (D h, h)) (hs : ∀ n k h, k < 4 → F (n + 1) (nI k) h = F n (nI (k + 1)) (mu h 395 k 0)) : ∀ (d k n : Nat) (h : Mem), k + d = 4 → d < n → ∃ h', F n (nI k) h = some (D h', h') ∧ (∀ a, a ≠ 395 → h' a = h a) ∧ ∀ j, h' 395 j = if k ≤ j ∧ j < 4 then 0 else h 395 j := by
  intro d
  induction d with
  | zero =>
    intro k n h h1 h2
    obtain ⟨n, rfl⟩ : ∃ z, n = z + 1 := ⟨n - 1, by omega⟩
    exact ⟨h, hd n k h (by omega) (by omega), fun _ _ => rfl, fun j => by rw [if_neg (by omega)]⟩
  | succ d ih =>
    intro k n h h1 h2
    obtain ⟨n, rfl⟩ : ∃ z, n = z + 1 := ⟨n - 1, by omega⟩
    obtain ⟨h', g1, g2, g3⟩ := ih (k + 1) n (mu h 395 k 0) (by omega) (by omega)
    refine ⟨h', by rw [hs n k h (by omega)]; exact g1, fun a ha => by rw [g2 a ha, mu_ne ha], fun j => ?_⟩
    rw [g3 j]
    by_cases e : j = k
    · subst e
      rw [if_neg (by omega), mu_rde rfl, if_pos (by omega)]
    · rw [mu_rdn e]
      by_cases e2 : k + 1 ≤ j ∧ j < 4
      · rw [if_pos e2, if_pos (by omega)]
      · rw [if_neg e2, if_neg (by omega)]
def O_top (T : Top) : Int32 × Top := (nI T.2.1.length, T.1, [], T.2.2)
theorem M_top (T : Top) : MO (f_X8_top 390) O_top T := by
  intro h R
  unfold f_X8_top O_top
  obtain ⟨q1, q2, q3⟩ := R.2.1
  rw [mlet_eq, q1, li_0]
  obtain ⟨h', g1, g2, g3⟩ := M_zrow (fun n k h => f_X8_top_12 n 390 (nI T.2.1.length) k h) (fun _ => nI T.2.1.length) (fun n k h h1 h2 => by
    unfold f_X8_top_12
    simp (disch := omega) only [li_4, nI_leI, if_pos]) (fun n k h h1 => by
    generalize hY : f_X8_top_12 n 390 (nI T.2.1.length) (nI (k + 1)) (mu h 395 k 0) = Y
    unfold f_X8_top_12
    simp (disch := omega) only [li_4, li_1, xr_4, nI_leI, if_neg, nI_add, as_395, hY]) 4 0 xFU (mu h 390 5 (nI 0)) (by omega) (by unfold xFU; omega)
  refine wE g1 ⟨rfl, R.row [] ?_ (by simp) (by simp) ?_ ?_, fun a ha => by rw [g2 a (by omega), mu_ne (by omega)]⟩
  · rw [g2 390 (by omega), mu_rde rfl]
    rfl
  · intro a b1 b2
    rw [g2 a b2, mu_ne b1]
  · intro x hx
    rw [g2 390 (by omega), mu_rdn hx]
def O_level (T : Top) (x : Int32) : Int32 × Top :=
  if inR x 1 28 = false then (-1, T)
  else if 0 < T.2.1.length ∧ g5 T.2.1 (T.2.1.length - 1) = 28 then (-2, T)
  else if T.2.1.length = 4 then (-3, T)
  else (nI (T.2.1.length + 1), T.1, T.2.1 ++ [x], T.2.2)
theorem M_level40 {h : Mem} {T : Top} (R : RMo h T) (x : Int32) : Tr (f_X8_level_40 390 x h) (fun r h' => r = (if T.2.1.length = 4 then (-3, T) else (nI (T.2.1.length + 1), T.1, T.2.1 ++ [x], T.2.2)).1 ∧ RMo h' (if T.2.1.length = 4 then ((-3 : Int32), T) else (nI (T.2.1.length + 1), T.1, T.2.1 ++ [x], T.2.2)).2 ∧ ∀ a, a < 390 → h' a = h a) := by
  obtain ⟨q1, q2, q3⟩ := R.2.1
  unfold f_X8_level_40
  rw [q1, li_4]
  simp only [nI_eq (show T.2.1.length < 2 ^ 31 by omega) (show 4 < 2 ^ 31 by omega)]
  by_cases e : T.2.1.length = 4
  · rw [if_pos e, if_pos e]
    exact wR ⟨rfl, R, fun _ _ => rfl⟩
  · rw [if_neg e, if_neg e, xr_4, as_395 (by omega), mlet_eq, mu_rde rfl, mu_rdk (by omega), q1, li_1, nI_add]
    obtain ⟨h', g1, g2, g3⟩ := M_zrow (fun n k h => f_X8_level_76 n 390 k h) (fun h => h 390 5) (fun n k h h1 h2 => by
      unfold f_X8_level_76
      simp (disch := omega) only [li_4, nI_leI, if_pos]) (fun n k h h1 => by
      generalize hY : f_X8_level_76 n 390 (nI (k + 1)) (mu h 395 k 0) = Y
      unfold f_X8_level_76
      rw [show (0 : Int32) = nI 0 from li_0] at hY
      simp (disch := omega) only [li_4, li_1, li_0, xr_4, nI_leI, if_neg, nI_add, as_395, hY]) (3 - T.2.1.length) (T.2.1.length + 1) xFU (mu (mu h 395 T.2.1.length x) 390 5 (nI (T.2.1.length + 1))) (by omega) (by unfold xFU; omega)
    have e5 : h' 390 5 = nI (T.2.1.length + 1) := by rw [g2 390 (by omega), mu_rde rfl]
    refine wE g1 ⟨e5, R.row (T.2.1 ++ [x]) ?_ (by simp; omega) ?_ ?_ ?_, fun a ha => by rw [g2 a (by omega), mu_ne (by omega), mu_ne (by omega)]⟩
    · rw [e5]
      simp
    · intro _ j hj
      rw [g3 j, mu_rdk (by omega), g5_app]
      by_cases e1 : j < T.2.1.length
      · rw [if_neg (by omega), mu_rdn (by omega), q3 (by omega) j hj, if_pos e1]
      · rw [if_neg e1]
        by_cases e2 : j = T.2.1.length
        · rw [if_neg (by omega), mu_rde e2, if_pos e2]
        · rw [if_pos (by omega), if_neg e2]
    · intro a b1 b2
      rw [g2 a b2, mu_ne b1, mu_ne b2]
    · intro y hy
      rw [g2 390 (by omega), mu_rdn hy, mu_rdk (by omega)]
theorem M_level (T : Top) (x : Int32) : MO (f_X8_level 390 x) (fun T => O_level T x) T := by
  intro h R
  unfold f_X8_level O_level
  obtain ⟨q1, q2, q3⟩ := R.2.1
  rw [lo_1, lo_28]
  simp only [M_in, bI_0, b2_some]
  cases e1 : inR x 1 28
  · rw [if_pos rfl, if_pos rfl]
    exact wR ⟨rfl, R, fun _ _ => rfl⟩
  · rw [if_neg (show ¬ true = false by decide), if_neg (show ¬ true = false by decide), q1, li_0]
    by_cases el : T.2.1.length = 0
    · rw [if_pos (by rw [nI_leI (by omega) (by omega)]; omega), if_neg (by omega)]
      exact M_level40 R x
    · rw [if_neg (by rw [nI_leI (by omega) (by omega)]; omega), li_1, nI_subP (by omega), xr_4, al_395 (by omega), q3 (by omega) _ (by omega)]
      by_cases e2 : g5 T.2.1 (T.2.1.length - 1) = 28
      · rw [if_pos e2, if_pos ⟨by omega, e2⟩]
        exact wR ⟨rfl, R, fun _ _ => rfl⟩
      · rw [if_neg e2, if_neg (fun z => e2 z.2)]
        exact M_level40 R x
