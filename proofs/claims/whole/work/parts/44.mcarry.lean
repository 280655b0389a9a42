/-! the reference: carry -/
def pkt (cl : Cl) (w : Int32) : Nat → Int32 := fun j => if w = 0 then g5 (gr (cl.2 6) 0) j else if j < 2 then g5 (gr (cl.2 7) 0) j else -4
theorem M_car67 {c : Nat} {cl : Cl} {h0 : Mem} {w a : Int32} (hc : c < 6) (R : RB (bk (h0 391) c) cl) (hl : 0 < (cl.2 (if w = 0 then 6 else 7)).length) : ∀ (d k n : Nat) (h : Mem), k + d = 6 → d < n → (∀ j, j < k → h 404 j = pkt cl w j) → (∀ b, b ≠ 404 → h b = h0 b) → ∃ h2, (∀ j, j < 6 → h2 404 j = pkt cl w j) ∧ (∀ b, b ≠ 404 → h2 b = h0 b) ∧ f_X8_carry_67 n 390 (nI c) w a (nI k) h = (if (2 : Int32) ≤ a then f_X8_carry_146 390 (nI c) w a (pkt cl w 0) h2 else b2 (f_X8_dropsFirst 390 (nI c) w h2) fun _ h3 => f_X8_carry_146 390 (nI c) w a (pkt cl w 0) h3) := by
  intro d
  induction d with
  | zero =>
    intro k n h h1 h2 h3 h4
    obtain ⟨n, rfl⟩ : ∃ z, n = z + 1 := ⟨n - 1, by omega⟩
    have e := h3 0 (by omega)
    refine ⟨h, fun j hj => h3 j (by omega), h4, ?_⟩
    unfold f_X8_carry_67
    simp (disch := omega) only [li_6, li_0, xr_22, nI_leI, if_pos, al_404, e]
  | succ d ih =>
    intro k n h h1 h2 h3 h4
    obtain ⟨n, rfl⟩ : ∃ z, n = z + 1 := ⟨n - 1, by omega⟩
    have e391 : h 391 = h0 391 := h4 391 (by omega)
    have go : ∃ h2, (∀ j, j < 6 → h2 404 j = pkt cl w j) ∧ (∀ b, b ≠ 404 → h2 b = h0 b) ∧ f_X8_carry_67 n 390 (nI c) w a (nI (k + 1)) (mu h 404 k (pkt cl w k)) = (if (2 : Int32) ≤ a then f_X8_carry_146 390 (nI c) w a (pkt cl w 0) h2 else b2 (f_X8_dropsFirst 390 (nI c) w h2) fun _ h3 => f_X8_carry_146 390 (nI c) w a (pkt cl w 0) h3) := by
      refine ih (k + 1) n _ (by omega) (by omega) (fun j hj => ?_) (fun b hb => by rw [mu_ne hb, h4 b hb])
      by_cases e : j = k
      · subst e
        rw [mu_rde rfl]
      · rw [mu_rdn e, h3 j (by omega)]
    obtain ⟨h5, g1, g2, g3⟩ := go
    refine ⟨h5, g1, g2, ?_⟩
    refine Eq.trans ?_ g3
    generalize hY : f_X8_carry_67 n 390 (nI c) w a (nI (k + 1)) (mu h 404 k (pkt cl w k)) = Y
    unfold f_X8_carry_67 f_X8_carry_120
    simp (disch := omega) only [li_6, nI_leI, if_neg, xr_22]
    by_cases ew : w = 0
    · have ek : h 391 (308 + 961 * c + (153 + k)) = pkt cl w k := by
        rw [if_pos ew] at hl
        have z := R.cell (t := 6) (i := 0) (j := k) rfl hl (by rw [tw_6]; omega)
        simp only [tb_6, tw_6, Nat.mul_zero, Nat.add_zero] at z
        rw [e391, z]
        unfold pkt
        rw [if_pos ew]
      rw [if_pos ew]
      simp (disch := omega) only [li_153, li_1, nI_add, M_of, b2_some, as_404, ek, hY]
    · rw [if_neg ew]
      by_cases e2 : 2 ≤ k
      · have ek : pkt cl w k = -4 := by
          unfold pkt
          rw [if_neg ew, if_neg (by omega)]
        rw [ek] at hY
        simp (disch := omega) only [li_2, li_1, nI_leI, if_pos, nI_add, as_404, hY]
      · have ek : h 391 (308 + 961 * c + (249 + k)) = pkt cl w k := by
          rw [if_neg ew] at hl
          have z := R.cell (t := 7) (i := 0) (j := k) rfl hl (by rw [tw_7]; omega)
          simp only [tb_7, tw_7, Nat.mul_zero, Nat.add_zero] at z
          rw [e391, z]
          unfold pkt
          rw [if_neg ew, if_pos (by omega)]
        simp (disch := omega) only [li_2, li_1, li_249, nI_leI, if_neg, nI_add, M_of, b2_some, as_404, ek, hY]
def A_car2 (cl : Cl) (w a : Int32) (pk : Nat → Int32) : Cl :=
  if a = 1 then cl else if w = 0 then A_carD cl (pk 0) (pk 1) (pk 2) (pk 3) (pk 4) (pk 5) else A_carU cl (pk 0) (pk 1)
theorem M_car146 {c : Nat} {h : Mem} {cl : Cl} {pk : Nat → Int32} (hc : c < 6) (R : RB (bk (h 391) c) cl) (wd : Wd cl) (hl : (cl.2 8).length < 560) (hp : ∀ j, j < 6 → h 404 j = pk j) (w a : Int32) : Tr (f_X8_carry_146 390 (nI c) w a (pk 0) h) (fun r h' => r = pk 0 ∧ MP c h cl h' (A_car2 cl w a pk)) := by
  unfold f_X8_carry_146 f_X8_carry_195 A_car2
  have p1 := hp 1 (by omega)
  have p2 := hp 2 (by omega)
  have p3 := hp 3 (by omega)
  have p4 := hp 4 (by omega)
  have p5 := hp 5 (by omega)
  by_cases ea : a = 1
  · rw [if_pos ea, if_pos ea, if_pos ea]
    exact wR ⟨rfl, MP.rf R⟩
  · rw [if_neg ea, if_neg ea, if_neg ea]
    by_cases ew : w = 0
    · rw [if_pos ew, if_pos ew]
      simp (disch := omega) only [li_1, li_2, li_3, li_4, li_5, xr_22, al_404, p1, p2, p3, p4, p5]
      exact wB (M_carD hc R hl _ _ _ _ _ _) (fun _ g P => wR ⟨rfl, P⟩)
    · rw [if_neg ew, if_neg ew]
      simp (disch := omega) only [li_1, xr_22, al_404, p1]
      exact wB (M_carU hc R wd _ _) (fun _ g P => wR ⟨rfl, P⟩)
def A_car (cl : Cl) (w a : Int32) : Cl := A_car2 (if (2 : Int32) ≤ a then cl else sT cl (if w = 0 then 6 else 7) ((cl.2 (if w = 0 then 6 else 7)).eraseIdx 0)) w a (pkt cl w)
theorem Wd.er {cl : Cl} (w : Wd cl) (t i : Nat) : Wd (sT cl t ((cl.2 t).eraseIdx i)) := by
  intro u hu r hr
  by_cases e : u = t
  · subst e
    rw [sT_eq] at hr
    exact w u hu r (List.mem_of_mem_eraseIdx hr)
  · rw [sT_ne e] at hr
    exact w u hu r hr
def O_carry (T : Top) (c w a : Int32) : Int32 × Top :=
  if inR c 0 5 = false ∨ inR w 0 1 = false ∨ inR a 0 2 = false then (-1, T)
  else if ¬ (T.1.2.2 c.toNatClampNeg).1 0 = 1 then (-2, T)
  else if ((T.1.2.2 c.toNatClampNeg).2 (if w = 0 then 6 else 7)).length = 0 then (-4, T)
  else (pkt (T.1.2.2 c.toNatClampNeg) w 0, sC T.1 c.toNatClampNeg (A_car (T.1.2.2 c.toNatClampNeg) w a), T.2)
theorem M_car {c : Nat} {h : Mem} {cl : Cl} (hc : c < 6) (R : RB (bk (h 391) c) cl) (wd : Wd cl) (h8 : (cl.2 8).length < 560) (w a : Int32) (hl : 0 < (cl.2 (if w = 0 then 6 else 7)).length) : Tr (f_X8_carry_67 xFU 390 (nI c) w a (nI 0) h) (fun r h' => r = pkt cl w 0 ∧ RB (bk (h' 391) c) (A_car cl w a) ∧ ∃ h2, (∀ b, b ≠ 404 → h2 b = h b) ∧ gE c h2 cl h' (A_car cl w a)) := by
  obtain ⟨h2, p1, p2, p3⟩ := M_car67 (a := a) hc R hl 6 0 xFU h (by omega) (by unfold xFU; omega) (fun j hj => by omega) (fun _ _ => rfl)
  rw [p3]
  have R2 : RB (bk (h2 391) c) cl := by rw [p2 391 (by omega)]; exact R
  unfold A_car
  by_cases ea : (2 : Int32) ≤ a
  · rw [if_pos ea, if_pos ea]
    exact wM (M_car146 hc R2 wd h8 p1 w a) (fun r g P => ⟨P.1, P.2.1, h2, p2, P.2.2⟩)
  · rw [if_neg ea, if_neg ea]
    have z : Tr (f_X8_dropsFirst 390 (nI c) w h2) (fun _ h' => MP c h2 cl h' (sT cl (if w = 0 then 6 else 7) ((cl.2 (if w = 0 then 6 else 7)).eraseIdx 0))) := by
      refine M_drop hc R2 w ?_ hl
      by_cases ew : w = 0
      · exact Or.inl ⟨ew, if_pos ew⟩
      · exact Or.inr ⟨ew, if_neg ew⟩
    refine wB z (fun _ g P => ?_)
    have h8' : ((sT cl (if w = 0 then 6 else 7) ((cl.2 (if w = 0 then 6 else 7)).eraseIdx 0)).2 8).length < 560 := by
      rw [sT_ne (by split <;> omega)]
      exact h8
    refine wM (M_car146 hc P.1 (wd.er _ _) h8' (fun j hj => by rw [P.2.1 404 (by omega)]; exact p1 j hj) w a) (fun r g2 Q => ⟨Q.1, Q.2.1, h2, p2, P.2.tr Q.2.2⟩)
theorem M_carry (T : Top) (w : ∀ c, c < 6 → Wd (T.1.2.2 c) ∧ ((T.1.2.2 c).2 8).length < 560) (c y a : Int32) : MO (f_X8_carry 390 c y a) (fun T => O_carry T c y a) T := by
  intro h R
  unfold f_X8_carry O_carry
  have same : ∀ r : Int32, Tr (some (r, h)) (fun r' h' => r' = r ∧ RMo h' T ∧ ∀ a, a < 390 → h' a = h a) := fun r => wR ⟨rfl, R, fun _ _ => rfl⟩
  rw [M_isClient, b2_some, lo_0, lo_1, lo_2]
  simp only [M_in, bI_0, b2_some]
  cases e1 : inR c 0 5
  · rw [if_pos rfl, if_pos (by simp)]
    exact same _
  cases e2 : inR y 0 1
  · rw [if_neg (by decide), if_pos rfl, if_pos (by simp)]
    exact same _
  cases e3 : inR a 0 2
  · rw [if_neg (by decide), if_neg (by decide), if_pos rfl, if_pos (by simp)]
    exact same _
  rw [if_neg (by decide), if_neg (by decide), if_neg (by decide), if_neg (by simp)]
  obtain ⟨n, hn, rfl⟩ := inR_ex (b := 5) (by omega) e1
  rw [nI_clamp (show n < 2 ^ 31 by omega)]
  have hc : n < 6 := by omega
  have Rc := R.1.2.2.2.2 n hc
  rw [M_awake hc Rc, b2_some]
  by_cases ea : (T.1.2.2 n).1 0 = 1
  · rw [if_pos ea, if_neg (show ¬ (1 : Int32) = 0 by decide), if_neg (show ¬ ¬ (T.1.2.2 n).1 0 = 1 from fun z => z ea)]
    have key : ∀ t, t = (if y = 0 then 6 else 7) → Tr (f_X8_carry_55 390 (nI n) y a 390 (nI n) (nI t) h) (fun r h' => r = (if ((T.1.2.2 n).2 (if y = 0 then 6 else 7)).length = 0 then ((-4 : Int32), T) else (pkt (T.1.2.2 n) y 0, sC T.1 n (A_car (T.1.2.2 n) y a), T.2)).1 ∧ RMo h' (if ((T.1.2.2 n).2 (if y = 0 then 6 else 7)).length = 0 then ((-4 : Int32), T) else (pkt (T.1.2.2 n) y 0, sC T.1 n (A_car (T.1.2.2 n) y a), T.2)).2 ∧ ∀ a, a < 390 → h' a = h a) := by
      intro t ht
      have ht2 : ict t = true := by rw [ht]; split <;> rfl
      have q1 : h 391 (308 + 961 * n + t) = nI ((T.1.2.2 n).2 t).length := (Rc.2 t ht2).1
      have q2 := (Rc.2 t ht2).2.1
      have q3 : tc t = 16 := by rw [ht]; split <;> rfl
      have q4 : t < 8 := by rw [ht]; split <;> omega
      rw [q3] at q2
      rw [← ht]
      unfold f_X8_carry_55
      rw [M_of hc (by omega), b2_some, q1]
      by_cases e0 : ((T.1.2.2 n).2 t).length = 0
      · rw [if_pos (by rw [e0]; rfl), if_pos e0]
        exact same _
      · rw [if_neg (nI_ne0 (by omega) (by omega)), if_neg e0, li_0]
        refine wM (M_car hc Rc (w n hc).1 (w n hc).2 y a (by rw [← ht]; omega)) (fun r g P => ?_)
        obtain ⟨p1, p2, h2, p3, p4⟩ := P
        have R2 : RM (h2 391) T.1 := by rw [p3 391 (by omega)]; exact R.1
        refine ⟨p1, R.st (R2.cl hc ⟨p2, p4⟩) (fun a b1 b2 => by rw [p4.1 a b1, p3 a (by omega)]), fun a ha => by rw [p4.1 a (by omega), p3 a (by omega)]⟩
    by_cases ew : y = 0
    · rw [if_pos ew, li_6]
      exact key 6 (by rw [if_pos ew])
    · rw [if_neg ew, li_7]
      exact key 7 (by rw [if_neg ew])
  · rw [if_neg ea, if_pos rfl, if_pos ea]
    exact same _
