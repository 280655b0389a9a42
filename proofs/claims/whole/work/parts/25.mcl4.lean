def kP (rows : List (List Int32)) (x : Int32) : Nat → Bool := fun i => g5 (gr rows i) 0 == x
def A_kix (cl : Cl) (x : Int32) : Int32 := sIx (-4) (kP (cl.2 8) x) (cl.2 8).length 0
theorem M_knownOf_2 {c : Nat} {cl : Cl} {h : Mem} (hc : c < 6) (R : RB (bk (h 391) c) cl) (x : Int32) : ∀ (d k n : Nat), k + d = (cl.2 8).length → d < n →
    f_X8_knownOf_2 n 390 (nI c) x (nI k) h = some (sIx (-4) (kP (cl.2 8) x) d k, h) := by
  have q1 : h 391 (308 + 961 * c + 8) = nI (cl.2 8).length := (R.2 8 rfl).1
  have q2 := (R.2 8 rfl).2.1
  rw [tc_8] at q2
  intro d
  induction d with
  | zero =>
    intro k n h1 h2
    obtain ⟨n, rfl⟩ : ∃ z, n = z + 1 := ⟨n - 1, by omega⟩
    unfold f_X8_knownOf_2 sIx
    simp (disch := omega) only [li_8, M_of, b2_some, q1, nI_leI, if_pos]
  | succ d ih =>
    intro k n h1 h2
    obtain ⟨n, rfl⟩ : ∃ z, n = z + 1 := ⟨n - 1, by omega⟩
    have r0 := R.cell (t := 8) (i := k) (j := 0) rfl (by omega) (by rw [tw_8]; omega)
    simp only [tb_8, tw_8, Nat.one_mul, Nat.add_zero] at r0
    unfold f_X8_knownOf_2 sIx
    simp (disch := omega) only [li_8, li_401, li_1, M_of, b2_some, q1, nI_leI, if_neg, nI_add, r0]
    by_cases e : g5 (gr (cl.2 8) k) 0 = x
    · rw [if_pos e, if_pos (by simp [kP, e])]
    · rw [if_neg e, if_neg (by simp [kP, e])]
      exact ih (k + 1) n (by omega) (by omega)
theorem M_knownOf {c : Nat} {cl : Cl} {h : Mem} (hc : c < 6) (R : RB (bk (h 391) c) cl) (x : Int32) : f_X8_knownOf 390 (nI c) x h = some (A_kix cl x, h) := by
  have q2 := (R.2 8 rfl).2.1
  rw [tc_8] at q2
  exact M_knownOf_2 hc R x _ 0 xFU (by omega) (by unfold xFU; omega)
theorem M_known {c : Nat} {h : Mem} {cl : Cl} (hc : c < 6) (R : RB (bk (h 391) c) cl) (hl : (cl.2 8).length < 560) (x : Int32) : Tr (f_X8_known 390 (nI c) x h) (fun _ h' => MP c h cl h' (sT cl 8 (cl.2 8 ++ [[x]]))) := by
  obtain ⟨q1, q2, q3⟩ := R.2 8 rfl
  generalize hn : (cl.2 8).length = n at q1 hl
  have hd : h 391 (308 + 961 * c + 8) = nI n := q1
  unfold f_X8_known
  simp (disch := omega) only [li_8, li_401, li_1, M_of, b2_some, hd, nI_add, M_at, xr_0, as_391, al_391, mu_rde, mu_rdn]
  refine wR ⟨?_, bE.g ⟨?_, ?_⟩ rfl rfl rfl rfl⟩
  · refine R.tab (t := 8) rfl ?_ ((R.2 8 rfl).app (by rw [tc_8]; omega) ?_ ?_ ?_)
    · simp only [tb_8, tw_8, tc_8, bk]
      intro k hk h1 h2
      simp (disch := omega) only [mu_rdn]
    · simp (disch := omega) only [bk, mu_rde, mu_rdn, hn]
    · rw [tb_8, tw_8, hn]
      intro j hj
      have : j = 0 := by omega
      subst this
      simp (disch := omega) only [bk, mu_rde, mu_rdn]
      rfl
    · simp only [tb_8, tw_8, hn, bk]
      intro k h1 h2
      simp (disch := omega) only [mu_rdn]
  · intro a ha
    simp (disch := omega) only [mu_ne]
  · intro x hx
    simp (disch := omega) only [mu_rdn]
/-- the last takes the place of the one that goes -/
def A_swp (rows : List (List Int32)) (i : Nat) : List (List Int32) := (rows.set i [g5 (gr rows (rows.length - 1)) 0]).take (rows.length - 1)
def A_unk (cl : Cl) (x : Int32) : Cl := if A_kix cl x = -4 then cl else sT cl 8 (A_swp (cl.2 8) (A_kix cl x).toNatClampNeg)
theorem M_unknown {c : Nat} {h : Mem} {cl : Cl} (hc : c < 6) (R : RB (bk (h 391) c) cl) (x : Int32) : Tr (f_X8_unknown 390 (nI c) x h) (fun _ h' => MP c h cl h' (A_unk cl x)) := by
  unfold f_X8_unknown A_unk
  rw [M_knownOf hc R, b2_some]
  have q1 : h 391 (308 + 961 * c + 8) = nI (cl.2 8).length := (R.2 8 rfl).1
  have q2 := (R.2 8 rfl).2.1
  rw [tc_8] at q2
  refine wIf (fun e => ?_) (fun e => ?_)
  · rw [if_pos e]
    exact wR (MP.rf R)
  · rw [if_neg e]
    unfold A_kix at e ⊢
    rcases sIx_spec (-4) (kP (cl.2 8) x) (cl.2 8).length 0 with ⟨e2, -⟩ | ⟨j, h1, h2, h3, h4, h5⟩
    · exact absurd e2 e
    · rw [h3, nI_clamp (by omega)]
      have r0 := R.cell (t := 8) (i := (cl.2 8).length - 1) (j := 0) rfl (by omega) (by rw [tw_8]; omega)
      simp only [tb_8, tw_8, Nat.one_mul, Nat.add_zero] at r0
      simp (disch := omega) only [li_8, li_401, li_1, M_of, b2_some, q1, nI_add, nI_subP, M_at, xr_0, as_391, al_391, mu_rde, mu_rdn, r0]
      refine wR ⟨?_, bE.g ⟨?_, ?_⟩ rfl rfl rfl rfl⟩
      · refine R.tab (t := 8) rfl ?_ ⟨?_, ?_, ?_⟩
        · simp only [tb_8, tw_8, tc_8, bk]
          intro k hk g1 g2
          simp (disch := omega) only [mu_rdn]
        · simp only [bk]
          rw [mu_rdn (by omega), mu_rde rfl]
          congr 1
          simp [A_swp]
        · simp [A_swp, tc_8]
          omega
        · intro i k hi hk
          rw [tw_8] at hk
          have hk0 : k = 0 := by omega
          subst hk0
          have hi2 : i < (cl.2 8).length - 1 := by simp [A_swp] at hi; omega
          simp only [tb_8, tw_8, bk, Nat.one_mul, Nat.add_zero]
          by_cases e3 : i = j
          · subst e3
            rw [mu_rde rfl]
            simp [A_swp, gr, g5, List.getD, hi2, show i < (cl.2 8).length by omega]
          · rw [mu_rdn (by omega), mu_rdn (by omega)]
            have r1 := R.cell (t := 8) (i := i) (j := 0) rfl (by omega) (by rw [tw_8]; omega)
            simp only [tb_8, tw_8, Nat.one_mul, Nat.add_zero] at r1
            rw [r1]
            simp [A_swp, gr, List.getD, hi2, Ne.symm e3, List.getElem?_take, List.getElem?_eq_getElem (show i < (cl.2 8).length by omega)]
      · intro a ha
        simp (disch := omega) only [mu_ne]
      · intro x hx
        simp (disch := omega) only [mu_rdn]
def A_carD (cl : Cl) (kind num l p v k : Int32) : Cl :=
  if kind = 3 then A_pu (A_unk cl num) 4 num
  else if 2 ≤ p then (if A_kix cl num = -4 then A_pu (sT (A_takes cl l p v k) 8 (cl.2 8 ++ [[num]])) 2 num else A_pu cl 2 num)
  else (if p = 1 then A_pu (A_takes cl l p v k) 1 num else A_takes cl l p v k)
theorem A_takes_ne {cl : Cl} {l p v k : Int32} {t : Nat} (e : t ≠ 11) : (A_takes cl l p v k).2 t = cl.2 t := by
  unfold A_takes
  rw [sT_ne e, sS_2]
theorem M_carD {c : Nat} {h : Mem} {cl : Cl} (hc : c < 6) (R : RB (bk (h 391) c) cl) (hl : (cl.2 8).length < 560) (kind num l p v k : Int32) : Tr (f_X8_carriedDown 390 (nI c) kind num l p v k h) (fun _ h' => MP c h cl h' (A_carD cl kind num l p v k)) := by
  unfold f_X8_carriedDown A_carD f_X8_carriedDown_86
  refine wIf (fun e => ?_) (fun e => ?_)
  · rw [if_pos e]
    exact wB (M_unknown hc R num) (fun _ h1 P1 => wB (M_pu hc P1.1 _ _) (fun _ h2 P2 => wR (P1.tr P2)))
  · rw [if_neg e]
    refine wIf (fun e2 => ?_) (fun e2 => ?_)
    · rw [if_pos e2, M_knownOf hc R, b2_some]
      refine wIf (fun e3 => ?_) (fun e3 => ?_)
      · rw [if_pos e3]
        refine wB (M_takes hc R l p v k) (fun _ h1 P1 => wB (M_known hc P1.1 (by rw [A_takes_ne (by omega)]; exact hl) num) (fun _ h2 P2 => ?_))
        rw [A_takes_ne (by omega)] at P2
        exact wB (M_pu hc P2.1 _ _) (fun _ h3 P3 => wR ((P1.tr P2).tr P3))
      · rw [if_neg e3]
        exact wB (M_pu hc R _ _) (fun _ h3 P3 => wR P3)
    · rw [if_neg e2]
      refine wB (M_takes hc R l p v k) (fun _ h1 P1 => ?_)
      refine wIf (fun e3 => ?_) (fun e3 => ?_)
      · rw [if_pos e3]
        exact wB (M_pu hc P1.1 _ _) (fun _ h3 P3 => wR (P1.tr P3))
      · rw [if_neg e3]
        exact wR P1
def fP (rows : List (List Int32)) (x p : Int32) : Nat → Bool := fun i => g5 (gr rows i) 0 == x && g5 (gr rows i) 2 == p
def A_fix (cl : Cl) (x p : Int32) : Int32 := sIx (-4) (fP (cl.2 4) x p) (cl.2 4).length 0
theorem M_flightOf_3 {c : Nat} {cl : Cl} {h : Mem} (hc : c < 6) (R : RB (bk (h 391) c) cl) (x p : Int32) : ∀ (d k n : Nat), k + d = (cl.2 4).length → d < n →
    f_X8_flightOf_3 n 390 (nI c) x p (nI k) h = some (sIx (-4) (fP (cl.2 4) x p) d k, h) := by
  have q1 : h 391 (308 + 961 * c + 4) = nI (cl.2 4).length := (R.2 4 rfl).1
  have q2 := (R.2 4 rfl).2.1
  rw [tc_4] at q2
  intro d
  induction d with
  | zero =>
    intro k n h1 h2
    obtain ⟨n, rfl⟩ : ∃ z, n = z + 1 := ⟨n - 1, by omega⟩
    unfold f_X8_flightOf_3 sIx
    simp (disch := omega) only [li_4, M_of, b2_some, q1, nI_leI, if_pos]
  | succ d ih =>
    intro k n h1 h2
    obtain ⟨n, rfl⟩ : ∃ z, n = z + 1 := ⟨n - 1, by omega⟩
    have r0 := R.cell (t := 4) (i := k) (j := 0) rfl (by omega) (by rw [tw_4]; omega)
    have r2 := R.cell (t := 4) (i := k) (j := 2) rfl (by omega) (by rw [tw_4]; omega)
    simp only [tb_4, tw_4, Nat.add_zero] at r0
    simp only [tb_4, tw_4, ← Nat.add_assoc] at r2
    unfold f_X8_flightOf_3 sIx f_X8_flightOf_55
    simp (disch := omega) only [li_4, li_81, li_6, li_2, li_1, M_of, b2_some, q1, nI_leI, if_neg, nI_mul, nI_add, M_at, xr_0, al_391, ← Nat.add_assoc, r2]
    rw [show 308 + 961 * c + 81 + 6 * k = 308 + 961 * c + (81 + 6 * k) by omega, r0]
    by_cases e : g5 (gr (cl.2 4) k) 0 = x
    · rw [if_pos e]
      by_cases e2 : g5 (gr (cl.2 4) k) 2 = p
      · rw [if_pos e2, if_pos (by simp [fP, e, e2])]
      · rw [if_neg e2, if_neg (by simp [fP, e, e2])]
        exact ih (k + 1) n (by omega) (by omega)
    · rw [if_neg e, if_neg (by simp [fP, e])]
      exact ih (k + 1) n (by omega) (by omega)
theorem M_flightOf {c : Nat} {cl : Cl} {h : Mem} (hc : c < 6) (R : RB (bk (h 391) c) cl) (x p : Int32) : f_X8_flightOf 390 (nI c) x p h = some (A_fix cl x p, h) := by
  have q2 := (R.2 4 rfl).2.1
  rw [tc_4] at q2
  exact M_flightOf_3 hc R x p _ 0 xFU (by omega) (by unfold xFU; omega)
theorem M_off_29 {c m : Nat} (hc : c < 6) (hm : m ≤ 4) : ∀ (d k n : Nat) (h : Mem), k + d = 6 * m → d < n → h 391 (308 + 961 * c + 4) = nI m →
    f_X8_off_29 n 390 (nI c) (nI k) h = b2 (f_X8_queueGoesOn 390 (nI c) (shf h (308 + 961 * c + 81 + k) (308 + 961 * c + 81 + 6 * m) 6)) fun _ h3 => some ((), h3) := by
  intro d
  induction d with
  | zero =>
    intro k n h h1 h2 h3
    obtain ⟨n, rfl⟩ : ∃ z, n = z + 1 := ⟨n - 1, by omega⟩
    unfold f_X8_off_29
    simp (disch := omega) only [li_4, li_6, M_of, b2_some, h3, nI_mul, nI_leI, if_pos]
    rw [shf_done (by omega)]
  | succ d ih =>
    intro k n h h1 h2 h3
    obtain ⟨n, rfl⟩ : ∃ z, n = z + 1 := ⟨n - 1, by omega⟩
    unfold f_X8_off_29
    simp (disch := omega) only [li_4, li_6, li_81, li_1, M_of, b2_some, h3, nI_mul, nI_leI, if_neg, nI_add, M_at, xr_0, al_391, as_391]
    rw [ih (k + 1) n _ (by omega) (by omega) (by rw [mu_rdn (by omega)]; exact h3)]
    rw [show 308 + 961 * c + (81 + k) = 308 + 961 * c + 81 + k by omega, show 308 + 961 * c + (81 + k + 6) = 308 + 961 * c + 81 + k + 6 by omega, show 308 + 961 * c + 81 + (k + 1) = 308 + 961 * c + 81 + k + 1 by omega, shf_step (by omega) (by omega)]
def A_off (cl : Cl) (i : Nat) : Cl := A_qgo (sT (sS cl 52 (cl.1 52 + 1)) 4 ((cl.2 4).eraseIdx i))
theorem M_off {c i : Nat} {h : Mem} {cl : Cl} (hc : c < 6) (R : RB (bk (h 391) c) cl) (hi : i < (cl.2 4).length) : Tr (f_X8_off 390 (nI c) (nI i) h) (fun _ h' => MP c h cl h' (A_off cl i)) := by
  have P := M_inc (z := 5) (k := 52) R (by omega)
  have q2 := (R.2 4 rfl).2.1
  rw [tc_4] at q2
  unfold f_X8_off A_off
  simp (disch := omega) only [li_5, li_1, xr_0, al_391, as_391]
  generalize mu h 391 5 (h 391 5 + nI 1) = h2 at P ⊢
  have R2 := P.1
  have q1 : h2 391 (308 + 961 * c + 4) = nI (cl.2 4).length := (R2.2 4 rfl).1
  simp (disch := omega) only [li_4, li_6, b2_some, M_at, q1, nI_subP, nI_mul, al_391, as_391]
  rw [M_off_29 (m := (cl.2 4).length - 1) hc (by omega) (6 * ((cl.2 4).length - 1) - 6 * i) (6 * i) xFU _ (by omega) (by unfold xFU; omega) (by rw [mu_rde rfl])]
  refine wPt (fun h1 => MP c h2 (sS cl 52 (cl.1 52 + 1)) h1 (sT (sS cl 52 (cl.1 52 + 1)) 4 ((cl.2 4).eraseIdx i))) ⟨?_, bE.g ⟨?_, ?_⟩ rfl rfl rfl rfl⟩ (fun h1 P1 => wB (M_qgo hc P1.1) (fun _ h3 P3 => wR ((P.tr P1).tr P3)))
  · refine R2.tab (t := 4) rfl ?_ ((R2.2 4 rfl).erase (i0 := i) hi ?_ ?_ ?_)
    · simp only [tb_4, tw_4, tc_4, bk]
      intro k hk h1 h2
      rw [shf_rdo (by omega), mu_rdn (by omega)]
    · simp only [bk, sS_2]
      rw [shf_rdo (by omega), mu_rde rfl]
    · simp only [tb_4, tw_4, bk, sS_2]
      intro k h1 h2
      rw [shf_rdi (by omega), mu_rdn (by omega)]
      congr 1
    · simp only [tb_4, tw_4, bk]
      intro k h1 h2
      rw [shf_rdo (by omega), mu_rdn (by omega)]
  · intro a ha
    rw [shf_k ha, mu_ne ha]
  · intro x hx
    rw [shf_rdo (by omega), mu_rdn (by omega)]
def A_carU1 (cl : Cl) (kind num : Int32) (i : Nat) : Cl :=
  if kind = 2 then A_pd (sT cl 4 ((cl.2 4).set i ((gr (cl.2 4) i).set 5 1))) [3, num, -4, -4, -4, 0]
  else if kind = 1 ∨ g5 (gr (cl.2 4) i) 5 = 1 then A_off cl i else cl
def A_carU (cl : Cl) (kind num : Int32) : Cl :=
  if A_fix cl num (if kind = 1 then 1 else 2) = -4 then cl else A_carU1 cl kind num (A_fix cl num (if kind = 1 then 1 else 2)).toNatClampNeg
/-- all rows of the client's tables are of their width -/
def Wd (cl : Cl) : Prop := ∀ t, ict t = true → ∀ r ∈ cl.2 t, r.length = tw t
theorem Wd.row {cl : Cl} (w : Wd cl) {t i : Nat} (ht : ict t = true) (hi : i < (cl.2 t).length) : (gr (cl.2 t) i).length = tw t := by
  refine w t ht _ ?_
  simp [gr, List.getD, List.getElem?_eq_getElem hi]
theorem M_carU_13 {c : Nat} {h : Mem} {cl : Cl} (hc : c < 6) (R : RB (bk (h 391) c) cl) (w : Wd cl) (kind num p : Int32) : Tr (f_X8_carriedUp_13 390 (nI c) kind num 390 (nI c) num p h) (fun _ h' => MP c h cl h' (if A_fix cl num p = -4 then cl else A_carU1 cl kind num (A_fix cl num p).toNatClampNeg)) := by
  unfold f_X8_carriedUp_13
  rw [M_flightOf hc R, b2_some]
  have q2 := (R.2 4 rfl).2.1
  rw [tc_4] at q2
  refine wIf (fun e => ?_) (fun e => ?_)
  · rw [if_pos e]
    exact wR (MP.rf R)
  · rw [if_neg e]
    unfold A_fix at e ⊢
    rcases sIx_spec (-4) (fP (cl.2 4) num p) (cl.2 4).length 0 with ⟨e2, -⟩ | ⟨i, h1, h2, h3, h4, h5⟩
    · exact absurd e2 e
    · rw [h3, nI_clamp (by omega)]
      have hi : i < (cl.2 4).length := by omega
      have r5 := R.cell (t := 4) (i := i) (j := 5) rfl hi (by rw [tw_4]; omega)
      simp only [tb_4, tw_4] at r5
      simp (disch := omega) only [li_81, li_6, li_5, nI_mul, nI_add, M_of, b2_some, r5]
      unfold f_X8_carriedUp_50 f_X8_carriedUp_104 A_carU1
      have hoff : Tr (b2 (f_X8_off 390 (nI c) (nI i) h) fun _ h1 => some ((), h1)) (fun _ h' => MP c h cl h' (A_off cl i)) := wB (M_off hc R hi) (fun _ h1 P1 => wR P1)
      have hhad : ∀ e : kind = 2, Tr (b2 (f_X8_at (nI c) (nI 81 + nI 6 * nI i + nI 5) h) fun v2 h1 => ast h1 (xrf 390 0) v2 1 fun h3 => b2 (f_X8_packetDown 390 (nI c) 3 num (-4) (-4) (-4) 0 h3) fun _ h4 => some ((), h4)) (fun _ h' => MP c h cl h' (A_pd (sT cl 4 ((cl.2 4).set i ((gr (cl.2 4) i).set 5 1))) [3, num, -4, -4, -4, 0])) := by
        intro _
        simp (disch := omega) only [nI_mul, nI_add, M_at, b2_some, xr_0, as_391]
        refine wPt (fun h1 => MP c h cl h1 (sT cl 4 ((cl.2 4).set i ((gr (cl.2 4) i).set 5 1)))) ⟨?_, bE.g ⟨?_, ?_⟩ rfl rfl rfl rfl⟩ (fun h1 P => wB (M_pd hc P.1 _ _ _ _ _ _) (fun _ h2 P2 => wR (P.tr P2)))
        · refine R.tab (t := 4) rfl ?_ ((R.2 4 rfl).set hi (by rw [w.row rfl hi, tw_4]; omega) ?_ ?_ (w.row rfl hi) ?_)
          · simp only [tb_4, tw_4, tc_4, bk]
            intro k hk g1 g2
            rw [mu_rdn (by omega)]
          · simp only [bk]
            rw [mu_rdn (by omega)]
          · simp only [bk, tb_4, tw_4]
            rw [mu_rde (by omega)]
          · simp only [tb_4, tw_4, tc_4, bk]
            intro k g1 g2 g3
            rw [mu_rdn (by omega)]
        · intro a ha
          rw [mu_ne ha]
        · intro x hx
          rw [mu_rdn (by omega)]
      by_cases f5 : g5 (gr (cl.2 4) i) 5 = 1
      · rw [if_pos f5]
        refine wIf (fun e2 => ?_) (fun e2 => ?_)
        · rw [if_pos e2]
          exact hhad e2
        · rw [if_neg e2, if_pos (Or.inr f5)]
          refine wIf (fun e3 => hoff) (fun e3 => ?_)
          rw [if_neg (show ¬ (1 : Int32) = 0 by decide)]
          exact hoff
      · rw [if_neg f5]
        refine wIf (fun e2 => ?_) (fun e2 => ?_)
        · rw [if_pos e2]
          exact hhad e2
        · rw [if_neg e2]
          refine wIf (fun e3 => ?_) (fun e3 => ?_)
          · rw [if_pos (Or.inl e3)]
            exact hoff
          · rw [if_pos rfl, if_neg (fun z => z.elim e3 f5)]
            exact wR (MP.rf R)
theorem M_carU {c : Nat} {h : Mem} {cl : Cl} (hc : c < 6) (R : RB (bk (h 391) c) cl) (w : Wd cl) (kind num : Int32) : Tr (f_X8_carriedUp 390 (nI c) kind num h) (fun _ h' => MP c h cl h' (A_carU cl kind num)) := by
  unfold f_X8_carriedUp A_carU
  refine wIf (fun e => ?_) (fun e => ?_)
  · rw [if_pos e]
    exact M_carU_13 hc R w kind num 1
  · rw [if_neg e]
    exact M_carU_13 hc R w kind num 2
theorem M_drop_56 {c t w b : Nat} (hc : c < 6) (hw : 0 < w) (ht : t < 45) (hb : 45 ≤ b) {m : Nat} (hm : b + w * m + w ≤ 961) : ∀ (d k n : Nat) (h : Mem), k + d = w * m → d < n → h 391 (308 + 961 * c + t) = nI m →
    f_X8_dropsFirst_56 n 390 (nI c) (nI t) (nI w) (nI b) (nI k) h = some ((), shf h (308 + 961 * c + b + k) (308 + 961 * c + b + w * m) w) := by
  have hm2 : w * m < 961 := by omega
  intro d
  induction d with
  | zero =>
    intro k n h h1 h2 h3
    obtain ⟨n, rfl⟩ : ∃ z, n = z + 1 := ⟨n - 1, by omega⟩
    unfold f_X8_dropsFirst_56
    simp (disch := omega) only [M_of, b2_some, h3, nI_mul, nI_leI, if_pos]
    rw [shf_done (by omega)]
  | succ d ih =>
    intro k n h h1 h2 h3
    obtain ⟨n, rfl⟩ : ∃ z, n = z + 1 := ⟨n - 1, by omega⟩
    unfold f_X8_dropsFirst_56
    simp (disch := omega) only [li_1, M_of, b2_some, h3, nI_mul, nI_leI, if_neg, nI_add, M_at, xr_0, al_391, as_391]
    rw [ih (k + 1) n _ (by omega) (by omega) (by rw [mu_rdn (by omega)]; exact h3)]
    rw [show 308 + 961 * c + (b + k) = 308 + 961 * c + b + k by omega, show 308 + 961 * c + (b + k + w) = 308 + 961 * c + b + k + w by omega, show 308 + 961 * c + b + (k + 1) = 308 + 961 * c + b + k + 1 by omega, shf_step (by omega) hw]
/-- the first packet of a line goes: table 6 is the line down, table 7 the line up -/
theorem M_drop {c : Nat} {h : Mem} {cl : Cl} (hc : c < 6) (R : RB (bk (h 391) c) cl) {t : Nat} (way : Int32) (ht : (way = 0 ∧ t = 6) ∨ (¬ way = 0 ∧ t = 7)) (hl : 0 < (cl.2 t).length) : Tr (f_X8_dropsFirst 390 (nI c) way h) (fun _ h' => MP c h cl h' (sT cl t ((cl.2 t).eraseIdx 0))) := by
  have ht2 : t = 6 ∨ t = 7 := by omega
  have htc : ict t = true := by rcases ht2 with rfl | rfl <;> rfl
  have q1 : h 391 (308 + 961 * c + t) = nI (cl.2 t).length := (R.2 t htc).1
  have q2 := (R.2 t htc).2.1
  have hX : f_X8_dropsFirst 390 (nI c) way h = f_X8_dropsFirst_37 390 (nI c) (nI t) (nI (tw t)) (nI (tb t)) h := by
    unfold f_X8_dropsFirst f_X8_dropsFirst_11 f_X8_dropsFirst_22
    rcases ht with ⟨e, rfl⟩ | ⟨e, rfl⟩
    · rw [if_pos e, if_pos e, if_pos e]
      rfl
    · rw [if_neg e, if_neg e, if_neg e]
      rfl
  have hn : (cl.2 t).length ≤ 16 := by rcases ht2 with rfl | rfl <;> exact q2
  have hbw : 0 < tw t ∧ tw t ≤ 6 ∧ tb t + tw t * ((cl.2 t).length - 1) + tw t ≤ 961 ∧ tb t + tw t * tc t ≤ 961 ∧ 45 ≤ tb t ∧ tw t * ((cl.2 t).length - 1) ≤ 90 ∧ tw t * ((cl.2 t).length - 1) + tw t ≤ tw t * tc t := by rcases ht2 with rfl | rfl <;> simp [tb, tw, tc] <;> omega
  rw [hX]
  unfold f_X8_dropsFirst_37
  simp (disch := omega) only [li_1, M_at, b2_some, xr_0, al_391, as_391, q1, nI_subP]
  rw [li_0, M_drop_56 (m := (cl.2 t).length - 1) hc hbw.1 (by omega) hbw.2.2.2.2.1 hbw.2.2.1 (tw t * ((cl.2 t).length - 1)) 0 xFU _ (by omega) (by unfold xFU; omega) (by rw [mu_rde rfl])]
  refine wR ⟨?_, bE.g ⟨?_, ?_⟩ rfl rfl rfl rfl⟩
  · refine R.tab htc ?_ ((R.2 t htc).erase (i0 := 0) hl ?_ ?_ ?_)
    · simp only [bk]
      intro k hk h1 h2
      rw [shf_rdo (by omega), mu_rdn (by omega)]
    · simp only [bk]
      rw [shf_rdo (by omega), mu_rde rfl]
    · simp only [bk]
      intro k h1 h2
      rw [shf_rdi (by omega), mu_rdn (by omega)]
      congr 1
      omega
    · intro k h1 h2
      rw [Nat.mul_zero] at h2
      omega
  · intro a ha
    rw [shf_k ha, mu_ne ha]
  · intro x hx
    rw [shf_rdo (by omega), mu_rdn (by omega)]
