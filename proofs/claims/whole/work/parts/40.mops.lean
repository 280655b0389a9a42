/-! the reference: row, again, say, will, alias -/
theorem li_26 : (26 : Int32) = nI 26 := by decide +kernel
/-- all letters from k on -/
def tpF (row : List Int32) : Nat → Nat → Bool
  | 0, _ => true
  | d + 1, k => !(decide (26 < g5 row k)) && tpF row d (k + 1)
def isTp (row : List Int32) : Bool := Nat.blt 0 row.length && tpF row row.length 0
theorem M_isTopic_15 {h : Mem} {row : List Int32} (h5 : h 390 5 = nI row.length) (hl : row.length ≤ 4) (hr : 0 < row.length → ∀ j, j < 4 → h 395 j = g5 row j) : ∀ (d k n : Nat) (s : Bool), k + d = row.length → d < n → f_X8_isTopic_15 n 390 (bI s) (nI k) h = some (bI (s && tpF row d k), h) := by
  intro d
  induction d with
  | zero =>
    intro k n s h1 h2
    obtain ⟨n, rfl⟩ : ∃ z, n = z + 1 := ⟨n - 1, by omega⟩
    unfold f_X8_isTopic_15 tpF
    simp (disch := omega) only [h5, nI_leI, if_pos, zg_b, Bool.and_true]
  | succ d ih =>
    intro k n s h1 h2
    obtain ⟨n, rfl⟩ : ∃ z, n = z + 1 := ⟨n - 1, by omega⟩
    have z0 := ih (k + 1) n false (by omega) (by omega)
    have z1 := ih (k + 1) n true (by omega) (by omega)
    have rk := hr (by omega) k (by omega)
    unfold f_X8_isTopic_15 tpF f_X8_isTopic_42 f_X8_isTopic_43
    simp (disch := omega) only [h5, nI_leI, if_neg, bI_0, li_1, nI_add, xr_4, al_395, rk]
    cases s
    · rw [if_pos rfl]
      exact z0
    · rw [if_neg (by decide)]
      by_cases e : (26 : Int32) < g5 row k
      · rw [if_pos e, decide_eq_true e]
        exact z0
      · rw [if_neg e, decide_eq_false e]
        exact z1
theorem M_isTopic {h : Mem} {T : Top} (R : RMo h T) : f_X8_isTopic 390 h = some (bI (isTp T.2.1), h) := by
  obtain ⟨-, ⟨h5, hl, hr⟩, -⟩ := R
  unfold f_X8_isTopic f_X8_isTopic_12 isTp
  have z := fun s => M_isTopic_15 h5 hl hr T.2.1.length 0 xFU s (by omega) (by unfold xFU; omega)
  rw [h5, li_0]
  by_cases e : 0 < T.2.1.length
  · rw [if_neg (by rw [nI_leI (by omega) (by omega)]; omega)]
    have e2 : Nat.blt 0 T.2.1.length = true := Nat.blt_eq.mpr e
    rw [e2]
    exact z true
  · rw [if_pos (by rw [nI_leI (by omega) (by omega)]; omega)]
    have e2 : Nat.blt 0 T.2.1.length = false := by
      rw [Bool.eq_false_iff]
      intro q
      exact e (Nat.blt_eq.mp q)
    rw [e2]
    exact z false
theorem isTp_pos {row : List Int32} (h : isTp row = true) : 0 < row.length := by
  unfold isTp at h
  simp only [Bool.and_eq_true] at h
  exact Nat.blt_eq.mp h.1
theorem A_snd_4 : ∀ (d i : Nat) (cl : Cl), (A_snd d i cl).2 4 = cl.2 4
  | 0, _, _ => rfl
  | d + 1, i, cl => by
    unfold A_snd
    rw [A_snd_4 d (i + 1), A_sends_ne (by omega)]
theorem M_ag22 {c : Nat} (hc : c < 6) : ∀ (d i n : Nat) (cl : Cl) (h : Mem), i + d = (cl.2 4).length → d < n → RB (bk (h 391) c) cl → Tr (f_X8_again_22 n 390 (nI c) (nI i) h) (fun r h' => r = nI (cl.2 4).length ∧ MP c h cl h' (A_snd d i cl)) := by
  intro d
  induction d with
  | zero =>
    intro i n cl h h1 h2 R
    obtain ⟨n, rfl⟩ : ∃ z, n = z + 1 := ⟨n - 1, by omega⟩
    have q1 : h 391 (308 + 961 * c + 4) = nI (cl.2 4).length := (R.2 4 rfl).1
    have q2 := (R.2 4 rfl).2.1
    rw [tc_4] at q2
    unfold f_X8_again_22 A_snd
    simp (disch := omega) only [li_4, M_of, b2_some, q1, nI_leI, if_pos]
    exact wR ⟨rfl, MP.rf R⟩
  | succ d ih =>
    intro i n cl h h1 h2 R
    obtain ⟨n, rfl⟩ : ∃ z, n = z + 1 := ⟨n - 1, by omega⟩
    have q1 : h 391 (308 + 961 * c + 4) = nI (cl.2 4).length := (R.2 4 rfl).1
    have q2 := (R.2 4 rfl).2.1
    rw [tc_4] at q2
    unfold f_X8_again_22 A_snd
    simp (disch := omega) only [li_4, li_1, M_of, b2_some, q1, nI_leI, if_neg, nI_add]
    refine wB (M_sends hc R (by omega)) (fun _ g1 P => ?_)
    have e := A_sends_ne (cl := cl) (i := i) (t := 4) (by omega)
    exact wM (ih (i + 1) n (A_sends cl i) g1 (by rw [e]; omega) (by omega) P.1) (fun _ g2 Q => ⟨by rw [Q.1, e], P.tr Q.2⟩)
def O_again (T : Top) (c : Int32) : Int32 × Top :=
  if inR c 0 5 = false then (-1, T)
  else if ¬ (T.1.2.2 c.toNatClampNeg).1 0 = 1 then (-2, T)
  else (nI ((T.1.2.2 c.toNatClampNeg).2 4).length, sC T.1 c.toNatClampNeg (A_snd ((T.1.2.2 c.toNatClampNeg).2 4).length 0 (T.1.2.2 c.toNatClampNeg)), T.2)
theorem M_again (T : Top) (c : Int32) : MO (f_X8_again 390 c) (fun T => O_again T c) T := by
  intro h R
  unfold f_X8_again O_again
  rw [M_isClient, b2_some]
  simp only [bI_0]
  cases e1 : inR c 0 5
  · rw [if_pos rfl, if_pos rfl]
    exact wR ⟨rfl, R, fun _ _ => rfl⟩
  · rw [if_neg (by decide), if_neg (by decide)]
    obtain ⟨n, hn, rfl⟩ := inR_ex (b := 5) (by omega) e1
    rw [nI_clamp (by omega)]
    have hc : n < 6 := by omega
    have Rc := R.1.2.2.2.2 n hc
    have q2 := (Rc.2 4 rfl).2.1
    rw [tc_4] at q2
    rw [M_awake hc Rc, b2_some]
    by_cases ea : (T.1.2.2 n).1 0 = 1
    · rw [if_pos ea, if_neg (show ¬ (1 : Int32) = 0 by decide), if_neg (fun z => z ea), li_0]
      refine wM (M_ag22 hc _ 0 xFU _ h (by omega) (by unfold xFU; omega) Rc) (fun _ g P => ⟨P.1, R.st (R.1.cl hc P.2) (fun a q1 _ => P.2.2.1 a q1), fun a ha => P.2.2.1 a (by omega)⟩)
    · rw [if_neg ea, if_pos rfl, if_pos ea]
      exact wR ⟨rfl, R, fun _ _ => rfl⟩
/-- the topic of a letter -/
def tpc (T : Top) (c : Nat) (k : Nat) : Nat → Int32 := fun j => if k = 0 then g5 T.2.1 j else (T.1.2.2 c).1 (29 + 4 * (k - 1) + j)
def O_say (T : Top) (c k v p kp : Int32) : Int32 × Top :=
  if inR c 0 5 = false ∨ inR k 0 4 = false ∨ inR v 0 99 = false ∨ inR p 0 2 = false ∨ inR kp 0 1 = false then (-1, T)
  else if ¬ (T.1.2.2 c.toNatClampNeg).1 0 = 1 ∨ (k = 0 ∧ isTp T.2.1 = false) ∨ (¬ k = 0 ∧ (T.1.2.2 c.toNatClampNeg).1 (29 + 4 * (k.toNatClampNeg - 1)) = 0) then (-2, T)
  else (wnt (A_says T.1 (tpc T c.toNatClampNeg k.toNatClampNeg) v p kp) - wnt T.1, A_says T.1 (tpc T c.toNatClampNeg k.toNatClampNeg) v p kp, T.2)
theorem M_say98 {n k : Nat} {h : Mem} {T : Top} (hn : n < 6) (hk : k ≤ 4) (R : RMo h T) (S : ShOk T.1) (hrow : k = 0 → 0 < T.2.1.length) (v p kp : Int32) : Tr (f_X8_say_98 390 (nI n) (nI k) v p kp h) (fun r h' => r = wnt (A_says T.1 (tpc T n k) v p kp) - wnt T.1 ∧ RMo h' (A_says T.1 (tpc T n k) v p kp, T.2) ∧ ∀ a, a < 390 → h' a = h a) := by
  have Rc := R.1.2.2.2.2 n hn
  have rd : ∀ j, j < 4 → (if k = 0 then h 395 j else h 391 (308 + 961 * n + (29 + 4 * (k - 1) + j))) = tpc T n k j := by
    intro j hj
    unfold tpc
    by_cases e : k = 0
    · rw [if_pos e, if_pos e]
      exact R.2.1.2.2 (hrow e) j hj
    · rw [if_neg e, if_neg e]
      refine Rc.1 _ (by omega) ?_
      unfold ict
      simp only [Bool.or_eq_false_iff, beq_eq_false_iff_ne]
      omega
  have e : f_X8_say_98 390 (nI n) (nI k) v p kp h = b2 (f_X8_says 390 403 v p kp (set4 h 403 (tpc T n k))) fun v2 h1 => some (v2, h1) := by
    have r0 := rd 0 (by omega)
    have r1 := rd 1 (by omega)
    have r2 := rd 2 (by omega)
    have r3 := rd 3 (by omega)
    unfold f_X8_say_98
    obtain ⟨z, hz⟩ := xFUs
    rw [← mu4, hz, li_0]
    by_cases e : k = 0
    · subst e
      simp only [if_pos] at r0 r1 r2 r3
      unfold f_X8_say_101 f_X8_say_143
      simp (disch := omega) only [li_4, li_1, li_0, xr_4, xr_21, nI_leI, if_neg, nI_eq, if_pos, nI_add, al_395, as_403, Nat.zero_add, r0]
      unfold f_X8_say_101 f_X8_say_143
      simp (disch := omega) only [li_4, li_1, li_0, xr_4, xr_21, nI_leI, if_neg, nI_eq, if_pos, nI_add, al_395, as_403, mu_rdk, Nat.reduceAdd, r1]
      unfold f_X8_say_101 f_X8_say_143
      simp (disch := omega) only [li_4, li_1, li_0, xr_4, xr_21, nI_leI, if_neg, nI_eq, if_pos, nI_add, al_395, as_403, mu_rdk, Nat.reduceAdd, r2]
      unfold f_X8_say_101 f_X8_say_143
      simp (disch := omega) only [li_4, li_1, li_0, xr_4, xr_21, nI_leI, if_neg, nI_eq, if_pos, nI_add, al_395, as_403, mu_rdk, Nat.reduceAdd, r3]
      unfold f_X8_say_101
      simp (disch := omega) only [li_4, xr_21, nI_leI, if_pos]
      rw [if_pos trivial]
    · rw [if_neg e] at r0 r1 r2 r3
      unfold f_X8_say_101 f_X8_say_143
      simp (disch := omega) only [li_4, li_1, li_0, li_29, xr_21, nI_leI, if_neg, nI_eq, nI_subP, nI_mul, nI_add, M_of, b2_some, as_403, Nat.zero_add, r0]
      unfold f_X8_say_101 f_X8_say_143
      simp (disch := omega) only [li_4, li_1, li_0, li_29, xr_21, nI_leI, if_neg, nI_eq, nI_subP, nI_mul, nI_add, M_of, b2_some, as_403, mu_rdk, Nat.reduceAdd, r1]
      unfold f_X8_say_101 f_X8_say_143
      simp (disch := omega) only [li_4, li_1, li_0, li_29, xr_21, nI_leI, if_neg, nI_eq, nI_subP, nI_mul, nI_add, M_of, b2_some, as_403, mu_rdk, Nat.reduceAdd, r2]
      unfold f_X8_say_101 f_X8_say_143
      simp (disch := omega) only [li_4, li_1, li_0, li_29, xr_21, nI_leI, if_neg, nI_eq, nI_subP, nI_mul, nI_add, M_of, b2_some, as_403, mu_rdk, Nat.reduceAdd, r3]
      unfold f_X8_say_101
      simp (disch := omega) only [li_4, xr_21, nI_leI, if_pos]
  rw [e]
  have R2 : RM (set4 h 403 (tpc T n k) 391) T.1 := by rw [set4_ne (by omega)]; exact R.1
  have f2 : ∀ b, b ≠ 403 → set4 h 403 (tpc T n k) b = h b := fun b q => set4_ne q
  have t2 : ∀ j, j < 4 → set4 h 403 (tpc T n k) 403 j = tpc T n k j := fun j hj => set4_in hj
  generalize set4 h 403 (tpc T n k) = h2 at R2 f2 t2 ⊢
  obtain ⟨t, ht, W⟩ := M_says (a := 403) xl_403 (by omega) (by omega) R2 S v p kp
  refine wB W (fun r g P3 => ?_)
  have P4 := P3.2.1
  rw [A_says_congr (t' := tpc T n k) (fun j hj => (ht j hj).trans (t2 j hj))] at P4
  refine wR ⟨?_, R.st P4 (fun b q1 q2 => by rw [P3.2.2 b q1 (by omega), f2 b (by omega)]), fun b q => by rw [P3.2.2 b (by omega) (by omega), f2 b (by omega)]⟩
  rw [P3.1, P4.2.1.1, R2.2.1.1]
  rfl
theorem M_say (T : Top) (S : ShOk T.1) (c k v p kp : Int32) : MO (f_X8_say 390 c k v p kp) (fun T => O_say T c k v p kp) T := by
  intro h R
  unfold f_X8_say O_say
  have same : ∀ r : Int32, Tr (some (r, h)) (fun r' h' => r' = r ∧ RMo h' T ∧ ∀ a, a < 390 → h' a = h a) := fun r => wR ⟨rfl, R, fun _ _ => rfl⟩
  rw [M_isClient, b2_some, lo_0, lo_1, lo_2, lo_4, lo_99]
  simp only [M_in, bI_0, b2_some]
  cases e1 : inR c 0 5
  · rw [if_pos rfl, if_pos (by simp)]
    exact same _
  cases e2 : inR k 0 4
  · rw [if_neg (by decide), if_pos rfl, if_pos (by simp)]
    exact same _
  cases e3 : inR v 0 99
  · rw [if_neg (by decide), if_neg (by decide), if_pos rfl, if_pos (by simp)]
    exact same _
  cases e4 : inR p 0 2
  · rw [if_neg (by decide), if_neg (by decide), if_neg (by decide), if_pos rfl, if_pos (by simp)]
    exact same _
  cases e5 : inR kp 0 1
  · rw [if_neg (by decide), if_neg (by decide), if_neg (by decide), if_neg (by decide), if_pos rfl, if_pos (by simp)]
    exact same _
  rw [if_neg (by decide), if_neg (by decide), if_neg (by decide), if_neg (by decide), if_neg (by decide), if_neg (by simp)]
  obtain ⟨n, hn, rfl⟩ := inR_ex (b := 5) (by omega) e1
  obtain ⟨m, hm, rfl⟩ := inR_ex (b := 4) (by omega) e2
  rw [nI_clamp (show n < 2 ^ 31 by omega), nI_clamp (show m < 2 ^ 31 by omega)]
  have hc : n < 6 := by omega
  have Rc := R.1.2.2.2.2 n hc
  rw [M_awake hc Rc, b2_some]
  by_cases ea : (T.1.2.2 n).1 0 = 1
  · rw [if_pos ea, if_neg (show ¬ (1 : Int32) = 0 by decide)]
    by_cases ek : m = 0
    · subst ek
      rw [if_pos (show nI 0 = (0 : Int32) from rfl), M_isTopic R, b2_some]
      simp only [bI_0]
      cases et : isTp T.2.1
      · rw [if_pos rfl, if_pos (Or.inr (Or.inl ⟨rfl, rfl⟩))]
        exact same _
      · rw [if_neg (by decide), if_neg (by
          rintro (z | z | z)
          · exact z ea
          · cases z.2
          · exact z.1 rfl)]
        exact M_say98 hc (by omega) R S (fun _ => isTp_pos et) v p kp
    · have hk0 : ¬ nI m = 0 := nI_ne0 (by omega) (by omega)
      have rk : h 391 (308 + 961 * n + (29 + 4 * (m - 1))) = (T.1.2.2 n).1 (29 + 4 * (m - 1)) := by
        refine Rc.1 _ (by omega) ?_
        unfold ict
        simp only [Bool.or_eq_false_iff, beq_eq_false_iff_ne]
        omega
      rw [if_neg hk0]
      simp (disch := omega) only [li_29, li_4, li_1, nI_subP, nI_mul, nI_add, M_of, b2_some, rk]
      refine wIf (fun e0 => ?_) (fun e0 => ?_)
      · rw [if_pos (Or.inr (Or.inr ⟨hk0, e0⟩))]
        exact same _
      · rw [if_neg (by
          rintro (z | z | z)
          · exact z ea
          · exact hk0 z.1
          · exact e0 z.2)]
        exact M_say98 hc (by omega) R S (fun z => absurd z ek) v p kp
  · rw [if_neg ea, if_pos rfl, if_pos (Or.inl ea)]
    exact same _
