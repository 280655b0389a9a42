/-! the whole object: state, row, tape, fault, images -/
abbrev Top : Type := St × List Int32 × List Int32 × Int32 × (Nat → Option St)
def RMo (h : Mem) (T : Top) : Prop := RM (h 391) T.1 ∧ (h 390 5 = nI T.2.1.length ∧ T.2.1.length ≤ 4 ∧ (0 < T.2.1.length → ∀ j, j < 4 → h 395 j = g5 T.2.1 j)) ∧ (h 390 7 = nI T.2.2.1.length ∧ T.2.2.1.length ≤ 200 ∧ ∀ j, j < T.2.2.1.length → h 396 j = g5 T.2.2.1 j) ∧ h 390 8 = T.2.2.2.1 ∧ ∀ k, k < 2 → h 394 k = bI (T.2.2.2.2 k).isSome ∧ ∀ s, T.2.2.2.2 k = some s → RM (fun x => h 393 (6074 * k + x)) s
theorem RMo.st {h h' : Mem} {T : Top} {st : St} (R : RMo h T) (R2 : RM (h' 391) st) (f : ∀ a, a ≠ 391 → a < 398 → h' a = h a) : RMo h' (st, T.2) := by
  obtain ⟨_, r2, r3, r4, r5⟩ := R
  refine ⟨R2, ?_, ?_, ?_, ?_⟩
  · rw [f 390 (by omega) (by omega), f 395 (by omega) (by omega)]; exact r2
  · rw [f 390 (by omega) (by omega), f 396 (by omega) (by omega)]; exact r3
  · rw [f 390 (by omega) (by omega)]; exact r4
  · intro k hk
    rw [f 394 (by omega) (by omega), f 393 (by omega) (by omega)]
    exact r5 k hk
theorem inR_ex {x : Int32} {b : Nat} (hb : b < 2 ^ 31) (h : inR x 0 (nI b) = true) : ∃ n, n ≤ b ∧ x = nI n := by
  unfold inR at h
  simp only [Bool.and_eq_true, Bool.not_eq_true', decide_eq_false_iff_not] at h
  obtain ⟨j, hj, e⟩ := nI_of h.1
  refine ⟨j, ?_, e⟩
  rw [e, nI_ltI hb hj] at h
  omega
/-- all in flight are sent again -/
def A_snd : Nat → Nat → Cl → Cl
  | 0, _, cl => cl
  | d + 1, i, cl => A_snd d (i + 1) (A_sends cl i)
theorem M_wk148 {c : Nat} (hc : c < 6) (g : Int32) : ∀ (d i n : Nat) (cl : Cl) (h : Mem), i + d = (cl.2 4).length → d < n → RB (bk (h 391) c) cl → Tr (f_X8_wake_148 n 390 (nI c) g (nI i) h) (fun r h' => r = (if g = 0 then 0 else 1) ∧ MP c h cl h' (A_qgo (A_snd d i cl))) := by
  intro d
  induction d with
  | zero =>
    intro i n cl h h1 h2 R
    obtain ⟨n, rfl⟩ : ∃ z, n = z + 1 := ⟨n - 1, by omega⟩
    have q1 : h 391 (308 + 961 * c + 4) = nI (cl.2 4).length := (R.2 4 rfl).1
    have q2 := (R.2 4 rfl).2.1
    rw [tc_4] at q2
    unfold f_X8_wake_148 A_snd
    simp (disch := omega) only [li_4, M_of, b2_some, q1, nI_leI, if_pos]
    refine wB (M_qgo hc R) (fun _ g1 P => ?_)
    unfold f_X8_flag
    by_cases e : g = 0
    · rw [if_pos e, b2_some]
      exact wR ⟨by rw [if_pos e], P⟩
    · rw [if_neg e, b2_some]
      exact wR ⟨by rw [if_neg e], P⟩
  | succ d ih =>
    intro i n cl h h1 h2 R
    obtain ⟨n, rfl⟩ : ∃ z, n = z + 1 := ⟨n - 1, by omega⟩
    have q1 : h 391 (308 + 961 * c + 4) = nI (cl.2 4).length := (R.2 4 rfl).1
    have q2 := (R.2 4 rfl).2.1
    rw [tc_4] at q2
    unfold f_X8_wake_148 A_snd
    simp (disch := omega) only [li_4, li_1, M_of, b2_some, q1, nI_leI, if_neg, nI_add]
    refine wB (M_sends hc R (by omega)) (fun _ g1 P => ?_)
    exact wM (ih (i + 1) n (A_sends cl i) g1 (by rw [A_sends_ne (by omega)]; omega) (by omega) P.1) (fun _ g2 Q => ⟨Q.1, P.tr Q.2⟩)
theorem li_20 : (20 : Int32) = nI 20 := by decide +kernel
theorem li_13 : (13 : Int32) = nI 13 := by decide +kernel
def A_wk0 (cl : Cl) (lf : Int32) : Cl := sT (sT (sS (sS (sS (sS cl 0 1) 1 lf) 12 0) 21 (-4)) 6 []) 7 []
def A_wk (cl : Cl) (lf : Int32) : Cl := A_qgo (A_snd (cl.2 4).length 0 (A_wk0 cl lf))
/-- scalars of a client, one by one -/
theorem MP.sc {c k : Nat} {h : Mem} {cl : Cl} (hc : c < 6) (R : RB (bk (h 391) c) cl) (hk : k < 45) (hct : ict k = false) (hk10 : k ≠ 10) (v : Int32) : MP c h cl (mu h 391 (308 + 961 * c + k) v) (sS cl k v) := by
  refine ⟨R.sc hk hct ?_ ?_, bE.g ⟨fun a ha => mu_ne ha, fun x hx => mu_rdn (by omega)⟩ (sS_ne (by omega)) (sS_ne (by omega)) (sS_ne (by omega)) (sS_ne (by omega))⟩
  · simp only [bk]
    rw [mu_rde rfl]
  · intro j hj hj2
    simp only [bk]
    rw [mu_rdn (by omega)]
theorem MP.clr {c t : Nat} {h : Mem} {cl : Cl} (hc : c < 6) (R : RB (bk (h 391) c) cl) (ht : ict t = true) : MP c h cl (mu h 391 (308 + 961 * c + t) 0) (sT cl t []) := by
  have q := treg ht
  refine ⟨R.tab ht ?_ (Tb.nil ?_), bE.g ⟨fun a ha => mu_ne ha, fun x hx => mu_rdn (by omega)⟩ rfl rfl rfl rfl⟩
  · intro k hk h1 h2
    simp only [bk]
    rw [mu_rdn (by omega)]
  · simp only [bk]
    rw [mu_rde rfl]
theorem M_wk74 {c : Nat} {h : Mem} {cl : Cl} (hc : c < 6) (R : RB (bk (h 391) c) cl) (lf g : Int32) : Tr (f_X8_wake_74 390 (nI c) lf g h) (fun r h' => r = (if g = 0 then 0 else 1) ∧ MP c h cl h' (A_wk cl lf)) := by
  unfold f_X8_wake_74
  have P0 := MP.sc (k := 0) hc R (by omega) rfl (by omega) 1
  have P1 := P0.tr (MP.sc (k := 1) hc P0.1 (by omega) rfl (by omega) lf)
  have P2 := P1.tr (MP.sc (k := 12) hc P1.1 (by omega) rfl (by omega) 0)
  have P3 := P2.tr (MP.sc (k := 21) hc P2.1 (by omega) rfl (by omega) (-4))
  have P4 := P3.tr (MP.clr (t := 6) hc P3.1 rfl)
  have P5 := P4.tr (MP.clr (t := 7) hc P4.1 rfl)
  have e : f_X8_wake_74 390 (nI c) lf g h = f_X8_wake_148 xFU 390 (nI c) g (nI 0) (mu (mu (mu (mu (mu (mu h 391 (308 + 961 * c + 0) 1) 391 (308 + 961 * c + 1) lf) 391 (308 + 961 * c + 12) 0) 391 (308 + 961 * c + 21) (-4)) 391 (308 + 961 * c + 6) 0) 391 (308 + 961 * c + 7) 0) := by
    unfold f_X8_wake_74
    simp (disch := omega) only [li_0, li_1, li_12, li_21, li_6, li_7, M_at, b2_some, xr_0, as_391]
  have z := M_wk148 hc g (cl.2 4).length 0 xFU (A_wk0 cl lf) _ (by rw [Nat.zero_add]; rfl) (by have := (R.2 4 rfl).2.1; rw [tc_4] at this; unfold xFU; omega) P5.1
  unfold f_X8_wake_74 at e
  rw [e]
  exact wM z (fun _ g2 Q => ⟨Q.1, P5.tr Q.2⟩)
def O_wake (T : Top) (c cln lf : Int32) : Int32 × Top :=
  if inR c 0 5 = false ∨ inR cln 0 1 = false ∨ inR lf 0 99 = false then (-1, T)
  else if (T.1.2.2 c.toNatClampNeg).1 0 = 1 then (-2, T)
  else if cln = 0 ∧ (T.1.2.2 c.toNatClampNeg).1 0 = 2 then (1, sC T.1 c.toNatClampNeg (A_wk (T.1.2.2 c.toNatClampNeg) lf), T.2)
  else (0, sC (A_fgt (sC T.1 c.toNatClampNeg (A_new (T.1.2.2 c.toNatClampNeg) 1))) c.toNatClampNeg (A_wk ((A_fgt (sC T.1 c.toNatClampNeg (A_new (T.1.2.2 c.toNatClampNeg) 1))).2.2 c.toNatClampNeg) lf), T.2)
/-- what a call of the reference does -/
def MO (f : Mem → Option (Int32 × Mem)) (o : Top → Int32 × Top) (T : Top) : Prop := ∀ h, RMo h T → Tr (f h) (fun r h' => r = (o T).1 ∧ RMo h' (o T).2 ∧ ∀ a, a < 390 → h' a = h a)
theorem M_wake (T : Top) (c cln lf : Int32) : MO (f_X8_wake 390 c cln lf) (fun T => O_wake T c cln lf) T := by
  intro h R
  unfold f_X8_wake O_wake
  have same : ∀ r : Int32, Tr (some (r, h)) (fun r' h' => r' = r ∧ RMo h' T ∧ ∀ a, a < 390 → h' a = h a) := fun r => wR ⟨rfl, R, fun _ _ => rfl⟩
  rw [M_isClient, b2_some]
  simp only [bI_0]
  cases e1 : inR c 0 5
  · rw [if_pos rfl, if_pos (Or.inl rfl)]
    exact same _
  · rw [if_neg (by decide), lo_0, lo_1, M_in, b2_some]
    simp only [bI_0]
    cases e2 : inR cln 0 1
    · rw [if_pos rfl, if_pos (Or.inr (Or.inl rfl))]
      exact same _
    · rw [if_neg (by decide), lo_99, M_in, b2_some]
      simp only [bI_0]
      cases e3 : inR lf 0 99
      · rw [if_pos rfl, if_pos (Or.inr (Or.inr rfl))]
        exact same _
      · rw [if_neg (by decide), if_neg (by simp)]
        obtain ⟨n, hn, rfl⟩ := inR_ex (b := 5) (by omega) e1
        rw [nI_clamp (by omega)]
        have hc : n < 6 := by omega
        have Rc := R.1.2.2.2.2 n hc
        have q0 : h 391 (308 + 961 * n + 0) = (T.1.2.2 n).1 0 := Rc.1 0 (by omega) rfl
        rw [M_awake hc Rc, b2_some]
        have new : Tr (f_X8_wake_61 390 (nI n) lf 0 h) (fun r h' => r = 0 ∧ RMo h' (sC (A_fgt (sC T.1 n (A_new (T.1.2.2 n) 1))) n (A_wk ((A_fgt (sC T.1 n (A_new (T.1.2.2 n) 1))).2.2 n) lf), T.2) ∧ ∀ a, a < 390 → h' a = h a) := by
          unfold f_X8_wake_61
          rw [if_pos rfl]
          refine wB (M_isNew hc R.1 1) (fun _ g1 P => ?_)
          refine wM (M_wk74 hc (P.1.2.2.2.2 n hc) lf 0) (fun _ g2 Q => ⟨Q.1, ?_, fun a ha => by rw [Q.2.2.1 a (by omega), P.2 a (by omega) (by omega) (by omega)]⟩)
          exact R.st (P.1.cl hc Q.2) (fun a q1 q2 => by rw [Q.2.2.1 a q1, P.2 a q1 (by omega) (by omega)])
        by_cases ea : (T.1.2.2 n).1 0 = 1
        · rw [if_pos ea, if_neg (show ¬ (1 : Int32) = 0 by decide), if_pos ea]
          exact same _
        · rw [if_neg ea, if_pos rfl, if_neg ea]
          by_cases ec : cln = 0
          · rw [if_pos ec, li_0, M_of hc (by omega), b2_some, q0]
            by_cases e22 : (T.1.2.2 n).1 0 = 2
            · rw [if_pos e22, if_pos ⟨ec, e22⟩]
              unfold f_X8_wake_61
              rw [if_neg (show ¬ (1 : Int32) = 0 by decide)]
              refine wM (M_wk74 hc Rc lf 1) (fun _ g2 Q => ⟨Q.1, ?_, fun a ha => by rw [Q.2.2.1 a (by omega)]⟩)
              exact R.st (R.1.cl hc Q.2) (fun a q1 q2 => by rw [Q.2.2.1 a q1])
            · rw [if_neg e22, if_neg (fun z => e22 z.2)]
              exact new
          · rw [if_neg ec, if_neg (fun z => ec z.1)]
            exact new
