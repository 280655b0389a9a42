/-! the reference: what its methods do to a client's block -/
def bk (f : Nat → Int32) (c : Nat) : Nat → Int32 := fun k => f (308 + 961 * c + k)
def bE (c : Nat) (h h' : Mem) : Prop := (∀ a, a ≠ 391 → h' a = h a) ∧ ∀ x, x < 308 + 961 * c ∨ 308 + 961 * c + 961 ≤ x → h' 391 x = h 391 x
theorem bE.rf {c : Nat} {h : Mem} : bE c h h := ⟨fun _ _ => rfl, fun _ _ => rfl⟩
theorem bE.tr {c : Nat} {h h1 h2 : Mem} (a : bE c h h1) (b : bE c h1 h2) : bE c h h2 := ⟨fun z hz => (b.1 z hz).trans (a.1 z hz), fun x hx => (b.2 x hx).trans (a.2 x hx)⟩
theorem tb_3 : tb 3 = 45 := rfl
theorem tb_4 : tb 4 = 81 := rfl
theorem tb_5 : tb 5 = 105 := rfl
theorem tb_6 : tb 6 = 153 := rfl
theorem tb_7 : tb 7 = 249 := rfl
theorem tb_8 : tb 8 = 401 := rfl
theorem tb_11 : tb 11 = 281 := rfl
theorem tw_3 : tw 3 = 6 := rfl
theorem tw_4 : tw 4 = 6 := rfl
theorem tw_5 : tw 5 = 4 := rfl
theorem tw_6 : tw 6 = 6 := rfl
theorem tw_7 : tw 7 = 2 := rfl
theorem tw_8 : tw 8 = 1 := rfl
theorem tw_11 : tw 11 = 4 := rfl
theorem tc_3 : tc 3 = 6 := rfl
theorem tc_4 : tc 4 = 4 := rfl
theorem tc_5 : tc 5 = 12 := rfl
theorem tc_6 : tc 6 = 16 := rfl
theorem tc_7 : tc 7 = 16 := rfl
theorem tc_8 : tc 8 = 560 := rfl
theorem tc_11 : tc 11 = 30 := rfl
theorem lt6 {P : Nat → Prop} (h0 : P 0) (h1 : P 1) (h2 : P 2) (h3 : P 3) (h4 : P 4) (h5 : P 5) : ∀ j, j < 6 → P j := by
  intro j hj
  rcases (show j = 0 ∨ j = 1 ∨ j = 2 ∨ j = 3 ∨ j = 4 ∨ j = 5 by omega) with rfl | rfl | rfl | rfl | rfl | rfl <;> assumption
theorem lt4 {P : Nat → Prop} (h0 : P 0) (h1 : P 1) (h2 : P 2) (h3 : P 3) : ∀ j, j < 4 → P j := by
  intro j hj
  rcases (show j = 0 ∨ j = 1 ∨ j = 2 ∨ j = 3 by omega) with rfl | rfl | rfl | rfl <;> assumption
theorem lt2 {P : Nat → Prop} (h0 : P 0) (h1 : P 1) : ∀ j, j < 2 → P j := by
  intro j hj
  rcases (show j = 0 ∨ j = 1 by omega) with rfl | rfl <;> assumption
def A_pd (cl : Cl) (r : List Int32) : Cl := if (cl.2 6).length < 16 then sT cl 6 (cl.2 6 ++ [r]) else cl
def A_pu (cl : Cl) (k n : Int32) : Cl := if (cl.2 7).length < 16 then sT cl 7 (cl.2 7 ++ [[k, n]]) else cl
def A_sends (cl : Cl) (i : Nat) : Cl :=
  if g5 (gr (cl.2 4) i) 5 = 1 then A_pd cl [3, g5 (gr (cl.2 4) i) 0, -4, -4, -4, 0]
  else A_pd cl [0, g5 (gr (cl.2 4) i) 0, g5 (gr (cl.2 4) i) 1, g5 (gr (cl.2 4) i) 2, g5 (gr (cl.2 4) i) 3, g5 (gr (cl.2 4) i) 4]
def A_flies (cl : Cl) (l p v k : Int32) : Cl := A_sends (sS (sT cl 4 (cl.2 4 ++ [[cl.1 9, l, p, v, k, 0]])) 9 (cl.1 9 + 1)) (cl.2 4).length
/-- a client's step: its block, and the four counts -/
def gE (c : Nat) (h : Mem) (cl : Cl) (h' : Mem) (cl' : Cl) : Prop := (∀ a, a ≠ 391 → h' a = h a) ∧ (∀ x, x < 308 + 961 * c ∨ 308 + 961 * c + 961 ≤ x → (x < 2 ∨ 6 ≤ x) → h' 391 x = h 391 x) ∧ h' 391 2 = h 391 2 + (cl'.1 50 - cl.1 50) ∧ h' 391 3 = h 391 3 + (cl'.1 51 - cl.1 51) ∧ h' 391 4 = h 391 4 + (cl'.1 10 - cl.1 10) ∧ h' 391 5 = h 391 5 + (cl'.1 52 - cl.1 52)
def MP (c : Nat) (h : Mem) (cl : Cl) (h' : Mem) (cl' : Cl) : Prop := RB (bk (h' 391) c) cl' ∧ gE c h cl h' cl'
theorem xz_add (a b : Int32) : a + (b - b) = a := by simp
theorem xz_tr (a x y z : Int32) : a + (x - y) + (z - x) = a + (z - y) := by
  rw [Int32.add_assoc]
  congr 1
  rw [Int32.sub_eq_add_neg, Int32.sub_eq_add_neg, Int32.sub_eq_add_neg, Int32.add_comm z (-x), ← Int32.add_assoc, Int32.add_assoc x, Int32.add_comm (-y), ← Int32.add_assoc x, ← Int32.sub_eq_add_neg x x, Int32.sub_self, Int32.zero_add, Int32.add_comm]
theorem xz_one (a y : Int32) : a + 1 = a + (y + 1 - y) := by
  congr 1
  rw [Int32.add_comm y 1, Int32.add_sub_cancel]
theorem gE.rf {c : Nat} {h : Mem} {cl : Cl} : gE c h cl h cl := ⟨fun _ _ => rfl, fun _ _ _ => rfl, (xz_add _ _).symm, (xz_add _ _).symm, (xz_add _ _).symm, (xz_add _ _).symm⟩
theorem gE.tr {c : Nat} {h h1 h2 : Mem} {cl cl1 cl2 : Cl} (a : gE c h cl h1 cl1) (b : gE c h1 cl1 h2 cl2) : gE c h cl h2 cl2 := by
  obtain ⟨a1, a2, a3, a4, a5, a6⟩ := a
  obtain ⟨b1, b2, b3, b4, b5, b6⟩ := b
  exact ⟨fun z hz => (b1 z hz).trans (a1 z hz), fun x hx hy => (b2 x hx hy).trans (a2 x hx hy), by rw [b3, a3, xz_tr], by rw [b4, a4, xz_tr], by rw [b5, a5, xz_tr], by rw [b6, a6, xz_tr]⟩
theorem MP.rf {c : Nat} {h : Mem} {cl : Cl} (R : RB (bk (h 391) c) cl) : MP c h cl h cl := ⟨R, gE.rf⟩
theorem MP.tr {c : Nat} {h h1 h2 : Mem} {cl cl1 cl2 : Cl} (a : MP c h cl h1 cl1) (b : MP c h1 cl1 h2 cl2) : MP c h cl h2 cl2 := ⟨b.1, a.2.tr b.2⟩
theorem bE.g {c : Nat} {h h' : Mem} {cl cl' : Cl} (e : bE c h h') (e1 : cl'.1 50 = cl.1 50) (e2 : cl'.1 51 = cl.1 51) (e3 : cl'.1 10 = cl.1 10) (e4 : cl'.1 52 = cl.1 52) : gE c h cl h' cl' :=
  ⟨e.1, fun x hx _ => e.2 x hx, by rw [e.2 2 (by omega), e1, xz_add], by rw [e.2 3 (by omega), e2, xz_add], by rw [e.2 4 (by omega), e3, xz_add], by rw [e.2 5 (by omega), e4, xz_add]⟩
theorem A_pd_1 (cl : Cl) (r : List Int32) : (A_pd cl r).1 = cl.1 := by unfold A_pd; split <;> rfl
theorem A_pu_1 (cl : Cl) (k n : Int32) : (A_pu cl k n).1 = cl.1 := by unfold A_pu; split <;> rfl
theorem A_sends_1 (cl : Cl) (i : Nat) : (A_sends cl i).1 = cl.1 := by unfold A_sends; split <;> exact A_pd_1 _ _
theorem sS_2 (cl : Cl) (k : Nat) (v : Int32) : (sS cl k v).2 = cl.2 := rfl
theorem sT_1 (cl : Cl) (t : Nat) (r : List (List Int32)) : (sT cl t r).1 = cl.1 := rfl
theorem sT_eq (cl : Cl) (t : Nat) (r : List (List Int32)) : (sT cl t r).2 t = r := ud_eq
theorem sT_ne {cl : Cl} {t u : Nat} {r : List (List Int32)} (e : u ≠ t) : (sT cl t r).2 u = cl.2 u := ud_ne e
theorem sS_eq (cl : Cl) (k : Nat) (v : Int32) : (sS cl k v).1 k = v := ud_eq
theorem sS_ne {cl : Cl} {k j : Nat} {v : Int32} (e : j ≠ k) : (sS cl k v).1 j = cl.1 j := ud_ne e
theorem wPt {γ β : Type} {F : Mem → Option (γ × Mem)} {k : γ → Mem → Option (β × Mem)} {Q : β → Mem → Prop} {H : Mem} (P : Mem → Prop) (hP : P H) (hK : ∀ h1, P h1 → Tr (b2 (F h1) k) Q) : Tr (b2 (F H) k) Q := hK H hP
theorem M_pd {c : Nat} {h : Mem} {cl : Cl} (hc : c < 6) (R : RB (bk (h 391) c) cl) (r0 r1 r2 r3 r4 r5 : Int32) : Tr (f_X8_packetDown 390 (nI c) r0 r1 r2 r3 r4 r5 h) (fun _ h' => MP c h cl h' (A_pd cl [r0, r1, r2, r3, r4, r5])) := by
  obtain ⟨q1, q2, q3⟩ := R.2 6 rfl
  simp only [tc_6] at q2
  generalize hn : (cl.2 6).length = n at q1 q2
  have hd : h 391 (308 + 961 * c + 6) = nI n := q1
  unfold Tr
  by_cases hlt : n < 16
  · simp (disch := omega) only [f_X8_packetDown, li_6, li_153, li_1, li_2, li_3, li_4, li_5, li_16, M_of, b2_some, hd, nI_leI, nI_mul, nI_add, M_at, xr_0, as_391, al_391, if_neg, mu_rde, mu_rdn]
    refine ⟨_, _, rfl, ?_, bE.g ⟨?_, ?_⟩ (by rw [A_pd_1]) (by rw [A_pd_1]) (by rw [A_pd_1]) (by rw [A_pd_1])⟩
    · rw [A_pd, if_pos (by omega)]
      refine R.tab (t := 6) rfl ?_ ((R.2 6 rfl).app (by rw [tc_6]; omega) ?_ ?_ ?_)
      · simp only [tb_6, tw_6, tc_6, bk]
        intro k hk h1 h2
        simp (disch := omega) only [mu_rdn]
      · simp (disch := omega) only [bk, mu_rde, mu_rdn, hn]
      · rw [tb_6, tw_6, hn]
        exact lt6 (by simp (disch := omega) only [bk, mu_rde, mu_rdn]; rfl) (by simp (disch := omega) only [bk, mu_rde, mu_rdn]; rfl) (by simp (disch := omega) only [bk, mu_rde, mu_rdn]; rfl) (by simp (disch := omega) only [bk, mu_rde, mu_rdn]; rfl) (by simp (disch := omega) only [bk, mu_rde, mu_rdn]; rfl) (by simp (disch := omega) only [bk, mu_rde, mu_rdn]; rfl)
      · simp only [tb_6, tw_6, hn, bk]
        intro k h1 h2
        simp (disch := omega) only [mu_rdn]
    · intro a ha
      simp (disch := omega) only [mu_ne]
    · intro x hx
      simp (disch := omega) only [mu_rdn]
  · simp (disch := omega) only [f_X8_packetDown, li_6, li_16, M_of, b2_some, hd, nI_leI, if_pos]
    refine ⟨_, _, rfl, ?_⟩
    rw [A_pd, if_neg (by omega)]
    exact MP.rf R
theorem M_pu {c : Nat} {h : Mem} {cl : Cl} (hc : c < 6) (R : RB (bk (h 391) c) cl) (r0 r1 : Int32) : Tr (f_X8_packetUp 390 (nI c) r0 r1 h) (fun _ h' => MP c h cl h' (A_pu cl r0 r1)) := by
  obtain ⟨q1, q2, q3⟩ := R.2 7 rfl
  simp only [tc_7] at q2
  generalize hn : (cl.2 7).length = n at q1 q2
  have hd : h 391 (308 + 961 * c + 7) = nI n := q1
  unfold Tr
  by_cases hlt : n < 16
  · simp (disch := omega) only [f_X8_packetUp, li_7, li_249, li_1, li_2, li_16, M_of, b2_some, hd, nI_leI, nI_mul, nI_add, M_at, xr_0, as_391, al_391, if_neg, mu_rde, mu_rdn]
    refine ⟨_, _, rfl, ?_, bE.g ⟨?_, ?_⟩ (by rw [A_pu_1]) (by rw [A_pu_1]) (by rw [A_pu_1]) (by rw [A_pu_1])⟩
    · rw [A_pu, if_pos (by omega)]
      refine R.tab (t := 7) rfl ?_ ((R.2 7 rfl).app (by rw [tc_7]; omega) ?_ ?_ ?_)
      · simp only [tb_7, tw_7, tc_7, bk]
        intro k hk h1 h2
        simp (disch := omega) only [mu_rdn]
      · simp (disch := omega) only [bk, mu_rde, mu_rdn, hn]
      · rw [tb_7, tw_7, hn]
        exact lt2 (by simp (disch := omega) only [bk, mu_rde, mu_rdn]; rfl) (by simp (disch := omega) only [bk, mu_rde, mu_rdn]; rfl)
      · simp only [tb_7, tw_7, hn, bk]
        intro k h1 h2
        simp (disch := omega) only [mu_rdn]
    · intro a ha
      simp (disch := omega) only [mu_ne]
    · intro x hx
      simp (disch := omega) only [mu_rdn]
  · simp (disch := omega) only [f_X8_packetUp, li_7, li_16, M_of, b2_some, hd, nI_leI, if_pos]
    refine ⟨_, _, rfl, ?_⟩
    rw [A_pu, if_neg (by omega)]
    exact MP.rf R
/-- a cell of a table, as the page has it -/
theorem RB.cell {c : Nat} {h : Mem} {cl : Cl} (R : RB (bk (h 391) c) cl) {t i j : Nat} (ht : ict t = true) (hi : i < (cl.2 t).length) (hj : j < tw t) : h 391 (308 + 961 * c + (tb t + tw t * i + j)) = g5 (gr (cl.2 t) i) j := (R.2 t ht).2.2 i j hi hj
theorem M_sends {c i : Nat} {h : Mem} {cl : Cl} (hc : c < 6) (R : RB (bk (h 391) c) cl) (hi : i < (cl.2 4).length) : Tr (f_X8_sends 390 (nI c) (nI i) h) (fun _ h' => MP c h cl h' (A_sends cl i)) := by
  have q2 := (R.2 4 rfl).2.1
  rw [tc_4] at q2
  have e0 := R.cell (t := 4) (j := 0) rfl hi (by rw [tw_4]; omega)
  have e1 := R.cell (t := 4) (j := 1) rfl hi (by rw [tw_4]; omega)
  have e2 := R.cell (t := 4) (j := 2) rfl hi (by rw [tw_4]; omega)
  have e3 := R.cell (t := 4) (j := 3) rfl hi (by rw [tw_4]; omega)
  have e4 := R.cell (t := 4) (j := 4) rfl hi (by rw [tw_4]; omega)
  have e5 := R.cell (t := 4) (j := 5) rfl hi (by rw [tw_4]; omega)
  simp only [tb_4, tw_4, Nat.add_zero, ← Nat.add_assoc] at e0 e1 e2 e3 e4 e5
  simp (disch := omega) only [f_X8_sends, li_81, li_6, li_5, nI_mul, nI_add, M_at, b2_some, xr_0, al_391, li_2, li_3, li_4, li_1, ← Nat.add_assoc, e0, e1, e2, e3, e4, e5]
  unfold A_sends
  refine wIf (fun q => ?_) (fun q => ?_)
  · rw [if_pos (show g5 (gr (cl.2 4) i) 5 = 1 from q)]
    exact wB (M_pd hc R _ _ _ _ _ _) (fun _ h1 p => wR p)
  · rw [if_neg (show ¬ g5 (gr (cl.2 4) i) 5 = 1 from q)]
    exact wB (M_pd hc R _ _ _ _ _ _) (fun _ h1 p => wR p)
theorem M_flies {c : Nat} {h : Mem} {cl : Cl} (hc : c < 6) (R : RB (bk (h 391) c) cl) (hl : (cl.2 4).length < 4) (l p v k : Int32) : Tr (f_X8_flies 390 (nI c) l p v k h) (fun _ h' => MP c h cl h' (A_flies cl l p v k)) := by
  obtain ⟨q1, q2, q3⟩ := R.2 4 rfl
  generalize hn : (cl.2 4).length = n at q1 hl
  have hd : h 391 (308 + 961 * c + 4) = nI n := q1
  have h9 : h 391 (308 + 961 * c + 9) = cl.1 9 := R.1 9 (by omega) rfl
  simp (disch := omega) only [f_X8_flies, li_4, li_81, li_6, li_9, li_1, li_2, li_3, li_5, M_of, b2_some, hd, nI_mul, nI_add, M_at, xr_0, as_391, al_391, mu_rde, mu_rdn, h9]
  unfold A_flies
  rw [hn]
  refine wPt (fun h1 => MP c h cl h1 (sS (sT cl 4 (cl.2 4 ++ [[cl.1 9, l, p, v, k, 0]])) 9 (cl.1 9 + 1))) ⟨?_, bE.g ⟨?_, ?_⟩ (by rw [sS_ne (by omega), sT_1]) (by rw [sS_ne (by omega), sT_1]) (by rw [sS_ne (by omega), sT_1]) (by rw [sS_ne (by omega), sT_1])⟩ (fun h1 P => wB (M_sends hc P.1 ?_) (fun _ h2 P2 => wR (P.tr P2)))
  · refine R.gen (t := 4) (s := ud cl.1 9 (cl.1 9 + 1)) rfl ?_ ?_ ((R.2 4 rfl).app (by rw [tc_4]; omega) ?_ ?_ ?_)
    · intro k hk hk2
      by_cases e : k = 9
      · subst e
        simp (disch := omega) only [bk, mu_rde, mu_rdn, ud_eq]
        rfl
      · have hne : k ≠ 4 := fun z => by rw [z] at hk2; cases hk2
        rw [ud_ne e, ← R.1 k hk hk2]
        simp (disch := omega) only [bk, mu_rdn]
    · simp only [tb_4, tw_4, tc_4, bk]
      intro k hk h0 h1 h2
      have hne : k ≠ 9 := by
        rintro rfl
        rcases h0 with z | z
        · omega
        · cases z
      simp (disch := omega) only [mu_rdn]
    · simp (disch := omega) only [bk, mu_rde, mu_rdn, hn]
    · rw [tb_4, tw_4, hn]
      exact lt6 (by simp (disch := omega) only [bk, mu_rde, mu_rdn]; rfl) (by simp (disch := omega) only [bk, mu_rde, mu_rdn]; rfl) (by simp (disch := omega) only [bk, mu_rde, mu_rdn]; rfl) (by simp (disch := omega) only [bk, mu_rde, mu_rdn]; rfl) (by simp (disch := omega) only [bk, mu_rde, mu_rdn]; rfl) (by simp (disch := omega) only [bk, mu_rde, mu_rdn]; rfl)
    · simp only [tb_4, tw_4, hn, bk]
      intro k h1 h2
      simp (disch := omega) only [mu_rdn]
  · intro a ha
    simp (disch := omega) only [mu_ne]
  · intro x hx
    simp (disch := omega) only [mu_rdn]
  · rw [sS_2, sT_eq, List.length_append, hn]
    exact Nat.lt_succ_self n
