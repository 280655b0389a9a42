/-- a search: the first place from k on, of d, where P holds; z if there is none -/
def sIx (z : Int32) (P : Nat → Bool) : Nat → Nat → Int32
  | 0, _ => z
  | d + 1, k => if P k = true then nI k else sIx z P d (k + 1)
theorem sIx_spec (z : Int32) (P : Nat → Bool) : ∀ (d k : Nat), (sIx z P d k = z ∧ ∀ j, k ≤ j → j < k + d → P j = false) ∨ ∃ j, k ≤ j ∧ j < k + d ∧ sIx z P d k = nI j ∧ P j = true ∧ ∀ i, k ≤ i → i < j → P i = false
  | 0, k => Or.inl ⟨rfl, fun j h1 h2 => by omega⟩
  | d + 1, k => by
    unfold sIx
    by_cases q : P k = true
    · rw [if_pos q]
      exact Or.inr ⟨k, Nat.le_refl k, by omega, rfl, q, fun i h1 h2 => by omega⟩
    · rw [if_neg q]
      rcases sIx_spec z P d (k + 1) with ⟨e, h⟩ | ⟨j, h1, h2, h3, h4, h5⟩
      · refine Or.inl ⟨e, fun j h1 h2 => ?_⟩
        by_cases e2 : j = k
        · subst e2; simpa using q
        · exact h j (by omega) (by omega)
      · refine Or.inr ⟨j, by omega, by omega, h3, h4, fun i g1 g2 => ?_⟩
        by_cases e2 : i = k
        · subst e2; simpa using q
        · exact h5 i (by omega) g2
theorem nI_ne4 {j : Nat} (h : j < 2 ^ 31) : ¬ nI j = -4 := by
  intro e
  have := nI_pos' h
  rw [e] at this
  exact absurd this (by decide)
theorem RB.hi {b : Nat → Int32} {cl : Cl} (R : RB b cl) {k : Nat} (hk : 45 ≤ k) (v : Int32) : RB b (sS cl k v) := by
  refine ⟨fun j hj hc => ?_, R.2⟩
  rw [sS_ne (by omega)]
  exact R.1 j hj hc
theorem M_inc {c k z : Nat} {h : Mem} {cl : Cl} (R : RB (bk (h 391) c) cl) (hz : (z = 2 ∧ k = 50) ∨ (z = 3 ∧ k = 51) ∨ (z = 5 ∧ k = 52)) : MP c h cl (mu h 391 z (h 391 z + nI 1)) (sS cl k (cl.1 k + 1)) := by
  refine ⟨(R.hi (by omega) _).frame (fun j hj => by simp only [bk]; rw [mu_rdn (by omega)]), fun a ha => mu_ne ha, fun x hx hy => mu_rdn (by omega), ?_, ?_, ?_, ?_⟩
  · rcases hz with ⟨rfl, rfl⟩ | ⟨rfl, rfl⟩ | ⟨rfl, rfl⟩
    · rw [mu_rde rfl, sS_eq]; exact xz_one _ _
    · rw [mu_rdn (by omega), sS_ne (by omega), xz_add]
    · rw [mu_rdn (by omega), sS_ne (by omega), xz_add]
  · rcases hz with ⟨rfl, rfl⟩ | ⟨rfl, rfl⟩ | ⟨rfl, rfl⟩
    · rw [mu_rdn (by omega), sS_ne (by omega), xz_add]
    · rw [mu_rde rfl, sS_eq]; exact xz_one _ _
    · rw [mu_rdn (by omega), sS_ne (by omega), xz_add]
  · rw [mu_rdn (by omega), sS_ne (by omega), xz_add]
  · rcases hz with ⟨rfl, rfl⟩ | ⟨rfl, rfl⟩ | ⟨rfl, rfl⟩
    · rw [mu_rdn (by omega), sS_ne (by omega), xz_add]
    · rw [mu_rdn (by omega), sS_ne (by omega), xz_add]
    · rw [mu_rde rfl, sS_eq]; exact xz_one _ _
theorem wQ {β : Type} {F : Mem → Option (β × Mem)} {Q : β → Mem → Prop} {H : Mem} (P : Mem → Prop) (hP : P H) (hK : ∀ h1, P h1 → Tr (F h1) Q) : Tr (F H) Q := hK H hP
def A_lost (cl : Cl) : Cl := sS cl 51 (cl.1 51 + 1)
def A_goes1 (cl : Cl) (l p v k : Int32) : Cl :=
  if p = 0 then (if cl.1 0 = 1 then A_pd cl [0, 0, l, 0, v, k] else A_lost cl)
  else if cl.1 0 = 1 ∧ cl.2 5 = [] ∧ (cl.2 4).length < 4 then A_flies cl l p v k
  else if (cl.2 5).length < 12 then sT cl 5 (cl.2 5 ++ [[l, p, v, k]]) else A_lost cl
def A_goes (cl : Cl) (l p v k : Int32) : Cl := A_goes1 (sS cl 50 (cl.1 50 + 1)) l p v k
theorem M_goes_92 {c : Nat} {h : Mem} {cl : Cl} (hc : c < 6) (R : RB (bk (h 391) c) cl) (l p v k : Int32) : Tr (f_X8_goes_92 390 (nI c) l p v k h) (fun _ h' => MP c h cl h' (if (cl.2 5).length < 12 then sT cl 5 (cl.2 5 ++ [[l, p, v, k]]) else A_lost cl)) := by
  obtain ⟨q1, q2, q3⟩ := R.2 5 rfl
  simp only [tc_5] at q2
  generalize hn : (cl.2 5).length = n at q1 q2
  have hd : h 391 (308 + 961 * c + 5) = nI n := q1
  unfold f_X8_goes_92
  by_cases hlt : n < 12
  · simp (disch := omega) only [li_5, li_12, li_105, li_4, li_1, li_2, li_3, M_of, b2_some, hd, nI_leI, if_neg, nI_mul, nI_add, M_at, xr_0, as_391, al_391, mu_rde, mu_rdn]
    rw [if_pos hlt]
    refine wR ⟨?_, bE.g ⟨?_, ?_⟩ rfl rfl rfl rfl⟩
    · refine R.tab (t := 5) rfl ?_ ((R.2 5 rfl).app (by rw [tc_5]; omega) ?_ ?_ ?_)
      · simp only [tb_5, tw_5, tc_5, bk]
        intro k hk h1 h2
        simp (disch := omega) only [mu_rdn]
      · simp (disch := omega) only [bk, mu_rde, mu_rdn, hn]
      · rw [tb_5, tw_5, hn]
        exact lt4 (by simp (disch := omega) only [bk, mu_rde, mu_rdn]; rfl) (by simp (disch := omega) only [bk, mu_rde, mu_rdn]; rfl) (by simp (disch := omega) only [bk, mu_rde, mu_rdn]; rfl) (by simp (disch := omega) only [bk, mu_rde, mu_rdn]; rfl)
      · simp only [tb_5, tw_5, hn, bk]
        intro k h1 h2
        simp (disch := omega) only [mu_rdn]
    · intro a ha
      simp (disch := omega) only [mu_ne]
    · intro x hx
      simp (disch := omega) only [mu_rdn]
  · simp (disch := omega) only [li_5, li_12, li_3, li_1, M_of, b2_some, hd, nI_leI, if_pos, xr_0, as_391, al_391]
    rw [if_neg hlt]
    exact wR (M_inc R (by omega))
theorem M_goes {c : Nat} {h : Mem} {cl : Cl} (hc : c < 6) (R : RB (bk (h 391) c) cl) (l p v k : Int32) : Tr (f_X8_goes 390 (nI c) l p v k h) (fun _ h' => MP c h cl h' (A_goes cl l p v k)) := by
  unfold f_X8_goes
  simp (disch := omega) only [xr_0, li_2, li_1, al_391, as_391]
  have P := M_inc (z := 2) (k := 50) R (by omega)
  generalize mu h 391 2 (h 391 2 + nI 1) = h2 at P ⊢
  refine wM (P := fun _ h' => MP c h2 (sS cl 50 (cl.1 50 + 1)) h' (A_goes cl l p v k)) ?_ (fun _ h3 P2 => P.tr P2)
  have R2 := P.1
  unfold A_goes
  generalize sS cl 50 (cl.1 50 + 1) = cl2 at R2
  clear P
  unfold A_goes1
  refine wIf (fun hp => ?_) (fun hp => ?_)
  · rw [if_pos hp, M_awake hc R2, b2_some]
    by_cases ha : cl2.1 0 = 1
    · rw [if_pos ha, if_neg (show ¬ (1 : Int32) = 0 by decide), if_pos ha]
      exact wB (M_pd hc R2 _ _ _ _ _ _) (fun _ h1 p => wR p)
    · rw [if_neg ha, if_pos rfl, if_neg ha]
      simp (disch := omega) only [li_3, al_391, as_391]
      exact wR (M_inc R2 (by omega))
  · rw [if_neg hp, M_awake hc R2, b2_some]
    by_cases ha : cl2.1 0 = 1
    · rw [if_pos ha, if_neg (show ¬ (1 : Int32) = 0 by decide)]
      have e4 : h2 391 (308 + 961 * c + 4) = nI (cl2.2 4).length := (R2.2 4 rfl).1
      have e5 : h2 391 (308 + 961 * c + 5) = nI (cl2.2 5).length := (R2.2 5 rfl).1
      have q4 := (R2.2 4 rfl).2.1
      have q5 := (R2.2 5 rfl).2.1
      rw [tc_4] at q4
      rw [tc_5] at q5
      simp (disch := omega) only [li_5, li_4, li_0, M_of, b2_some, e4, e5, nI_eq, nI_leI]
      refine wIf (fun h5 => ?_) (fun h5 => ?_)
      · have h5' := List.eq_nil_of_length_eq_zero h5
        refine wIf (fun h4 => ?_) (fun h4 => ?_)
        · rw [if_neg (by omega)]
          exact M_goes_92 hc R2 l p v k
        · rw [if_pos ⟨ha, h5', by omega⟩]
          exact wB (M_flies hc R2 (by omega) _ _ _ _) (fun _ h1 p => wR p)
      · rw [if_neg (fun z => h5 (by rw [z.2.1]; rfl))]
        exact M_goes_92 hc R2 l p v k
    · rw [if_neg ha, if_pos rfl, if_neg (fun z => ha z.1)]
      exact M_goes_92 hc R2 l p v k
def A_takes (cl : Cl) (l p v k : Int32) : Cl := sT (sS cl 10 (cl.1 10 + 1)) 11 ((if (cl.2 11).length = 30 then (cl.2 11).eraseIdx 0 else cl.2 11) ++ [[l, v, p, k]])
theorem M_takes_100 {c : Nat} {h : Mem} {cl : Cl} (hc : c < 6) (R : RB (bk (h 391) c) cl) (hl : (cl.2 11).length < 30) (l p v k : Int32) : Tr (f_X8_takes_100 390 (nI c) l p v k h) (fun _ h' => MP c h cl h' (sT cl 11 (cl.2 11 ++ [[l, v, p, k]]))) := by
  obtain ⟨q1, q2, q3⟩ := R.2 11 rfl
  generalize hn : (cl.2 11).length = n at q1 hl
  have hd : h 391 (308 + 961 * c + 11) = nI n := q1
  unfold f_X8_takes_100
  simp (disch := omega) only [li_11, li_281, li_4, li_1, li_2, li_3, M_of, b2_some, hd, nI_mul, nI_add, M_at, xr_0, as_391, al_391, mu_rde, mu_rdn]
  refine wR ⟨?_, bE.g ⟨?_, ?_⟩ rfl rfl rfl rfl⟩
  · refine R.tab (t := 11) rfl ?_ ((R.2 11 rfl).app (by rw [tc_11]; omega) ?_ ?_ ?_)
    · simp only [tb_11, tw_11, tc_11, bk]
      intro k hk h1 h2
      simp (disch := omega) only [mu_rdn]
    · simp (disch := omega) only [bk, mu_rde, mu_rdn, hn]
    · rw [tb_11, tw_11, hn]
      exact lt4 (by simp (disch := omega) only [bk, mu_rde, mu_rdn]; rfl) (by simp (disch := omega) only [bk, mu_rde, mu_rdn]; rfl) (by simp (disch := omega) only [bk, mu_rde, mu_rdn]; rfl) (by simp (disch := omega) only [bk, mu_rde, mu_rdn]; rfl)
    · simp only [tb_11, tw_11, hn, bk]
      intro k h1 h2
      simp (disch := omega) only [mu_rdn]
  · intro a ha
    simp (disch := omega) only [mu_ne]
  · intro x hx
    simp (disch := omega) only [mu_rdn]
theorem M_takes_40 {c : Nat} (hc : c < 6) (l p v ak : Int32) : ∀ (d k n : Nat) (h : Mem), k + d = 116 → d < n →
    f_X8_takes_40 n 390 (nI c) l p v ak (nI k) h = f_X8_takes_100 390 (nI c) l p v ak (mu (shf h (308 + 961 * c + 281 + k) (308 + 961 * c + 281 + 116) 4) 391 (308 + 961 * c + 11) (h 391 (308 + 961 * c + 11) - nI 1)) := by
  intro d
  induction d with
  | zero =>
    intro k n h h1 h2
    obtain ⟨n, rfl⟩ : ∃ z, n = z + 1 := ⟨n - 1, by omega⟩
    unfold f_X8_takes_40
    simp (disch := omega) only [li_116, li_11, li_1, b2_some, nI_leI, if_pos, M_at, xr_0, al_391, as_391]
    rw [shf_done (by omega)]
  | succ d ih =>
    intro k n h h1 h2
    obtain ⟨n, rfl⟩ : ∃ z, n = z + 1 := ⟨n - 1, by omega⟩
    unfold f_X8_takes_40
    simp (disch := omega) only [li_116, li_281, li_4, li_1, b2_some, nI_leI, if_neg, nI_add, M_at, xr_0, al_391, as_391]
    rw [ih (k + 1) n _ (by omega) (by omega), mu_rdn (by omega)]
    rw [show 308 + 961 * c + (281 + k) = 308 + 961 * c + 281 + k by omega, show 308 + 961 * c + (281 + k + 4) = 308 + 961 * c + 281 + k + 4 by omega, show 308 + 961 * c + 281 + (k + 1) = 308 + 961 * c + 281 + k + 1 by omega, shf_step (by omega) (by omega)]
theorem M_inc10 {c : Nat} {h : Mem} {cl : Cl} (hc : c < 6) (R : RB (bk (h 391) c) cl) : MP c h cl (mu (mu h 391 4 (h 391 4 + nI 1)) 391 (308 + 961 * c + 10) (h 391 (308 + 961 * c + 10) + nI 1)) (sS cl 10 (cl.1 10 + 1)) := by
  have e : h 391 (308 + 961 * c + 10) = cl.1 10 := R.1 10 (by omega) rfl
  refine ⟨R.sc (k0 := 10) (by omega) rfl ?_ ?_, fun a ha => by rw [mu_ne ha, mu_ne ha], fun x hx hy => by rw [mu_rdn (by omega), mu_rdn (by omega)], ?_, ?_, ?_, ?_⟩
  · simp only [bk]
    rw [mu_rde rfl, e]
    rfl
  · intro k hk hk2
    simp only [bk]
    rw [mu_rdn (by omega), mu_rdn (by omega)]
  · rw [mu_rdn (by omega), mu_rdn (by omega), sS_ne (by omega), xz_add]
  · rw [mu_rdn (by omega), mu_rdn (by omega), sS_ne (by omega), xz_add]
  · rw [mu_rdn (by omega), mu_rde rfl, sS_eq]; exact xz_one _ _
  · rw [mu_rdn (by omega), mu_rdn (by omega), sS_ne (by omega), xz_add]
theorem M_takes {c : Nat} {h : Mem} {cl : Cl} (hc : c < 6) (R : RB (bk (h 391) c) cl) (l p v k : Int32) : Tr (f_X8_takes 390 (nI c) l p v k h) (fun _ h' => MP c h cl h' (A_takes cl l p v k)) := by
  unfold f_X8_takes
  have P := M_inc10 hc R
  simp (disch := omega) only [li_4, li_1, li_10, xr_0, b2_some, M_at, al_391, as_391, mu_rdn]
  generalize mu (mu h 391 4 (h 391 4 + nI 1)) 391 (308 + 961 * c + 10) (h 391 (308 + 961 * c + 10) + nI 1) = h2 at P ⊢
  have R2 := P.1
  have q2 := (R2.2 11 rfl).2.1
  have q1 : h2 391 (308 + 961 * c + 11) = nI (cl.2 11).length := (R2.2 11 rfl).1
  rw [tc_11, sS_2] at q2
  refine wM (P := fun _ h' => MP c h2 (sS cl 10 (cl.1 10 + 1)) h' (A_takes cl l p v k)) ?_ (fun _ h3 P2 => P.tr P2)
  simp (disch := omega) only [li_11, li_30, M_of, b2_some, q1, nI_eq]
  unfold A_takes
  refine wIf (fun e => ?_) (fun e => ?_)
  · rw [if_pos e, li_0, M_takes_40 hc _ _ _ _ 116 0 xFU h2 (by omega) (by unfold xFU; omega), q1, e, nI_subP (by omega)]
    refine wQ (F := f_X8_takes_100 390 (nI c) l p v k) (fun h1 => MP c h2 (sS cl 10 (cl.1 10 + 1)) h1 (sT (sS cl 10 (cl.1 10 + 1)) 11 ((cl.2 11).eraseIdx 0))) ⟨?_, bE.g ⟨?_, ?_⟩ rfl rfl rfl rfl⟩ (fun h1 P => wM (M_takes_100 hc P.1 (by rw [sT_eq]; simp [List.length_eraseIdx]; omega) l p v k) (fun _ h3 P3 => ?_))
    · refine R2.tab (t := 11) rfl ?_ ((R2.2 11 rfl).erase (i0 := 0) (by rw [sS_2]; omega) ?_ ?_ ?_)
      · simp only [tb_11, tw_11, tc_11, bk]
        intro k hk h1 h2
        rw [mu_rdn (by omega), shf_rdo (by omega)]
      · simp only [bk, sS_2, e]
        rw [mu_rde rfl]
      · simp only [tb_11, tw_11, bk, sS_2, e]
        intro k h1 h2
        rw [mu_rdn (by omega), shf_rdi (by omega)]
        congr 1
      · simp only [tb_11, tw_11]
        intro k h1 h2
        omega
    · intro a ha
      rw [mu_ne ha, shf_k ha]
    · intro x hx
      rw [mu_rdn (by omega), shf_rdo (by omega)]
    · have P4 := P.tr P3
      rw [sT_eq] at P4
      have e7 : sT (sT (sS cl 10 (cl.1 10 + 1)) 11 ((cl.2 11).eraseIdx 0)) 11 ((cl.2 11).eraseIdx 0 ++ [[l, v, p, k]]) = sT (sS cl 10 (cl.1 10 + 1)) 11 ((cl.2 11).eraseIdx 0 ++ [[l, v, p, k]]) := by
        simp only [sT]
        congr 1
        funext z
        simp only [ud]
        split <;> rfl
      rw [e7] at P4
      exact P4
  · rw [if_neg e]
    exact M_takes_100 hc R2 (by rw [sS_2]; omega) l p v k
