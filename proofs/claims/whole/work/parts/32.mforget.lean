/-! the reference: shares of which there is nothing any more -/
theorem amF_congr {cls : Nat → Cl} {s s' : Nat → Int32} (h : ∀ j, j < 5 → s j = s' j) : ∀ d c, amF cls s d c = amF cls s' d c
  | 0, _ => rfl
  | d + 1, c => by
    unfold amF
    rw [memIx_congr h, amF_congr h d (c + 1)]
theorem M_fg94 {i l : Nat} (hl : l ≤ i) (hi : i < 36) (kk : Nat → Int32 → Int32 → Mem → Option (Unit × Mem)) (h : Mem) : f_X8_forgets_94 kk xFU 390 (nI l) (nI i) (nI 0) h = kk 390 (nI (l + 1)) (nI (i + 1)) (mu (mu (mu (mu (mu (mu h 391 (92 + 6 * l) (h 391 (92 + 6 * i))) 391 (92 + 6 * l + 1) (h 391 (92 + 6 * i + 1))) 391 (92 + 6 * l + 2) (h 391 (92 + 6 * i + 2))) 391 (92 + 6 * l + 3) (h 391 (92 + 6 * i + 3))) 391 (92 + 6 * l + 4) (h 391 (92 + 6 * i + 4))) 391 (92 + 6 * l + 5) (h 391 (92 + 6 * i + 5))) := by
  obtain ⟨z, hz⟩ := xFUs
  have rd : ∀ (h : Mem) (x y : Nat), x < 6 → y < 6 → x < y → mu h 391 (92 + 6 * l + x) (h 391 (92 + 6 * i + x)) 391 (92 + 6 * i + y) = h 391 (92 + 6 * i + y) := fun h x y h1 h2 h3 => mu_rdn (by omega)
  rw [hz]
  unfold f_X8_forgets_94
  simp (disch := omega) only [li_6, li_1, li_92, xr_0, nI_leI, if_neg, nI_mul, nI_add, al_391, as_391, Nat.add_zero, Nat.zero_add]
  unfold f_X8_forgets_94
  simp (disch := omega) only [li_6, li_1, li_92, xr_0, nI_leI, if_neg, nI_mul, nI_add, al_391, as_391, mu_rdn, Nat.reduceAdd]
  unfold f_X8_forgets_94
  simp (disch := omega) only [li_6, li_1, li_92, xr_0, nI_leI, if_neg, nI_mul, nI_add, al_391, as_391, mu_rdn, Nat.reduceAdd]
  unfold f_X8_forgets_94
  simp (disch := omega) only [li_6, li_1, li_92, xr_0, nI_leI, if_neg, nI_mul, nI_add, al_391, as_391, mu_rdn, Nat.reduceAdd]
  unfold f_X8_forgets_94
  simp (disch := omega) only [li_6, li_1, li_92, xr_0, nI_leI, if_neg, nI_mul, nI_add, al_391, as_391, mu_rdn, Nat.reduceAdd]
  unfold f_X8_forgets_94
  simp (disch := omega) only [li_6, li_1, li_92, xr_0, nI_leI, if_neg, nI_mul, nI_add, al_391, as_391, mu_rdn, Nat.reduceAdd]
  unfold f_X8_forgets_94 f_X8_forgets_140
  simp (disch := omega) only [li_6, li_1, nI_leI, if_pos, nI_add]
theorem M_fg53 {cls : Nat → Cl} {key : Nat → Int32} {i l : Nat} (kk : Nat → Int32 → Int32 → Mem → Option (Unit × Mem)) : ∀ (d c n : Nat) (s : Bool) (h : Mem), c + d = 6 → d < n → RA h cls → h 398 = key →
    ∃ h', f_X8_forgets_53 kk n 390 (nI l) (nI i) (bI s) (nI c) h = (if (s || amF cls key d c) = true then f_X8_forgets_94 kk xFU 390 (nI l) (nI i) (nI 0) h' else kk 390 (nI l) (nI (i + 1)) h') ∧ ∀ a, a ≠ 401 → h' a = h a := by
  intro d
  induction d with
  | zero =>
    intro c n s h h1 h2 R hk
    obtain ⟨n, rfl⟩ : ∃ z, n = z + 1 := ⟨n - 1, by omega⟩
    refine ⟨h, ?_, fun _ _ => rfl⟩
    unfold f_X8_forgets_53 amF f_X8_forgets_140
    simp (disch := omega) only [li_6, li_1, li_0, nI_leI, if_pos, bI_n0, nI_add]
    cases s <;> rfl
  | succ d ih =>
    intro c n s h h1 h2 R hk
    obtain ⟨n, rfl⟩ : ∃ z, n = z + 1 := ⟨n - 1, by omega⟩
    unfold amF
    unfold f_X8_forgets_53 f_X8_forgets_75 f_X8_forgets_80
    simp (disch := omega) only [li_6, li_1, nI_leI, if_neg, bI_0, nI_add]
    cases s
    · rw [if_pos rfl, M_memberOf (by omega) (R c (by omega)), b2_some, hk]
      have R2 : RA (set4 h 401 (fun k => key (1 + k))) cls := fun i hi => by rw [set4_ne (by omega)]; exact R i hi
      have k2 : set4 h 401 (fun k => key (1 + k)) 398 = key := by rw [set4_ne (by omega)]; exact hk
      by_cases e2 : memIx (cls c) key = -4
      · rw [if_pos e2, e2]
        obtain ⟨h3, e3, f3⟩ := ih (c + 1) n false (set4 h 401 (fun k => key (1 + k))) (by omega) (by omega) R2 k2
        refine ⟨h3, ?_, fun a ha => by rw [f3 a ha, set4_ne ha]⟩
        simp at e3 ⊢
        exact e3
      · rw [if_neg e2]
        obtain ⟨h3, e3, f3⟩ := ih (c + 1) n true (set4 h 401 (fun k => key (1 + k))) (by omega) (by omega) R2 k2
        refine ⟨h3, ?_, fun a ha => by rw [f3 a ha, set4_ne ha]⟩
        simp only [Bool.true_or, if_true] at e3
        rw [beq_eq_false_iff_ne.mpr e2]
        simp at e3 ⊢
        exact e3
    · rw [if_neg (by decide)]
      obtain ⟨h3, e3, f3⟩ := ih (c + 1) n true h (by omega) (by omega) R hk
      exact ⟨h3, by simp at e3 ⊢; exact e3, f3⟩
theorem M_fg17 {i : Nat} (hi : i < 36) (l : Nat) (kk : Nat → Int32 → Int32 → Mem → Option (Unit × Mem)) (h : Mem) : f_X8_forgets_17 kk xFU 390 (nI l) (nI i) (nI 0) h = f_X8_forgets_53 kk xFU 390 (nI l) (nI i) (bI false) (nI 0) (set5 h 398 (fun k => h 391 (92 + 6 * i + k))) := by
  obtain ⟨z, hz⟩ := xFUs
  rw [← mu5, hz]
  unfold f_X8_forgets_17
  simp (disch := omega) only [li_5, li_6, li_1, li_92, xr_0, xr_16, nI_leI, if_neg, nI_mul, nI_add, al_391, as_398, Nat.add_zero, Nat.zero_add]
  unfold f_X8_forgets_17
  simp (disch := omega) only [li_5, li_6, li_1, li_92, xr_0, xr_16, nI_leI, if_neg, nI_mul, nI_add, al_391, as_398, mu_rdk, Nat.reduceAdd]
  unfold f_X8_forgets_17
  simp (disch := omega) only [li_5, li_6, li_1, li_92, xr_0, xr_16, nI_leI, if_neg, nI_mul, nI_add, al_391, as_398, mu_rdk, Nat.reduceAdd]
  unfold f_X8_forgets_17
  simp (disch := omega) only [li_5, li_6, li_1, li_92, xr_0, xr_16, nI_leI, if_neg, nI_mul, nI_add, al_391, as_398, mu_rdk, Nat.reduceAdd]
  unfold f_X8_forgets_17
  simp (disch := omega) only [li_5, li_6, li_1, li_92, xr_0, xr_16, nI_leI, if_neg, nI_mul, nI_add, al_391, as_398, mu_rdk, Nat.reduceAdd]
  unfold f_X8_forgets_17
  simp (disch := omega) only [li_5, nI_leI, if_pos]
  rw [← hz]
  rfl
def fgP (cls : Nat → Cl) (r : List Int32) : Bool := amA cls (g5 r)
theorem M_fg4 {cls : Nat → Cl} {rows : List (List Int32)} (hr : rows.length ≤ 36) : ∀ (d i n : Nat) (L : List (List Int32)) (h : Mem), i + d = rows.length → d < n → L = (rows.take i).filter (fgP cls) → RA h cls → h 391 7 = nI rows.length → (∀ x j, x < L.length → j < 6 → h 391 (92 + 6 * x + j) = g5 (gr L x) j) → (∀ x j, i ≤ x → x < rows.length → j < 6 → h 391 (92 + 6 * x + j) = g5 (gr rows x) j) →
    Tr (f_X8_forgets_4 n 390 (nI L.length) (nI i) h) (fun _ h' => (∀ a, a ≠ 391 → a ≠ 398 → a ≠ 401 → h' a = h a) ∧ (∀ x, x ≠ 7 → (x < 92 ∨ 308 ≤ x) → h' 391 x = h 391 x) ∧ GTb (h' 391) 7 92 6 36 (rows.filter (fgP cls))) := by
  intro d
  induction d with
  | zero =>
    intro i n L h h1 h2 hL R h7 hA hB
    obtain ⟨n, rfl⟩ : ∃ z, n = z + 1 := ⟨n - 1, by omega⟩
    have hL2 : L = rows.filter (fgP cls) := by rw [hL, List.take_of_length_le (by omega)]
    have hLl : L.length ≤ rows.length := by rw [hL2]; exact List.length_filter_le _ _
    unfold f_X8_forgets_4
    simp (disch := omega) only [li_7, xr_0, al_391, as_391, h7, nI_leI, if_pos]
    refine wR ⟨fun a h1 _ _ => mu_ne h1, fun x h1 _ => mu_rdn h1, ?_⟩
    rw [← hL2]
    exact ⟨mu_rde rfl, by omega, fun x j hx hj => by rw [mu_rdn (by omega)]; exact hA x j hx hj⟩
  | succ d ih =>
    intro i n L h h1 h2 hL R h7 hA hB
    obtain ⟨n, rfl⟩ : ∃ z, n = z + 1 := ⟨n - 1, by omega⟩
    have hLi : L.length ≤ i := by
      rw [hL]
      refine Nat.le_trans (List.length_filter_le _ _) ?_
      rw [List.length_take]
      omega
    have htake : rows.take (i + 1) = rows.take i ++ [gr rows i] := by
      rw [List.take_succ]
      congr 1
      simp [gr, List.getD, List.getElem?_eq_getElem (show i < rows.length by omega)]
    unfold f_X8_forgets_4
    simp (disch := omega) only [li_7, xr_0, al_391, h7, nI_leI, if_neg]
    rw [li_0, M_fg17 (by omega)]
    have R1 : RA (set5 h 398 (fun k => h 391 (92 + 6 * i + k))) cls := fun c hc => by rw [set5_ne (by omega)]; exact R c hc
    obtain ⟨h3, e3, f3⟩ := M_fg53 (cls := cls) (i := i) (l := L.length) (f_X8_forgets_4 n) 6 0 xFU false (set5 h 398 (fun k => h 391 (92 + 6 * i + k))) (by omega) (by unfold xFU; omega) R1 rfl
    have eP : amF cls (set5 h 398 (fun k => h 391 (92 + 6 * i + k)) 398) 6 0 = fgP cls (gr rows i) := by
      unfold fgP amA
      refine amF_congr (fun j hj => ?_) 6 0
      rw [set5_in hj]
      exact hB i j (Nat.le_refl i) (by omega) (by omega)
    rw [eP, Bool.false_or] at e3
    rw [e3]
    have h391 : h3 391 = h 391 := by rw [f3 391 (by omega), set5_ne (by omega)]
    have R3 : RA h3 cls := fun c hc => by rw [h391]; exact R c hc
    have fr : ∀ a, a ≠ 391 → a ≠ 398 → a ≠ 401 → h3 a = h a := fun a _ g2 g3 => by rw [f3 a g3, set5_ne g2]
    cases eg : fgP cls (gr rows i)
    · rw [if_neg (by decide)]
      refine wM (ih (i + 1) n L h3 (by omega) (by omega) (by rw [htake, List.filter_append, ← hL]; simp [eg]) R3 (by rw [h391]; exact h7) (fun x j hx hj => by rw [h391]; exact hA x j hx hj) (fun x j g1 g2 g3 => by rw [h391]; exact hB x j (by omega) g2 g3)) (fun _ h4 P => ?_)
      exact ⟨fun a g1 g2 g3 => (P.1 a g1 g2 g3).trans (fr a g1 g2 g3), fun x g1 g2 => by rw [P.2.1 x g1 g2, h391], P.2.2⟩
    · rw [if_pos rfl, M_fg94 hLi (by omega)]
      have hL2 : L ++ [gr rows i] = (rows.take (i + 1)).filter (fgP cls) := by rw [htake, List.filter_append, ← hL]; simp [eg]
      have z := ih (i + 1) n (L ++ [gr rows i]) (mu (mu (mu (mu (mu (mu h3 391 (92 + 6 * L.length) (h3 391 (92 + 6 * i))) 391 (92 + 6 * L.length + 1) (h3 391 (92 + 6 * i + 1))) 391 (92 + 6 * L.length + 2) (h3 391 (92 + 6 * i + 2))) 391 (92 + 6 * L.length + 3) (h3 391 (92 + 6 * i + 3))) 391 (92 + 6 * L.length + 4) (h3 391 (92 + 6 * i + 4))) 391 (92 + 6 * L.length + 5) (h3 391 (92 + 6 * i + 5))) (by omega) (by omega) hL2 ?_ ?_ ?_ ?_
      · rw [List.length_append] at z
        refine wM z (fun _ h4 P => ?_)
        refine ⟨fun a g1 g2 g3 => ?_, fun x g1 g2 => ?_, P.2.2⟩
        · rw [P.1 a g1 g2 g3, ← fr a g1 g2 g3]
          simp (disch := omega) only [mu_ne]
        · rw [P.2.1 x g1 g2, ← h391]
          simp (disch := omega) only [mu_rdn]
      · intro c hc
        refine (R3 c hc).frame (fun k hk => ?_)
        simp only [bk]
        simp (disch := omega) only [mu_rdn]
      · rw [← h7, ← h391]
        simp (disch := omega) only [mu_rdn]
      · intro x j hx hj
        rw [List.length_append] at hx
        by_cases ex : x = L.length
        · have hg : gr (L ++ [gr rows i]) x = gr rows i := by subst ex; simp [gr, List.getD]
          rw [hg, ← hB i j (Nat.le_refl i) (by omega) hj, ← h391]
          subst ex
          rcases (show j = 0 ∨ j = 1 ∨ j = 2 ∨ j = 3 ∨ j = 4 ∨ j = 5 by omega) with rfl | rfl | rfl | rfl | rfl | rfl <;> simp (disch := omega) only [mu_rde, mu_rdn, Nat.add_zero]
        · have hx2 : x < L.length := by simp at hx; omega
          have hg : gr (L ++ [gr rows i]) x = gr L x := by simp [gr, List.getD, List.getElem?_append_left hx2]
          rw [hg, ← hA x j hx2 hj, ← h391]
          simp (disch := omega) only [mu_rdn]
      · intro x j g1 g2 g3
        rw [← hB x j (by omega) g2 g3, ← h391]
        simp (disch := omega) only [mu_rdn]
theorem M_forgets {cls : Nat → Cl} {rows : List (List Int32)} {h : Mem} (R : RA h cls) (T : GTb (h 391) 7 92 6 36 rows) : Tr (f_X8_forgets 390 h) (fun _ h' => (∀ a, a ≠ 391 → a ≠ 398 → a ≠ 401 → h' a = h a) ∧ (∀ x, x ≠ 7 → (x < 92 ∨ 308 ≤ x) → h' 391 x = h 391 x) ∧ GTb (h' 391) 7 92 6 36 (rows.filter (fgP cls))) := by
  obtain ⟨q1, q2, q3⟩ := T
  exact M_fg4 q2 rows.length 0 xFU [] h (by omega) (by unfold xFU; omega) rfl R q1 (fun x j hx => by simp at hx) (fun x j _ g2 g3 => q3 x j g2 g3)
