/-! the reference: ranges, a session's end -/
def inR (x lo hi : Int32) : Bool := !(decide (x < lo)) && !(decide (hi < x))
theorem M_in (x lo hi : Int32) (h : Mem) : f_X8_in x.toInt64 lo.toInt64 hi.toInt64 h = some (bI (inR x lo hi), h) := by
  have e : ∀ a b : Int32, (a.toInt64 < b.toInt64) ↔ a < b := fun a b => by rw [Int64.lt_iff_toInt_lt, Int32.lt_iff_toInt_lt, Int32.toInt_toInt64, Int32.toInt_toInt64]
  unfold f_X8_in inR
  simp only [lg_cmp_lt, lg_cmp_gt, e]
  by_cases e1 : x < lo
  · rw [if_pos e1, decide_eq_true e1]; rfl
  · rw [if_neg e1, decide_eq_false e1]
    by_cases e2 : hi < x
    · rw [if_pos e2, decide_eq_true e2]; rfl
    · rw [if_neg e2, decide_eq_false e2]; rfl
theorem lo_0 : (0 : Int64) = (0 : Int32).toInt64 := by decide +kernel
theorem lo_1 : (1 : Int64) = (1 : Int32).toInt64 := by decide +kernel
theorem lo_2 : (2 : Int64) = (2 : Int32).toInt64 := by decide +kernel
theorem lo_3 : (3 : Int64) = (3 : Int32).toInt64 := by decide +kernel
theorem lo_4 : (4 : Int64) = (4 : Int32).toInt64 := by decide +kernel
theorem lo_5 : (5 : Int64) = (5 : Int32).toInt64 := by decide +kernel
theorem lo_7 : (7 : Int64) = (7 : Int32).toInt64 := by decide +kernel
theorem lo_10 : (10 : Int64) = (10 : Int32).toInt64 := by decide +kernel
theorem lo_12 : (12 : Int64) = (12 : Int32).toInt64 := by decide +kernel
theorem lo_21 : (21 : Int64) = (21 : Int32).toInt64 := by decide +kernel
theorem lo_28 : (28 : Int64) = (28 : Int32).toInt64 := by decide +kernel
theorem lo_50 : (50 : Int64) = (50 : Int32).toInt64 := by decide +kernel
theorem lo_99 : (99 : Int64) = (99 : Int32).toInt64 := by decide +kernel
theorem lo_127 : (127 : Int64) = (127 : Int32).toInt64 := by decide +kernel
theorem lo_281 : (281 : Int64) = (281 : Int32).toInt64 := by decide +kernel
theorem lo_400 : (400 : Int64) = (400 : Int32).toInt64 := by decide +kernel
theorem M_isClient (x : Int32) (h : Mem) : f_X8_isClient x h = some (bI (inR x 0 5), h) := by
  unfold f_X8_isClient
  rw [lo_0, lo_5, M_in, b2_some, zg_b]
def stay (j : Nat) : Bool := j == 10 || j == 11 || (Nat.ble 21 j && Nat.ble j 28) || (Nat.ble 281 j && Nat.ble j 400)
def nwF (h : Mem) (c k : Nat) : Mem := mA h 391 (fun x => if 308 + 961 * c + k ≤ x ∧ x < 308 + 961 * c + 961 ∧ stay (x - (308 + 961 * c)) = false then 0 else h 391 x)
theorem nwF_done (h : Mem) (c : Nat) : nwF h c 961 = h := by
  funext a
  unfold nwF mA
  by_cases e : a = 391
  · subst e
    rw [if_pos rfl]
    funext x
    rw [if_neg (by omega)]
  · rw [if_neg e]
theorem nwF_stay {h : Mem} {c k : Nat} (hs : stay k = true) : nwF h c (k + 1) = nwF h c k := by
  funext a
  unfold nwF mA
  by_cases e : a = 391
  · subst e
    rw [if_pos rfl, if_pos rfl]
    funext x
    by_cases ex : x = 308 + 961 * c + k
    · rw [if_neg (by omega), if_neg (fun z => by rw [ex, Nat.add_sub_cancel_left, hs] at z; cases z.2.2)]
    · by_cases e2 : 308 + 961 * c + (k + 1) ≤ x ∧ x < 308 + 961 * c + 961 ∧ stay (x - (308 + 961 * c)) = false
      · rw [if_pos e2, if_pos ⟨by omega, e2.2⟩]
      · rw [if_neg e2, if_neg (fun z => e2 ⟨by omega, z.2⟩)]
  · rw [if_neg e, if_neg e]
theorem nwF_zero {h : Mem} {c k : Nat} (hk : k < 961) (hs : stay k = false) : nwF (mu h 391 (308 + 961 * c + k) 0) c (k + 1) = nwF h c k := by
  funext a
  unfold nwF mA
  by_cases e : a = 391
  · subst e
    rw [if_pos rfl, if_pos rfl]
    funext x
    by_cases ex : x = 308 + 961 * c + k
    · rw [if_neg (by omega), mu_rde ex, if_pos ⟨by omega, by omega, by rw [ex, Nat.add_sub_cancel_left]; exact hs⟩]
    · rw [mu_rdn ex]
      by_cases e2 : 308 + 961 * c + (k + 1) ≤ x ∧ x < 308 + 961 * c + 961 ∧ stay (x - (308 + 961 * c)) = false
      · rw [if_pos e2, if_pos ⟨by omega, e2.2⟩]
      · rw [if_neg e2, if_neg (fun z => e2 ⟨by omega, z.2⟩)]
  · rw [if_neg e, if_neg e, mu_ne e]
theorem mu_same {h : Mem} {k j : Nat} : mu h k j (h k j) = h := by
  funext a
  by_cases e : a = k
  · subst e
    funext x
    rw [mu_rd]
    split
    · rename_i hx; rw [hx]
    · rfl
  · rw [mu_ne e]
theorem li_400 : (400 : Int32) = nI 400 := by decide +kernel
theorem inR_nI {x a b : Nat} (hx : x < 2 ^ 31) (ha : a < 2 ^ 31) (hb : b < 2 ^ 31) : inR (nI x) (nI a) (nI b) = (Nat.ble a x && Nat.ble x b) := by
  unfold inR
  rw [Bool.eq_iff_iff]
  simp only [Bool.and_eq_true, Bool.not_eq_true', decide_eq_false_iff_not, nI_ltI hx ha, nI_ltI hb hx, Nat.ble_eq]
  omega
theorem M_new_2 {c : Nat} (hc : c < 6) (s : Int32) : ∀ (d k n : Nat) (h : Mem), k + d = 961 → d < n →
    f_X8_isNew_2 n 390 (nI c) s (nI k) h = b2 (f_X8_forgets 390 (mu (mu (nwF h c k) 391 (308 + 961 * c + 0) s) 391 (308 + 961 * c + 9) 1)) fun _ h7 => some ((), h7) := by
  intro d
  induction d with
  | zero =>
    intro k n h h1 h2
    obtain ⟨n, rfl⟩ : ∃ z, n = z + 1 := ⟨n - 1, by omega⟩
    have hk : k = 961 := by omega
    subst hk
    unfold f_X8_isNew_2
    rw [nwF_done]
    simp (disch := omega) only [li_961, li_0, li_9, nI_leI, if_pos, M_at, b2_some, xr_0, as_391]
  | succ d ih =>
    intro k n h h1 h2
    obtain ⟨n, rfl⟩ : ∃ z, n = z + 1 := ⟨n - 1, by omega⟩
    have hyes : stay k = true → f_X8_isNew_49 (f_X8_isNew_2 n) 390 (nI c) s (nI k) h = b2 (f_X8_forgets 390 (mu (mu (nwF h c k) 391 (308 + 961 * c + 0) s) 391 (308 + 961 * c + 9) 1)) fun _ h7 => some ((), h7) := by
      intro hs
      unfold f_X8_isNew_49 f_X8_isNew_54 f_X8_isNew_84
      rw [M_at, b2_some, if_neg (show ¬ (1 : Int32) = 0 by decide)]
      simp (disch := omega) only [li_1, M_at, b2_some, xr_0, al_391, as_391, mu_same, nI_add]
      rw [ih (k + 1) n h (by omega) (by omega), nwF_stay hs]
      rfl
    have hno : stay k = false → f_X8_isNew_54 (f_X8_isNew_2 n) 390 (nI c) s (nI k) 0 h = b2 (f_X8_forgets 390 (mu (mu (nwF h c k) 391 (308 + 961 * c + 0) s) 391 (308 + 961 * c + 9) 1)) fun _ h7 => some ((), h7) := by
      intro hs
      unfold f_X8_isNew_54 f_X8_isNew_84
      rw [M_at, b2_some, if_pos rfl]
      simp (disch := omega) only [li_1, xr_0, as_391, nI_add]
      rw [ih (k + 1) n _ (by omega) (by omega), nwF_zero (by omega) hs]
      rfl
    unfold f_X8_isNew_2
    rw [lo_21, lo_28, lo_281, lo_400]
    simp (disch := omega) only [M_in, li_961, li_10, li_11, li_21, li_28, li_281, li_400, nI_leI, if_neg, nI_eq, b2_some, inR_nI, bI_0]
    unfold stay at hyes hno
    by_cases e1 : k = 10
    · rw [if_pos e1]
      exact hyes (by simp [e1])
    · rw [if_neg e1]
      by_cases e2 : k = 11
      · rw [if_pos e2]
        exact hyes (by simp [e2])
      · rw [if_neg e2]
        cases e3 : (Nat.ble 21 k && Nat.ble k 28)
        · rw [if_pos rfl]
          cases e4 : (Nat.ble 281 k && Nat.ble k 400)
          · rw [if_pos rfl]
            exact hno (by simp [e1, e2, e3, e4])
          · rw [if_neg (by decide)]
            exact hyes (by simp [e4])
        · rw [if_neg (by decide)]
          exact hyes (by simp [e3])
def A_new (cl : Cl) (s : Int32) : Cl := (fun k => if k = 0 then s else if k = 9 then 1 else if k = 10 ∨ (21 ≤ k ∧ k ≤ 28) ∨ 45 ≤ k then cl.1 k else 0, fun t => if t = 11 then cl.2 11 else [])
def A_fgt (st : St) : St := sK st 7 ((st.2.1 7).filter (fgP st.2.2))
theorem M_isNew {c : Nat} {h : Mem} {st : St} (hc : c < 6) (R : RM (h 391) st) (s : Int32) : Tr (f_X8_isNew 390 (nI c) s h) (fun _ h' => RM (h' 391) (A_fgt (sC st c (A_new (st.2.2 c) s))) ∧ ∀ a, a ≠ 391 → a ≠ 398 → a ≠ 401 → h' a = h a) := by
  unfold f_X8_isNew
  rw [li_0, M_new_2 hc s 961 0 xFU h (by omega) (by unfold xFU; omega)]
  have rd : ∀ k, k < 961 → nwF h c 0 391 (308 + 961 * c + k) = if stay k = true then h 391 (308 + 961 * c + k) else 0 := by
    intro k hk
    unfold nwF
    rw [mA_eq, Nat.add_sub_cancel_left]
    cases e : stay k
    · rw [if_pos ⟨by omega, by omega, rfl⟩, if_neg (by decide)]
    · rw [if_neg (fun z => by cases z.2.2), if_pos rfl]
  have P : MP c h (st.2.2 c) (mu (mu (nwF h c 0) 391 (308 + 961 * c + 0) s) 391 (308 + 961 * c + 9) 1) (A_new (st.2.2 c) s) := by
    have Rc := R.2.2.2.2 c hc
    refine ⟨⟨fun k hk hct => ?_, fun t ht => ?_⟩, bE.g ⟨fun a ha => ?_, fun x hx => ?_⟩ rfl rfl rfl rfl⟩
    · simp only [bk]
      show _ = (if k = 0 then s else if k = 9 then 1 else if k = 10 ∨ (21 ≤ k ∧ k ≤ 28) ∨ 45 ≤ k then (st.2.2 c).1 k else 0)
      by_cases e9 : k = 9
      · subst e9
        rw [mu_rde rfl]
        rfl
      · rw [mu_rdn (by omega), if_neg e9]
        by_cases e0 : k = 0
        · subst e0
          rw [mu_rde rfl, if_pos rfl]
        · rw [mu_rdn (by omega), if_neg e0, rd k (by omega)]
          have z : h 391 (308 + 961 * c + k) = (st.2.2 c).1 k := Rc.1 k hk hct
          by_cases e : k = 10 ∨ (21 ≤ k ∧ k ≤ 28) ∨ 45 ≤ k
          · rw [if_pos e, if_pos, z]
            unfold stay
            simp only [Bool.or_eq_true, beq_iff_eq, Bool.and_eq_true, Nat.ble_eq]
            omega
          · rw [if_neg e, if_neg]
            unfold stay
            simp only [Bool.or_eq_true, beq_iff_eq, Bool.and_eq_true, Nat.ble_eq]
            have : k ≠ 11 := fun z => by rw [z] at hct; cases hct
            omega
    · show Tb _ t (if t = 11 then (st.2.2 c).2 11 else [])
      by_cases e : t = 11
      · subst e
        rw [if_pos rfl]
        obtain ⟨q1, q2, q3⟩ := Rc.2 11 rfl
        refine ⟨?_, q2, fun i j hi hj => ?_⟩
        · rw [← q1]
          simp only [bk]
          rw [mu_rdn (by omega), mu_rdn (by omega), rd 11 (by omega), if_pos (show stay 11 = true from rfl)]
        · have p := tpos (t := 11) rfl (Nat.lt_of_lt_of_le hi q2) hj
          rw [← q3 i j hi hj]
          simp only [bk]
          simp only [tb_11, tw_11, tc_11] at p ⊢
          rw [mu_rdn (by omega), mu_rdn (by omega), rd _ (by omega), if_pos]
          unfold stay
          simp only [Bool.or_eq_true, beq_iff_eq, Bool.and_eq_true, Nat.ble_eq]
          omega
      · rw [if_neg e]
        refine Tb.nil ?_
        have q := ict_cases ht
        simp only [bk]
        rw [mu_rdn (by omega), mu_rdn (by omega), rd t (by omega), if_neg]
        unfold stay
        simp only [Bool.or_eq_true, beq_iff_eq, Bool.and_eq_true, Nat.ble_eq]
        omega
    · rw [mu_ne ha, mu_ne ha]
      unfold nwF
      rw [mA_ne ha]
    · rw [mu_rdn (by omega), mu_rdn (by omega)]
      unfold nwF
      rw [mA_eq, if_neg (by omega)]
  have R1 := R.cl hc P
  have f1 := P.2.1
  generalize mu (mu (nwF h c 0) 391 (308 + 961 * c + 0) s) 391 (308 + 961 * c + 9) 1 = h1 at R1 f1 ⊢
  refine wB (M_forgets R1.2.2.2.2 R1.2.2.2.1) (fun _ h2 Q => wR ⟨?_, fun a g1 g2 g3 => (Q.1 a g1 g2 g3).trans (f1 a g1)⟩)
  exact R1.k7 Q.2.2 Q.2.1
