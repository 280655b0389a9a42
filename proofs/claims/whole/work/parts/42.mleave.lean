/-! the reference: leave -/
theorem sm4_congr {f : Nat → Int32} {b : Nat} {s s' : Nat → Int32} (h : ∀ j, j < 4 → s j = s' j) : sm4 f b s = sm4 f b s' := by
  unfold sm4
  rw [h 0 (by omega), h 1 (by omega), h 2 (by omega), h 3 (by omega)]
theorem M_lv87 {c m : Nat} (hc : c < 6) (hm : m ≤ 5) : ∀ (d k n : Nat) (h : Mem), k + d = 6 * m → d < n → h 391 (308 + 961 * c + 3) = nI m →
    f_X8_leave_87 n 390 (nI c) (nI k) h = b2 (f_X8_forgets 390 (shf h (308 + 961 * c + 45 + k) (308 + 961 * c + 45 + 6 * m) 6)) fun _ h3 => some (h3 391 (308 + 961 * c + 3), h3) := by
  intro d
  induction d with
  | zero =>
    intro k n h h1 h2 h3
    obtain ⟨n, rfl⟩ : ∃ z, n = z + 1 := ⟨n - 1, by omega⟩
    unfold f_X8_leave_87
    simp (disch := omega) only [li_3, li_6, M_of, b2_some, h3, nI_mul, nI_leI, if_pos]
    rw [shf_done (by omega)]
  | succ d ih =>
    intro k n h h1 h2 h3
    obtain ⟨n, rfl⟩ : ∃ z, n = z + 1 := ⟨n - 1, by omega⟩
    unfold f_X8_leave_87
    simp (disch := omega) only [li_3, li_6, li_45, li_1, M_of, b2_some, h3, nI_mul, nI_leI, if_neg, nI_add, M_at, xr_0, al_391, as_391]
    rw [ih (k + 1) n _ (by omega) (by omega) (by rw [mu_rdn (by omega)]; exact h3)]
    rw [show 308 + 961 * c + (45 + k) = 308 + 961 * c + 45 + k by omega, show 308 + 961 * c + (45 + k + 6) = 308 + 961 * c + 45 + k + 6 by omega, show 308 + 961 * c + 45 + (k + 1) = 308 + 961 * c + 45 + k + 1 by omega, shf_step (by omega) (by omega)]
def A_lv (st : St) (c i : Nat) : St := A_fgt (sC st c (sT (st.2.2 c) 3 (((st.2.2 c).2 3).eraseIdx i)))
theorem M_lv {c i : Nat} {h : Mem} {st : St} (hc : c < 6) (R : RM (h 391) st) (hi : i < ((st.2.2 c).2 3).length) : Tr (f_X8_leave_57 390 (nI c) (nI i) h) (fun r h' => r = nI (((st.2.2 c).2 3).length - 1) ∧ RM (h' 391) (A_lv st c i) ∧ ∀ a, a ≠ 391 → a ≠ 398 → a ≠ 401 → h' a = h a) := by
  have Rc := R.2.2.2.2 c hc
  have q1 : h 391 (308 + 961 * c + 3) = nI ((st.2.2 c).2 3).length := (Rc.2 3 rfl).1
  have q2 := (Rc.2 3 rfl).2.1
  rw [tc_3] at q2
  unfold f_X8_leave_57
  rw [if_neg (nI_ne4 (by omega))]
  simp (disch := omega) only [li_3, li_6, li_1, b2_some, M_at, q1, nI_subP, nI_mul, xr_0, al_391, as_391]
  rw [M_lv87 (m := ((st.2.2 c).2 3).length - 1) hc (by omega) (6 * (((st.2.2 c).2 3).length - 1) - 6 * i) (6 * i) xFU _ (by omega) (by unfold xFU; omega) (by rw [mu_rde rfl])]
  refine wPt (fun h1 => MP c h (st.2.2 c) h1 (sT (st.2.2 c) 3 (((st.2.2 c).2 3).eraseIdx i))) ⟨?_, bE.g ⟨?_, ?_⟩ rfl rfl rfl rfl⟩ (fun h1 P1 => ?_)
  · refine Rc.tab (t := 3) rfl ?_ ((Rc.2 3 rfl).erase (i0 := i) hi ?_ ?_ ?_)
    · simp only [tb_3, tw_3, tc_3, bk]
      intro k hk h1 h2
      rw [shf_rdo (by omega), mu_rdn (by omega)]
    · simp only [bk]
      rw [shf_rdo (by omega), mu_rde rfl]
    · simp only [tb_3, tw_3, bk]
      intro k h1 h2
      rw [shf_rdi (by omega), mu_rdn (by omega)]
      congr 1
    · simp only [tb_3, tw_3, bk]
      intro k h1 h2
      rw [shf_rdo (by omega), mu_rdn (by omega)]
  · intro a ha
    rw [shf_k ha, mu_ne ha]
  · intro x hx
    rw [shf_rdo (by omega), mu_rdn (by omega)]
  · have R1 := R.cl hc P1
    refine wB (M_forgets R1.2.2.2.2 R1.2.2.2.1) (fun _ g P => ?_)
    have R2 := R1.k7 P.2.2 P.2.1
    have q3 : g 391 (308 + 961 * c + 3) = nI ((((st.2.2 c).2 3).eraseIdx i)).length := by
      have z := ((R2.2.2.2.2 c hc).2 3 rfl).1
      have e : ((sC st c (sT (st.2.2 c) 3 (((st.2.2 c).2 3).eraseIdx i))).2.2 c) = sT (st.2.2 c) 3 (((st.2.2 c).2 3).eraseIdx i) := ud_eq
      have e2 : (sK (sC st c (sT (st.2.2 c) 3 (((st.2.2 c).2 3).eraseIdx i))) 7 (List.filter (fgP (sC st c (sT (st.2.2 c) 3 (((st.2.2 c).2 3).eraseIdx i))).2.2) ((sC st c (sT (st.2.2 c) 3 (((st.2.2 c).2 3).eraseIdx i))).2.1 7))).2.2 c = (sC st c (sT (st.2.2 c) 3 (((st.2.2 c).2 3).eraseIdx i))).2.2 c := rfl
      rw [e2, e, sT_eq] at z
      exact z
    rw [q3, List.length_eraseIdx, if_pos hi]
    exact wR ⟨rfl, R2, fun a b1 b2 b3 => by rw [P.1 a b1 b2 b3, P1.2.1 a b1]⟩
def O_leave (T : Top) (c g : Int32) : Int32 × Top :=
  if inR c 0 5 = false ∨ inR g 0 3 = false then (-1, T)
  else if ¬ (T.1.2.2 c.toNatClampNeg).1 0 = 1 then (-2, T)
  else if T.2.1.length = 0 ∨ sbIx ((T.1.2.2 c.toNatClampNeg).2 3) (g5 T.2.1) g = -4 then (-4, T)
  else (nI (((T.1.2.2 c.toNatClampNeg).2 3).length - 1), A_lv T.1 c.toNatClampNeg (sbIx ((T.1.2.2 c.toNatClampNeg).2 3) (g5 T.2.1) g).toNatClampNeg, T.2)
theorem nI_len0 {row : List Int32} (h : row.length ≤ 4) : nI row.length = 0 ↔ row.length = 0 := by
  rw [li_0, nI_eq (by omega) (by omega)]
theorem M_leave (T : Top) (c g : Int32) : MO (f_X8_leave 390 c g) (fun T => O_leave T c g) T := by
  intro h R
  unfold f_X8_leave O_leave
  have same : ∀ r : Int32, Tr (some (r, h)) (fun r' h' => r' = r ∧ RMo h' T ∧ ∀ a, a < 390 → h' a = h a) := fun r => wR ⟨rfl, R, fun _ _ => rfl⟩
  rw [M_isClient, b2_some, lo_0, lo_3]
  simp only [M_in, bI_0, b2_some]
  cases e1 : inR c 0 5
  · rw [if_pos rfl, if_pos (by simp)]
    exact same _
  cases e2 : inR g 0 3
  · rw [if_neg (by decide), if_pos rfl, if_pos (by simp)]
    exact same _
  rw [if_neg (by decide), if_neg (by decide), if_neg (by simp)]
  obtain ⟨n, hn, rfl⟩ := inR_ex (b := 5) (by omega) e1
  rw [nI_clamp (show n < 2 ^ 31 by omega)]
  have hc : n < 6 := by omega
  have Rc := R.1.2.2.2.2 n hc
  rw [M_awake hc Rc, b2_some]
  by_cases ea : (T.1.2.2 n).1 0 = 1
  · rw [if_pos ea, if_neg (show ¬ (1 : Int32) = 0 by decide), if_neg (show ¬ ¬ (T.1.2.2 n).1 0 = 1 from fun z => z ea), R.2.1.1]
    simp only [nI_len0 R.2.1.2.1]
    by_cases el : T.2.1.length = 0
    · rw [if_pos el, if_pos (Or.inl el)]
      unfold f_X8_leave_57
      rw [if_pos rfl]
      exact same _
    · rw [if_neg el, xr_0, xr_4, M_subOf hc xl_391 (by rw [xl_395]; omega) Rc, b2_some, sbIx_congr (R.2.1.2.2 (by omega))]
      have q2 := (Rc.2 3 rfl).2.1
      rw [tc_3] at q2
      rcases sIx_spec (-4) (sP ((T.1.2.2 n).2 3) (g5 T.2.1) g) ((T.1.2.2 n).2 3).length 0 with ⟨e3, -⟩ | ⟨j, hj0, hj, e3, -, -⟩
      · have e4 : sbIx ((T.1.2.2 n).2 3) (g5 T.2.1) g = -4 := e3
        rw [if_pos (Or.inr e4), e4]
        unfold f_X8_leave_57
        rw [if_pos rfl]
        exact same _
      · have e4 : sbIx ((T.1.2.2 n).2 3) (g5 T.2.1) g = nI j := e3
        rw [e4, if_neg (by
          rintro (z | z)
          · exact el z
          · exact nI_ne4 (by omega) z), nI_clamp (by omega)]
        exact wM (M_lv hc R.1 (by omega)) (fun r k P => ⟨P.1, R.st P.2.1 (fun a q1 q2 => P.2.2 a q1 (by omega) (by omega)), fun a ha => P.2.2 a (by omega) (by omega) (by omega)⟩)
  · rw [if_neg ea, if_pos rfl, if_pos ea]
    exact same _
