/-- cells move down by w in a stretch of the page -/
def shf (h : Mem) (lo hi w : Nat) : Mem := mA h 391 (fun x => if lo ≤ x ∧ x < hi then h 391 (x + w) else h 391 x)
theorem shf_done {h : Mem} {lo hi w : Nat} (e : hi ≤ lo) : shf h lo hi w = h := by
  funext a
  unfold shf mA
  by_cases q : a = 391
  · subst q
    rw [if_pos rfl]
    funext x
    rw [if_neg (by omega)]
  · rw [if_neg q]
theorem shf_step {h : Mem} {lo hi w : Nat} (e : lo < hi) (hw : 0 < w) : shf (mu h 391 lo (h 391 (lo + w))) (lo + 1) hi w = shf h lo hi w := by
  funext a
  unfold shf mA
  by_cases q : a = 391
  · subst q
    rw [if_pos rfl, if_pos rfl]
    funext x
    by_cases e1 : lo + 1 ≤ x ∧ x < hi
    · rw [if_pos e1, if_pos (by omega), mu_rdn (by omega)]
    · rw [if_neg e1]
      by_cases e2 : x = lo
      · rw [mu_rde e2, if_pos (by omega), e2]
      · rw [mu_rdn e2, if_neg (by omega)]
  · rw [if_neg q, if_neg q, mu_ne q]
theorem shf_rdo {h : Mem} {lo hi w x : Nat} (e : x < lo ∨ hi ≤ x) : shf h lo hi w 391 x = h 391 x := by
  unfold shf
  rw [mA_eq, if_neg (by omega)]
theorem shf_rdi {h : Mem} {lo hi w x : Nat} (e : lo ≤ x ∧ x < hi) : shf h lo hi w 391 x = h 391 (x + w) := by
  unfold shf
  rw [mA_eq, if_pos e]
theorem shf_k {h : Mem} {lo hi w a : Nat} (e : a ≠ 391) : shf h lo hi w a = h a := by
  unfold shf
  rw [mA_ne e]
theorem li_116 : (116 : Int32) = nI 116 := by decide +kernel
theorem M_q88 {c m : Nat} (hc : c < 6) (hm : m ≤ 12) (kk : Nat → Int32 → Mem → Option (Unit × Mem)) (l p v ak : Int32) : ∀ (d k n : Nat) (h : Mem), k + d = 4 * m → d < n → h 391 (308 + 961 * c + 5) = nI m →
    f_X8_queueGoesOn_88 kk n 390 (nI c) (nI (308 + 961 * c + 105)) l p v ak (nI k) h = b2 (f_X8_flies 390 (nI c) l p v ak (shf h (308 + 961 * c + 105 + k) (308 + 961 * c + 105 + 4 * m) 4)) fun _ h3 => kk 390 (nI c) h3 := by
  intro d
  induction d with
  | zero =>
    intro k n h h1 h2 h3
    obtain ⟨n, rfl⟩ : ∃ z, n = z + 1 := ⟨n - 1, by omega⟩
    unfold f_X8_queueGoesOn_88
    simp (disch := omega) only [li_5, li_4, M_of, b2_some, h3, nI_mul, nI_leI, if_pos]
    rw [shf_done (by omega)]
  | succ d ih =>
    intro k n h h1 h2 h3
    obtain ⟨n, rfl⟩ : ∃ z, n = z + 1 := ⟨n - 1, by omega⟩
    unfold f_X8_queueGoesOn_88
    simp (disch := omega) only [li_5, li_4, li_1, M_of, b2_some, h3, nI_mul, nI_leI, if_neg, nI_add, xr_0, al_391, as_391]
    rw [ih (k + 1) n _ (by omega) (by omega) (by rw [mu_rdn (by omega)]; exact h3)]
    rw [show 308 + 961 * c + 105 + (k + 1) = 308 + 961 * c + 105 + k + 1 by omega, shf_step (by omega) (by omega)]
def A_qgoL : List (List Int32) → Cl → Cl
  | [], cl => cl
  | q :: qs, cl => if cl.1 0 = 1 ∧ (cl.2 4).length < 4 then A_qgoL qs (A_flies (sT cl 5 qs) (g5 q 0) (g5 q 1) (g5 q 2) (g5 q 3)) else cl
def A_qgo (cl : Cl) : Cl := A_qgoL (cl.2 5) cl
theorem M_awake {c : Nat} {h : Mem} {cl : Cl} (hc : c < 6) (R : RB (bk (h 391) c) cl) : f_X8_isAwake 390 (nI c) h = some (if cl.1 0 = 1 then 1 else 0, h) := by
  have e : h 391 (308 + 961 * c + 0) = cl.1 0 := R.1 0 (by omega) rfl
  unfold f_X8_isAwake
  rw [li_0, M_of hc (by omega), b2_some, e]
  by_cases q : cl.1 0 = 1
  · rw [if_pos q, if_pos q]
  · rw [if_neg q, if_neg q]
theorem A_pd_ne {cl : Cl} {r : List Int32} {t : Nat} (e : t ≠ 6) : (A_pd cl r).2 t = cl.2 t := by
  unfold A_pd
  split
  · exact sT_ne e
  · rfl
theorem A_pu_ne {cl : Cl} {k n : Int32} {t : Nat} (e : t ≠ 7) : (A_pu cl k n).2 t = cl.2 t := by
  unfold A_pu
  split
  · exact sT_ne e
  · rfl
theorem A_sends_ne {cl : Cl} {i t : Nat} (e : t ≠ 6) : (A_sends cl i).2 t = cl.2 t := by
  unfold A_sends
  split <;> exact A_pd_ne e
theorem A_flies_ne {cl : Cl} {l p v k : Int32} {t : Nat} (e : t ≠ 6) (e2 : t ≠ 4) : (A_flies cl l p v k).2 t = cl.2 t := by
  unfold A_flies
  rw [A_sends_ne e, sS_2, sT_ne e2]
theorem A_flies_4 {cl : Cl} {l p v k : Int32} : (A_flies cl l p v k).2 4 = cl.2 4 ++ [[cl.1 9, l, p, v, k, 0]] := by
  unfold A_flies
  rw [A_sends_ne (by omega), sS_2, sT_eq]
theorem A_flies_1 {cl : Cl} {l p v k : Int32} {j : Nat} (e : j ≠ 9) : (A_flies cl l p v k).1 j = cl.1 j := by
  unfold A_flies
  rw [A_sends_1, sS_ne e, sT_1]
theorem A_flies_9 {cl : Cl} {l p v k : Int32} : (A_flies cl l p v k).1 9 = cl.1 9 + 1 := by
  unfold A_flies
  rw [A_sends_1, sS_eq]
theorem M_qgoL {c : Nat} (hc : c < 6) : ∀ (qs : List (List Int32)) (cl : Cl) (n : Nat) (h : Mem), cl.2 5 = qs → qs.length < n → RB (bk (h 391) c) cl → Tr (f_X8_queueGoesOn_0 n 390 (nI c) h) (fun _ h' => MP c h cl h' (A_qgoL qs cl)) := by
  intro qs
  induction qs with
  | nil =>
    intro cl n h e hn R
    obtain ⟨n, rfl⟩ : ∃ z, n = z + 1 := ⟨n - 1, by simp at hn; omega⟩
    unfold f_X8_queueGoesOn_0 A_qgoL
    have e4 := (R.2 4 rfl).1
    have e5 := (R.2 5 rfl).1
    have q4 := (R.2 4 rfl).2.1
    rw [tc_4] at q4
    rw [e] at e5
    have e4' : h 391 (308 + 961 * c + 4) = nI (cl.2 4).length := e4
    have e5' : h 391 (308 + 961 * c + 5) = nI 0 := e5
    rw [M_awake hc R, b2_some]
    refine wIf (fun _ => wR (MP.rf R)) (fun _ => ?_)
    simp (disch := omega) only [li_4, li_5, li_0, M_of, b2_some, e4', e5', nI_leI]
    refine wIf (fun _ => wR (MP.rf R)) (fun _ => ?_)
    simp (disch := omega) only [if_pos]
    exact wR (MP.rf R)
  | cons q qs ih =>
    intro cl n h e hn R
    obtain ⟨n, rfl⟩ : ∃ z, n = z + 1 := ⟨n - 1, by simp at hn; omega⟩
    have e4 : h 391 (308 + 961 * c + 4) = nI (cl.2 4).length := (R.2 4 rfl).1
    have e5 : h 391 (308 + 961 * c + 5) = nI (cl.2 5).length := (R.2 5 rfl).1
    have q4 := (R.2 4 rfl).2.1
    have q5 := (R.2 5 rfl).2.1
    rw [tc_4] at q4
    rw [tc_5] at q5
    have hl5 : (cl.2 5).length = qs.length + 1 := by rw [e]; rfl
    have r0 := R.cell (t := 5) (i := 0) (j := 0) rfl (by omega) (by rw [tw_5]; omega)
    have r1 := R.cell (t := 5) (i := 0) (j := 1) rfl (by omega) (by rw [tw_5]; omega)
    have r2 := R.cell (t := 5) (i := 0) (j := 2) rfl (by omega) (by rw [tw_5]; omega)
    have r3 := R.cell (t := 5) (i := 0) (j := 3) rfl (by omega) (by rw [tw_5]; omega)
    simp only [tb_5, tw_5, Nat.mul_zero, Nat.add_zero, ← Nat.add_assoc, show gr (cl.2 5) 0 = q by rw [e]; rfl] at r0 r1 r2 r3
    unfold f_X8_queueGoesOn_0 A_qgoL
    rw [M_awake hc R, b2_some]
    by_cases ha : cl.1 0 = 1
    · rw [if_pos ha, if_neg (show ¬ (1 : Int32) = 0 by decide)]
      by_cases hf : (cl.2 4).length < 4
      · rw [if_pos ⟨ha, hf⟩]
        simp (disch := omega) only [li_4, li_5, li_0, li_1, li_2, li_3, li_105, M_of, b2_some, e4, e5, nI_leI, if_neg, M_at, xr_0, nI_add, al_391, as_391, r0, r1, r2, r3, hl5, nI_subP]
        rw [show nI 0 = nI 0 from rfl, M_q88 (m := qs.length) hc (by omega) _ _ _ _ _ (4 * qs.length) 0 xFU _ (by omega) (by unfold xFU; omega) (by rw [mu_rde rfl, Nat.add_sub_cancel])]
        refine wPt (fun h1 => MP c h cl h1 (sT cl 5 qs)) ⟨?_, bE.g ⟨?_, ?_⟩ rfl rfl rfl rfl⟩ (fun h1 P => wB (M_flies hc P.1 (by rw [sT_ne (by omega)]; exact hf) _ _ _ _) (fun _ h2 P2 => wM (ih _ n h2 ?_ (by simp at hn; omega) P2.1) (fun _ h3 P3 => (P.tr P2).tr P3)))
        · refine R.tab (t := 5) rfl ?_ ?_
          · simp only [tb_5, tw_5, tc_5, bk]
            intro k hk h1 h2
            rw [shf_rdo (by omega), mu_rdn (by omega)]
          · have z := (R.2 5 rfl).erase (b' := bk (shf (mu h 391 (308 + 961 * c + 5) (nI (qs.length + 1 - 1))) (308 + 961 * c + 105 + 0) (308 + 961 * c + 105 + 4 * qs.length) 4 391) c) (i0 := 0) (by omega) ?_ ?_ ?_
            · rw [e] at z
              exact z
            · rw [hl5]
              simp only [bk]
              rw [shf_rdo (by omega), mu_rde rfl]
            · simp only [tb_5, tw_5, bk, hl5]
              intro k h1 h2
              rw [shf_rdi (by omega), mu_rdn (by omega)]
              congr 1
            · simp only [tb_5, tw_5, bk]
              intro k h1 h2
              omega
        · intro a ha2
          rw [shf_k ha2, mu_ne ha2]
        · intro x hx
          rw [shf_rdo (by omega), mu_rdn (by omega)]
        · rw [A_flies_ne (by omega) (by omega), sT_eq]
      · rw [if_neg (fun z => hf z.2)]
        simp (disch := omega) only [li_4, M_of, b2_some, e4, nI_leI, if_pos]
        exact wR (MP.rf R)
    · rw [if_neg ha, if_pos rfl, if_neg (fun z => ha z.1)]
      exact wR (MP.rf R)
theorem M_qgo {c : Nat} {h : Mem} {cl : Cl} (hc : c < 6) (R : RB (bk (h 391) c) cl) : Tr (f_X8_queueGoesOn 390 (nI c) h) (fun _ h' => MP c h cl h' (A_qgo cl)) := by
  have q5 := (R.2 5 rfl).2.1
  rw [tc_5] at q5
  exact M_qgoL hc _ _ _ _ rfl (by unfold xFU; omega) R
