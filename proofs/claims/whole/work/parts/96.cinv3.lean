/-! what a client keeps to: more steps -/
theorem arw_c {a b : Nat → Cl} (h : ∀ c, rws (a c) = rws (b c)) : arw a = arw b := by
  unfold arw
  rw [h 0, h 1, h 2, h 3, h 4, h 5]
theorem SV.putR {B c : Nat} {st : St} {cl : Cl} (h : SV B st) (hc : CV B cl) (hr : rws cl = rws (st.2.2 c)) : SV B (sC st c cl) := by
  have hv := CVs.put (c := c) h.1 hc
  have ea : arw (sC st c cl).2.2 = arw st.2.2 := by
    refine arw_c (fun d => ?_)
    by_cases e : d = c
    · rw [e, sC_eq]
      exact hr
    · rw [sC_ne e]
  refine ⟨hv, ⟨h.2.1.1, fun d hd => ⟨(hv d hd).1, (hv d hd).2.2.2.2.2.1.2.1⟩, h.2.1.2.2.1, ?_⟩, h.2.2.1, h.2.2.2⟩
  rw [ea]
  exact h.2.1.2.2.2
theorem A_snd_1 : ∀ (d i : Nat) (cl : Cl), (A_snd d i cl).1 = cl.1
  | 0, _, _ => rfl
  | d + 1, i, cl => by
    unfold A_snd
    rw [A_snd_1 d, A_sends_1]
theorem A_snd_ne : ∀ (d i : Nat) (cl : Cl) {t : Nat}, t ≠ 6 → (A_snd d i cl).2 t = cl.2 t
  | 0, _, _, _, _ => rfl
  | d + 1, i, cl, t, h => by
    unfold A_snd
    rw [A_snd_ne d _ _ h, A_sends_ne h]
theorem A_qgoL_1 : ∀ (qs : List (List Int32)) (cl : Cl) {j : Nat}, j ≠ 9 → (A_qgoL qs cl).1 j = cl.1 j
  | [], _, _, _ => rfl
  | q :: qs, cl, j, h => by
    unfold A_qgoL
    split
    · rw [A_qgoL_1 qs _ h, A_flies_1 h]
      rfl
    · rfl
theorem LtOk.qgoL : ∀ (qs : List (List Int32)) (cl : Cl), cl.2 5 = qs → (cl.2 4).length ≤ 4 → LtOk (A_qgoL qs cl) ∧ ((A_qgoL qs cl).2 5).length ≤ qs.length
  | [], cl, e, h => by
    refine ⟨⟨h, fun _ => Or.inl e⟩, ?_⟩
    show (cl.2 5).length ≤ _
    rw [e]
    exact Nat.le_refl _
  | q :: qs, cl, e, h => by
    unfold A_qgoL
    split
    · rename_i z
      have y := LtOk.qgoL qs (A_flies (sT cl 5 qs) (g5 q 0) (g5 q 1) (g5 q 2) (g5 q 3)) (by rw [A_flies_ne (by omega) (by omega), sT_eq]) (by
        rw [A_flies_4, List.length_append, sT_ne (by omega)]
        simp
        omega)
      refine ⟨y.1, Nat.le_trans y.2 ?_⟩
      simp
    · rename_i z
      refine ⟨⟨h, fun e0 => Or.inr (fun w => z ⟨e0, w⟩)⟩, by rw [e]; exact Nat.le_refl _⟩
theorem CV.snd {B : Nat} {cl : Cl} (h : CV B cl) : CV B (A_snd (cl.2 4).length 0 cl) := by
  refine h.step (fun k _ => by rw [A_snd_1]) (A_snd_ne _ _ _ (by omega)) (Wd.snd _ _ _ h.2.1) ?_ ?_ (LI.snd _ _ _ h.2.2.2.2.1 (by omega))
  · unfold LtOk
    rw [A_snd_1, A_snd_ne _ _ _ (by omega), A_snd_ne _ _ _ (by omega)]
    exact h.2.2.1
  · rw [A_snd_ne _ _ _ (by omega)]
    exact h.2.2.2.1
theorem A_wk_k {cl : Cl} {lf : Int32} {k : Nat} (h : k ≠ 9) : (A_wk cl lf).1 k = (A_wk0 cl lf).1 k := by
  unfold A_wk A_qgo
  rw [A_qgoL_1 _ _ h, A_snd_1]
theorem A_wk0_k {cl : Cl} {lf : Int32} {k : Nat} (h0 : k ≠ 0) (h1 : k ≠ 1) (h12 : k ≠ 12) (h21 : k ≠ 21) : (A_wk0 cl lf).1 k = cl.1 k := by
  show ud (ud (ud (ud cl.1 0 1) 1 lf) 12 0) 21 (-4) k = _
  rw [ud_ne h21, ud_ne h12, ud_ne h1, ud_ne h0]
theorem A_wk_t {cl : Cl} {lf : Int32} {t : Nat} (h4 : t ≠ 4) (h5 : t ≠ 5) (h6 : t ≠ 6) (h7 : t ≠ 7) : (A_wk cl lf).2 t = cl.2 t := by
  unfold A_wk A_qgo
  rw [A_qgoL_ne _ _ h6 h4 h5, A_snd_ne _ _ _ h6]
  unfold A_wk0
  rw [sT_ne h7, sT_ne h6]
  rfl
theorem CV.wk {B m : Nat} {cl : Cl} (h : CV B cl) (hB : B + 12 < 2 ^ 31 - 1) (hm : m ≤ 99) : CV (B + 12) (A_wk cl (nI m)) := by
  obtain ⟨a, b, c, d, e, f, g, i, j⟩ := h
  have e4 : (A_wk0 cl (nI m)).2 4 = cl.2 4 := by unfold A_wk0; rw [sT_ne (by omega), sT_ne (by omega)]; rfl
  have e5 : (A_wk0 cl (nI m)).2 5 = cl.2 5 := by unfold A_wk0; rw [sT_ne (by omega), sT_ne (by omega)]; rfl
  have e8 : (A_wk0 cl (nI m)).2 8 = cl.2 8 := by unfold A_wk0; rw [sT_ne (by omega), sT_ne (by omega)]; rfl
  have w0 : Wd (A_wk0 cl (nI m)) := Wd.tab (Wd.tab (cl := sS (sS (sS (sS cl 0 1) 1 (nI m)) 12 0) 21 (-4)) b (fun r hr => (by cases hr))) (fun r hr => (by cases hr))
  have l0 : LI B (A_wk0 cl (nI m)) := by
    refine e.lines.cgr ?_ ?_ ?_ rfl rfl ?_
    · rw [A_wk0_k (by omega) (by omega) (by omega) (by omega)]; rfl
    · rw [e4, sT_ne (by omega), sT_ne (by omega)]
    · rw [e5, sT_ne (by omega), sT_ne (by omega)]
    · rw [e8, sT_ne (by omega), sT_ne (by omega)]
  have l1 := LI.snd (cl.2 4).length 0 _ l0 (by rw [e4]; omega)
  have w1 := Wd.snd (cl.2 4).length 0 _ w0
  have x5 : (A_snd (cl.2 4).length 0 (A_wk0 cl (nI m))).2 5 = cl.2 5 := by rw [A_snd_ne _ _ _ (by omega), e5]
  have x4 : (A_snd (cl.2 4).length 0 (A_wk0 cl (nI m))).2 4 = cl.2 4 := by rw [A_snd_ne _ _ _ (by omega), e4]
  have k0 : (A_wk cl (nI m)).1 0 = 1 := by rw [A_wk_k (by omega)]; rfl
  have k12 : (A_wk cl (nI m)).1 12 = 0 := by rw [A_wk_k (by omega)]; rfl
  have k21 : (A_wk cl (nI m)).1 21 = -4 := by rw [A_wk_k (by omega)]; rfl
  have k1 : (A_wk cl (nI m)).1 1 = nI m := by rw [A_wk_k (by omega)]; rfl
  have lt := LtOk.qgoL (cl.2 5) (A_snd (cl.2 4).length 0 (A_wk0 cl (nI m))) x5 (by rw [x4]; exact c.1)
  have ew : A_wk cl (nI m) = A_qgoL (cl.2 5) (A_snd (cl.2 4).length 0 (A_wk0 cl (nI m))) := by
    unfold A_wk A_qgo
    rw [x5]
  refine ⟨Or.inr (Or.inl k0), ?_, ?_, ?_, ?_, ?_, fun x hx => (g x hx).at (fun y hy => by rw [A_wk_k (by omega), A_wk0_k (by omega) (by omega) (by omega) (by omega)]), ⟨Or.inl k12, fun q => ?_, fun _ => k21⟩, fun q => ?_, fun q => absurd k21 q, m, hm, k1⟩
  · rw [ew]
    exact Wd.qgoL _ _ w1 (fun q hq => b 5 rfl q hq)
  · rw [ew]
    exact lt.1
  · rw [ew]
    exact Nat.le_trans lt.2 d
  · rw [ew]
    exact (LI.qgoL (cl.2 5) B _ l1 e.q5 (by omega)).mono (by omega)
  · rw [A_wk_t (by omega) (by omega) (by omega) (by omega), k0]
    exact ⟨f.1, f.2.1, fun q => absurd q (by decide)⟩
  · rw [k12] at q
    exact absurd q (by decide)
  · rw [k12] at q
    exact absurd q (by decide)
/-- carried -/
theorem A_carD_k {cl : Cl} {kind num l p v k : Int32} {j : Nat} (h : j ≠ 10) : (A_carD cl kind num l p v k).1 j = cl.1 j := by
  have tk : (A_takes cl l p v k).1 j = cl.1 j := by
    unfold A_takes
    rw [sT_1, sS_ne h]
  have un : ∀ x, (A_unk cl x).1 = cl.1 := fun x => by
    unfold A_unk
    split <;> rfl
  unfold A_carD
  split
  · rw [A_pu_1, un]
  · split
    · split
      · rw [A_pu_1, sT_1, tk]
      · rw [A_pu_1]
    · split
      · rw [A_pu_1, tk]
      · exact tk
theorem A_carD_t2 {cl : Cl} {kind num l p v k : Int32} {t : Nat} (h7 : t ≠ 7) (h8 : t ≠ 8) (h11 : t ≠ 11) : (A_carD cl kind num l p v k).2 t = cl.2 t := by
  unfold A_carD
  split
  · rw [A_pu_ne h7, A_unk_ne h8]
  · split
    · split
      · rw [A_pu_ne h7, sT_ne h8, A_takes_ne h11]
      · rw [A_pu_ne h7]
    · split
      · rw [A_pu_ne h7, A_takes_ne h11]
      · rw [A_takes_ne h11]
theorem CV.carD {B : Nat} {cl : Cl} (h : CV B cl) (h6 : 0 < (cl.2 6).length) (l v k : Int32) : CV B (A_carD cl (g5 (gr (cl.2 6) 0) 0) (g5 (gr (cl.2 6) 0) 1) l (g5 (gr (cl.2 6) 0) 3) v k) := by
  have k4 := h.2.2.2.2.1.kn4
  have l4 := h.2.2.1.1
  refine h.step (fun j hj => A_carD_k (by omega)) (A_carD_t2 (by omega) (by omega) (by omega)) (h.2.1.carD (by omega)) ?_ ?_ (h.2.2.2.2.1.carD h.2.1 (by omega) h6 l v k)
  · unfold LtOk
    rw [A_carD_k (by omega), A_carD_t2 (by omega) (by omega) (by omega), A_carD_t2 (by omega) (by omega) (by omega)]
    exact h.2.2.1
  · rw [A_carD_t2 (by omega) (by omega) (by omega)]
    exact h.2.2.2.1
theorem A_off_k {cl : Cl} {i j : Nat} (h9 : j ≠ 9) (h52 : j ≠ 52) : (A_off cl i).1 j = cl.1 j := by
  unfold A_off A_qgo
  rw [A_qgoL_1 _ _ h9, sT_1, sS_ne h52]
theorem CV.carU {B : Nat} {cl : Cl} (h : CV B cl) (hB : B + 12 < 2 ^ 31 - 1) (h7 : 0 < (cl.2 7).length) : CV (B + 12) (A_carU cl (g5 (gr (cl.2 7) 0) 0) (g5 (gr (cl.2 7) 0) 1)) := by
  have l4 := h.2.2.1.1
  have l5 := h.2.2.2.1
  have li := (h.2.2.2.2.1.carU h.2.1 l4 (by omega) h7).mono (C := B + 12) (by omega)
  have wd := h.2.1.carU (kind := g5 (gr (cl.2 7) 0) 0) (num := g5 (gr (cl.2 7) 0) 1) l4
  revert li wd
  unfold A_carU
  by_cases fx : A_fix cl (g5 (gr (cl.2 7) 0) 1) (if g5 (gr (cl.2 7) 0) 0 = 1 then 1 else 2) = -4
  · rw [if_pos fx]
    intro li wd
    exact h.mono (by omega)
  · rw [if_neg fx]
    obtain ⟨i, hi, ei, -, -⟩ := fix_row fx
    rw [ei, nI_clamp (by omega)]
    generalize g5 (gr (cl.2 7) 0) 0 = kind
    generalize g5 (gr (cl.2 7) 0) 1 = num
    unfold A_carU1
    split
    · intro li wd
      refine h.step (fun j hj => by rw [A_pd_1]; rfl) (by rw [A_pd_ne (by omega), sT_ne (by omega)]) wd ?_ ?_ li
      · unfold LtOk
        rw [A_pd_1, A_pd_ne (by omega), A_pd_ne (by omega), sT_eq, sT_ne (by omega), List.length_set]
        exact h.2.2.1
      · rw [A_pd_ne (by omega), sT_ne (by omega)]
        exact l5
    · split
      · intro li wd
        have e5 : (sT (sS cl 52 (cl.1 52 + 1)) 4 ((cl.2 4).eraseIdx i)).2 5 = cl.2 5 := by rw [sT_ne (by omega)]; rfl
        have lt := LtOk.qgoL (cl.2 5) (sT (sS cl 52 (cl.1 52 + 1)) 4 ((cl.2 4).eraseIdx i)) e5 (by rw [sT_eq, List.length_eraseIdx, if_pos hi]; omega)
        have eo : A_off cl i = A_qgoL (cl.2 5) (sT (sS cl 52 (cl.1 52 + 1)) 4 ((cl.2 4).eraseIdx i)) := by
          unfold A_off A_qgo
          rw [e5]
        refine h.step (fun j hj => A_off_k (by omega) (by omega)) ?_ wd (by rw [eo]; exact lt.1) (by rw [eo]; exact Nat.le_trans lt.2 l5) li
        rw [eo, A_qgoL_ne _ _ (by omega) (by omega) (by omega), sT_ne (by omega)]
        rfl
      · intro li wd
        exact h.mono (by omega)
theorem CV.drop {B t : Nat} {cl : Cl} (h : CV B cl) (ht : t = 6 ∨ t = 7) : CV B (sT cl t ((cl.2 t).eraseIdx 0)) := by
  refine h.step (fun _ _ => rfl) (sT_ne (by omega)) (h.2.1.er t 0) ?_ ?_ ?_
  · unfold LtOk
    rw [sT_ne (by omega), sT_ne (by omega)]
    exact h.2.2.1
  · rw [sT_ne (by omega)]
    exact h.2.2.2.1
  · rcases ht with rfl | rfl
    · exact h.2.2.2.2.1.sub6 (er_sub 0)
    · exact h.2.2.2.2.1.sub7 (er_sub 0)
theorem CV.car {B : Nat} {cl : Cl} (h : CV B cl) (hB : B + 12 < 2 ^ 31 - 1) (y a : Int32) (hy : y = 0 ∨ y = 1) (ha : a = 0 ∨ a = 1 ∨ a = 2) (hl : 0 < (cl.2 (if y = 0 then 6 else 7)).length) : CV (B + 12) (A_car cl y a) := by
  have n1 : ¬ (1 : Int32) = 0 := by decide
  rcases hy with rfl | rfl
  · rw [if_pos rfl] at hl
    have cd := (h.carD hl (pkt cl 0 2) (pkt cl 0 4) (pkt cl 0 5)).mono (C := B + 12) (by omega)
    rcases ha with rfl | rfl | rfl
    · have e : A_car cl 0 0 = sT (A_carD cl (pkt cl 0 0) (pkt cl 0 1) (pkt cl 0 2) (pkt cl 0 3) (pkt cl 0 4) (pkt cl 0 5)) 6 ((cl.2 6).eraseIdx 0) := by
        rw [← A_carD_t]
        rfl
      rw [e]
      have z := cd.drop (t := 6) (Or.inl rfl)
      rw [A_carD_6] at z
      exact z
    · exact (h.drop (t := 6) (Or.inl rfl)).mono (by omega)
    · exact cd
  · rw [if_neg n1] at hl
    have cu := h.carU hB hl
    rcases ha with rfl | rfl | rfl
    · have e : A_car cl 1 0 = sT (A_carU cl (pkt cl 1 0) (pkt cl 1 1)) 7 ((cl.2 7).eraseIdx 0) := by
        rw [← A_carU_t]
        rfl
      rw [e]
      have z := cu.drop (t := 7) (Or.inr rfl)
      rw [A_carU_7] at z
      exact z
    · exact (h.drop (t := 7) (Or.inr rfl)).mono (by omega)
    · exact cu
