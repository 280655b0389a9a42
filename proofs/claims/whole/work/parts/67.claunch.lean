/-! the class: launchQueued -/
def A_fl0 (cl : Cl) (q : List Int32) (qs : List (List Int32)) : Cl := sS (sT (sT cl 5 qs) 4 (cl.2 4 ++ [[cl.1 9, g5 q 0, g5 q 1, g5 q 2, g5 q 3, 0]])) 9 (cl.1 9 + 1)
theorem A_fl0_sends (cl : Cl) (q : List Int32) (qs : List (List Int32)) : A_flies (sT cl 5 qs) (g5 q 0) (g5 q 1) (g5 q 2) (g5 q 3) = A_sends (A_fl0 cl q qs) (cl.2 4).length := by
  have e4 : (sT cl 5 qs).2 4 = cl.2 4 := sT_ne (by omega)
  unfold A_flies A_fl0
  rw [e4]
  rfl
theorem C_fl0 {h : Mem} {K : Nat} {cl : Cl} {q : List Int32} {qs : List (List Int32)} (c : CK K) (R : RK h K cl) (hq : cl.2 5 = q :: qs) : Tr (f_X3_put (K + 4) (nI (cl.2 4).length) 0 (cl.1 9) (mu (mu h K 12 (cl.1 9)) K 11 (nI ((cl.2 4).length + 1)))) (fun _ h' => RK h' K (A_fl0 cl q qs) ∧ FrK K h h') := by
  have l16 := R.len4
  obtain ⟨⟨s0, s1, s2, s3, s4, s5, s6, s7, s8⟩, t1, t2, t3, t4, t5, ⟨kn, t6, t6'⟩, t7, t8⟩ := R
  have f1 : ∀ a, a ≠ K → mu (mu h K 12 (cl.1 9)) K 11 (nI ((cl.2 4).length + 1)) a = h a := fun a ha => by rw [mu_ne ha, mu_ne ha]
  have k1 : ∀ x, x ≠ 11 → x ≠ 12 → mu (mu h K 12 (cl.1 9)) K 11 (nI ((cl.2 4).length + 1)) K x = h K x := fun x h1 h2 => by rw [mu_rdn h1, mu_rdn h2]
  have k11 : mu (mu h K 12 (cl.1 9)) K 11 (nI ((cl.2 4).length + 1)) K 11 = nI ((cl.2 4).length + 1) := by rw [mu_rde rfl]
  have k12 : mu (mu h K 12 (cl.1 9)) K 11 (nI ((cl.2 4).length + 1)) K 12 = cl.1 9 := by rw [mu_rdn (by omega), mu_rde rfl]
  generalize mu (mu h K 12 (cl.1 9)) K 11 (nI ((cl.2 4).length + 1)) = g at f1 k1 k11 k12 ⊢
  have M : RR g (K + 4) 16 6 ((cl.2 4).map fmR ++ (cl.2 5).map qmR) := t3.fr (f1 _ (by omega)) (f1 _ (by omega))
  have eg : gr ((cl.2 4).map fmR ++ (cl.2 5).map qmR) (cl.2 4).length = qmR q := by
    have z := gr_mapr (l := cl.2 4) (q := cl.2 5) (i := 0) (by rw [hq]; simp) fmR qmR
    rw [Nat.add_zero] at z
    rw [z, hq]
    rfl
  have z := C_put (i := (cl.2 4).length) (j := 0) c.2.1.2.1 M (by rw [hq]; simp) (by omega) (by rw [eg]; rfl) (cl.1 9)
  have er : ((cl.2 4).map fmR ++ (cl.2 5).map qmR).set (cl.2 4).length ((gr ((cl.2 4).map fmR ++ (cl.2 5).map qmR) (cl.2 4).length).set 0 (cl.1 9)) = (cl.2 4 ++ [[cl.1 9, g5 q 0, g5 q 1, g5 q 2, g5 q 3, 0]]).map fmR ++ qs.map qmR := by
    rw [eg, hq]
    have e0 : (cl.2 4).length = ((cl.2 4).map fmR).length := by simp
    rw [e0, List.set_append_right _ _ (Nat.le_refl _), Nat.sub_self]
    simp [fmR, qmR, g5]
  rw [er] at z
  refine wM z (fun _ g2 P => ?_)
  have f2 := P.2
  have fk : g2 K = g K := f2.1 K (by omega) (by omega)
  have e5 : (A_fl0 cl q qs).2 5 = qs := by unfold A_fl0; rw [sS_2, sT_ne (by omega), sT_eq]
  have e4 : (A_fl0 cl q qs).2 4 = cl.2 4 ++ [[cl.1 9, g5 q 0, g5 q 1, g5 q 2, g5 q 3, 0]] := by unfold A_fl0; rw [sS_2, sT_eq]
  have et : ∀ t, t ≠ 4 → t ≠ 5 → (A_fl0 cl q qs).2 t = cl.2 t := fun t h1 h2 => by unfold A_fl0; rw [sS_2, sT_ne h1, sT_ne h2]
  have es : ∀ k, k ≠ 9 → (A_fl0 cl q qs).1 k = cl.1 k := fun k h1 => by unfold A_fl0; rw [sS_ne h1]; rfl
  have e9 : (A_fl0 cl q qs).1 9 = cl.1 9 + 1 := by unfold A_fl0; rw [sS_eq]
  have ft : ∀ {k m w : Nat} {rows : List (List Int32)}, RR h k m w rows → k ≠ K → k + 1 ≠ K → k ≠ K + 4 → k ≠ K + 5 → k + 1 ≠ K + 4 → RR g2 k m w rows := fun R a1 a2 a3 a4 a5 => (R.fr (f1 _ a1) (f1 _ a2)).off f2 a3 (by omega) a5
  refine ⟨⟨⟨?_, ?_, ?_, ?_, ?_, ?_, ?_, ?_, ?_⟩, ?_, ?_, ?_, ?_, ?_, ⟨kn, ?_, ?_⟩, ?_, ?_⟩, ?_⟩
  · rw [fk, k1 8 (by omega) (by omega), es 0 (by omega)]; exact s0
  · rw [fk, k1 9 (by omega) (by omega), es 1 (by omega)]; exact s1
  · rw [fk, k1 10 (by omega) (by omega), es 2 (by omega)]; exact s2
  · rw [fk, k11, e4]; simp
  · rw [fk, k12, e9]
  · rw [fk, k1 13 (by omega) (by omega), es 50 (by omega)]; exact s5
  · rw [fk, k1 14 (by omega) (by omega), es 51 (by omega)]; exact s6
  · rw [fk, k1 15 (by omega) (by omega), es 10 (by omega)]; exact s7
  · rw [fk, k1 16 (by omega) (by omega), es 52 (by omega)]; exact s8
  · rw [et 3 (by omega) (by omega)]; exact ft t1 (by omega) (by omega) (by omega) (by omega) (by omega)
  · intro j hj
    rw [f2.1 (K + 3) (by omega) (by omega), f1 (K + 3) (by omega), t2 j hj]
    congr 1
    funext i
    unfold lvS
    split
    · rw [es _ (by omega)]
    · rfl
  · rw [e4, e5]; exact P.1
  · rw [et 6 (by omega) (by omega)]; exact ft t4 (by omega) (by omega) (by omega) (by omega) (by omega)
  · rw [et 7 (by omega) (by omega)]; exact ft t5 (by omega) (by omega) (by omega) (by omega) (by omega)
  · exact ft t6 (by omega) (by omega) (by omega) (by omega) (by omega)
  · rw [et 8 (by omega) (by omega)]; exact t6'
  · rw [et 11 (by omega) (by omega)]; exact ft t7 (by omega) (by omega) (by omega) (by omega) (by omega)
  · have e14 : g2 (K + 14) = h (K + 14) := by rw [f2.1 (K + 14) (by omega) (by omega), f1 (K + 14) (by omega)]
    refine RW.congr (s := cl.1) ?_ (fun k h1 h2 => es k (by omega))
    unfold RW
    rw [e14]
    exact t8
  · intro a ha
    rw [f2.1 a (by omega) (by omega), f1 a (by omega)]
theorem C_launch14 {K : Nat} (c : CK K) : ∀ (qs : List (List Int32)) (cl : Cl) (n : Nat) (h : Mem), cl.2 5 = qs → qs.length < n → cl.1 0 = 1 → RK h K cl → Tr (f_X0_launchQueued_14 n K (nI (cl.2 4).length) h) (fun _ h' => RK h' K (A_qgoL qs cl) ∧ FrK K h h') := by
  intro qs
  induction qs with
  | nil =>
    intro cl n h hq h2 h0 R
    obtain ⟨n, rfl⟩ : ∃ z, n = z + 1 := ⟨n - 1, by simp at h2; omega⟩
    have l16 := R.len4
    have x2 := c.1.2.2.1
    have q3 := R.2.2.2.1.2.2.1
    have el : ((cl.2 4).map fmR ++ (cl.2 5).map qmR).length = (cl.2 4).length := by rw [hq]; simp
    rw [el] at q3
    unfold f_X0_launchQueued_14 A_qgoL
    rw [x2, q3, if_pos (by rw [nI_leI (by omega) (by omega)]; omega)]
    exact wR ⟨R, FrK.rf⟩
  | cons q qs ih =>
    intro cl n h hq h2 h0 R
    obtain ⟨n, rfl⟩ : ∃ z, n = z + 1 := ⟨n - 1, by simp at h2; omega⟩
    have l16 := R.len4
    have x2 := c.1.2.2.1
    have q3 := R.2.2.2.1.2.2.1
    have el : ((cl.2 4).map fmR ++ (cl.2 5).map qmR).length = (cl.2 4).length + (qs.length + 1) := by rw [hq]; simp
    rw [el] at q3
    have l5 : (cl.2 5).length = qs.length + 1 := by rw [hq]; simp
    have s3 := R.1.2.2.2.1
    have s4 := R.1.2.2.2.2.1
    have w1 : mu h K 12 (cl.1 9) K 12 = cl.1 9 := mu_rde rfl
    have w2 : mu h K 12 (cl.1 9) K 11 = nI (cl.2 4).length := by rw [mu_rdn (by omega)]; exact s3
    unfold f_X0_launchQueued_14 A_qgoL
    rw [x2, q3, if_neg (by rw [nI_leI (by omega) (by omega)]; omega)]
    by_cases e4 : 4 ≤ (cl.2 4).length
    · rw [if_pos (by rw [li_4, nI_leI (by omega) (by omega)]; exact e4), if_neg (fun z => by omega)]
      exact wR ⟨R, FrK.rf⟩
    · rw [if_neg (by rw [li_4, nI_leI (by omega) (by omega)]; exact e4), if_pos ⟨h0, by omega⟩, mlet_eq, mlet_eq, s4, mu_rdn (by omega), w1, w2, show nI (cl.2 4).length + 1 = nI ((cl.2 4).length + 1) by rw [li_1, nI_add]]
      refine wB (C_fl0 c R hq) (fun _ g P => ?_)
      have r4 : (A_fl0 cl q qs).2 4 = cl.2 4 ++ [[cl.1 9, g5 q 0, g5 q 1, g5 q 2, g5 q 3, 0]] := by unfold A_fl0; rw [sS_2, sT_eq]
      refine wB (C_sends (i := (cl.2 4).length) c P.1 (by rw [r4]; simp) (by rw [r4, gr_app_eq]; show ¬ (0 : Int32) = 1; decide)) (fun _ g2 Q => ?_)
      rw [A_fl0_sends]
      have r5 : (A_sends (A_fl0 cl q qs) (cl.2 4).length).2 5 = qs := by rw [A_sends_ne (by omega)]; unfold A_fl0; rw [sS_2, sT_ne (by omega), sT_eq]
      have r44 : ((A_sends (A_fl0 cl q qs) (cl.2 4).length).2 4).length = (cl.2 4).length + 1 := by rw [A_sends_ne (by omega), r4]; simp
      have r0 : (A_sends (A_fl0 cl q qs) (cl.2 4).length).1 0 = 1 := by rw [A_sends_1]; unfold A_fl0; rw [sS_ne (by omega)]; exact h0
      have z := ih (A_sends (A_fl0 cl q qs) (cl.2 4).length) n g2 r5 (by simp at h2; omega) r0 Q.1
      rw [r44] at z
      exact wM z (fun _ g3 S => ⟨S.1, (P.2.tr Q.2).tr S.2⟩)
theorem A_qgoL_asleep {qs : List (List Int32)} {cl : Cl} (h : ¬ cl.1 0 = 1) : A_qgoL qs cl = cl := by
  cases qs with
  | nil => rfl
  | cons q qs =>
    unfold A_qgoL
    rw [if_neg (fun z => h z.1)]
theorem C_launch {h : Mem} {K : Nat} {cl : Cl} (c : CK K) (R : RK h K cl) : Tr (f_X0_launchQueued K h) (fun _ h' => RK h' K (A_qgo cl) ∧ FrK K h h') := by
  have l16 := R.len4
  unfold f_X0_launchQueued A_qgo
  rw [R.1.1, R.1.2.2.2.1]
  by_cases e : cl.1 0 = 1
  · rw [if_pos e]
    exact C_launch14 c (cl.2 5) cl xFU h rfl (by unfold xFU; omega) e R
  · rw [if_neg e, A_qgoL_asleep e]
    exact wR ⟨R, FrK.rf⟩
