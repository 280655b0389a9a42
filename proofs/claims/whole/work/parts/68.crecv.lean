/-! the class: receive -/
/-- nine scalars -/
def RKs (h : Mem) (K : Nat) (cl : Cl) : Prop := h K 8 = cl.1 0 ∧ h K 9 = cl.1 1 ∧ h K 10 = cl.1 2 ∧ h K 11 = nI (cl.2 4).length ∧ h K 12 + 1 = cl.1 9 ∧ h K 13 = cl.1 50 ∧ h K 14 = cl.1 51 ∧ h K 15 = cl.1 10 ∧ h K 16 = cl.1 52
theorem RK.scal {h h' : Mem} {K : Nat} {cl cl' : Cl} (R : RK h K cl) (f : ∀ a, a ≠ K → h' a = h a) (et : ∀ t, cl'.2 t = cl.2 t) (es : ∀ k, 12 ≤ k → k < 45 → cl'.1 k = cl.1 k) (S : RKs h' K cl') : RK h' K cl' := by
  obtain ⟨-, t1, t2, t3, t4, t5, ⟨kn, t6, t6'⟩, t7, t8⟩ := R
  refine ⟨S, ?_, ?_, ?_, ?_, ?_, ⟨kn, ?_, ?_⟩, ?_, ?_⟩
  · rw [et]; exact t1.fr (f _ (by omega)) (f _ (by omega))
  · intro j hj
    rw [f (K + 3) (by omega), t2 j hj]
    congr 1
    funext i
    unfold lvS
    split
    · rw [es _ (by omega) (by omega)]
    · rfl
  · rw [et, et]; exact t3.fr (f _ (by omega)) (f _ (by omega))
  · rw [et]; exact t4.fr (f _ (by omega)) (f _ (by omega))
  · rw [et]; exact t5.fr (f _ (by omega)) (f _ (by omega))
  · exact t6.fr (f _ (by omega)) (f _ (by omega))
  · rw [et]; exact t6'
  · rw [et]; exact t7.fr (f _ (by omega)) (f _ (by omega))
  · refine RW.congr (s := cl.1) ?_ (fun k h1 h2 => es k h1 (by omega))
    unfold RW
    rw [f (K + 14) (by omega)]
    exact t8
/-- the mail's queue is changed -/
theorem RK.ml {h h' : Mem} {K : Nat} {cl : Cl} {qs : List (List Int32)} (R : RK h K cl) (D : RR h' (K + 4) 16 6 ((cl.2 4).map fmR ++ qs.map qmR)) (f : FrR (K + 4) h h') : RK h' K (sT cl 5 qs) := by
  obtain ⟨⟨s0, s1, s2, s3, s4, s5, s6, s7, s8⟩, t1, t2, t3, t4, t5, ⟨kn, t6, t6'⟩, t7, t8⟩ := R
  have eK : h' K = h K := f.1 K (by omega) (by omega)
  have et : ∀ t, t ≠ 5 → (sT cl 5 qs).2 t = cl.2 t := fun t h1 => sT_ne h1
  have e5 : (sT cl 5 qs).2 5 = qs := sT_eq _ _ _
  refine ⟨⟨by rw [eK]; exact s0, by rw [eK]; exact s1, by rw [eK]; exact s2, by rw [eK, et 4 (by omega)]; exact s3, by rw [eK]; exact s4, by rw [eK]; exact s5, by rw [eK]; exact s6, by rw [eK]; exact s7, by rw [eK]; exact s8⟩, ?_, ?_, ?_, ?_, ?_, ⟨kn, ?_, by rw [et 8 (by omega)]; exact t6'⟩, ?_, ?_⟩
  · rw [et 3 (by omega)]; exact t1.off f (by omega) (by omega) (by omega)
  · rw [f.1 (K + 3) (by omega) (by omega)]; exact t2
  · rw [e5, et 4 (by omega)]; exact D
  · rw [et 6 (by omega)]; exact t4.off f (by omega) (by omega) (by omega)
  · rw [et 7 (by omega)]; exact t5.off f (by omega) (by omega) (by omega)
  · exact t6.off f (by omega) (by omega) (by omega)
  · rw [et 11 (by omega)]; exact t7.off f (by omega) (by omega) (by omega)
  · show RW h' (K + 14) cl.1
    unfold RW
    rw [f.1 (K + 14) (by omega) (by omega)]
    exact t8
theorem C_flag {k : Int32} {h : Mem} (hk : k = 0 ∨ k = 1) : f_X7_flag k h = some (k, h) := by
  unfold f_X7_flag
  rcases hk with rfl | rfl
  · rw [if_pos rfl]
  · rw [if_neg (by decide)]
theorem sT_sT (cl : Cl) (t : Nat) (a b : List (List Int32)) : sT (sT cl t a) t b = sT cl t b := by
  show (cl.1, ud (ud cl.2 t a) t b) = (cl.1, ud cl.2 t b)
  congr 1
  funext j
  by_cases e : j = t
  · subst e
    rw [ud_eq, ud_eq]
  · rw [ud_ne e, ud_ne e, ud_ne e]
/-- the invariant of a client's letters -/
def LtOk (cl : Cl) : Prop := (cl.2 4).length ≤ 4 ∧ (cl.1 0 = 1 → cl.2 5 = [] ∨ ¬ (cl.2 4).length < 4)
theorem C_lost {h : Mem} {K : Nat} {cl : Cl} (R : RK h K cl) : RK (mu h K 14 (h K 14 + 1)) K (A_lost cl) ∧ FrK K h (mu h K 14 (h K 14 + 1)) := by
  obtain ⟨s0, s1, s2, s3, s4, s5, s6, s7, s8⟩ := R.1
  refine ⟨R.scal (fun a ha => mu_ne ha) (fun _ => rfl) (fun k h1 h2 => sS_ne (by omega)) ⟨?_, ?_, ?_, ?_, ?_, ?_, ?_, ?_, ?_⟩, fun a ha => mu_ne (by omega)⟩
  · rw [mu_rdn (by omega)]; exact s0
  · rw [mu_rdn (by omega)]; exact s1
  · rw [mu_rdn (by omega)]; exact s2
  · rw [mu_rdn (by omega)]; exact s3
  · rw [mu_rdn (by omega)]; exact s4
  · rw [mu_rdn (by omega)]; exact s5
  · rw [mu_rde rfl, s6]; exact (sS_eq _ _ _).symm
  · rw [mu_rdn (by omega)]; exact s7
  · rw [mu_rdn (by omega)]; exact s8
theorem C_went {h : Mem} {K : Nat} {cl : Cl} (R : RK h K cl) : RK (mu h K 13 (h K 13 + 1)) K (sS cl 50 (cl.1 50 + 1)) ∧ FrK K h (mu h K 13 (h K 13 + 1)) := by
  obtain ⟨s0, s1, s2, s3, s4, s5, s6, s7, s8⟩ := R.1
  refine ⟨R.scal (fun a ha => mu_ne ha) (fun _ => rfl) (fun k h1 h2 => sS_ne (by omega)) ⟨?_, ?_, ?_, ?_, ?_, ?_, ?_, ?_, ?_⟩, fun a ha => mu_ne (by omega)⟩
  · rw [mu_rdn (by omega)]; exact s0
  · rw [mu_rdn (by omega)]; exact s1
  · rw [mu_rdn (by omega)]; exact s2
  · rw [mu_rdn (by omega)]; exact s3
  · rw [mu_rdn (by omega)]; exact s4
  · rw [mu_rde rfl, s5]; exact (sS_eq _ _ _).symm
  · rw [mu_rdn (by omega)]; exact s6
  · rw [mu_rdn (by omega)]; exact s7
  · rw [mu_rdn (by omega)]; exact s8
theorem C_once {h : Mem} {K : Nat} {cl : Cl} (c : CK K) (R : RK h K cl) (l v k : Int32) (hk : k = 0 ∨ k = 1) : Tr (f_X0_receiveAtMostOnce K l v k h) (fun _ h' => RK h' K (if cl.1 0 = 1 then A_pd cl [0, 0, l, 0, v, k] else A_lost cl) ∧ FrK K h h') := by
  unfold f_X0_receiveAtMostOnce
  have x3 := c.1.2.2.2.1
  have I6 := c.2.1.2.2.1
  have D := R.2.2.2.2.1
  rw [R.1.1]
  by_cases e : cl.1 0 = 1
  · rw [if_pos e, if_pos e, x3, A_pd_eq]
    by_cases hl : (cl.2 6).length < 16
    · rw [if_pos hl]
      refine wB (C_open I6 D hl) (fun r g0 P0 => ?_)
      rw [P0.1]
      refine wB (C_putL (j := 0) I6 P0.2.1 (by omega) rfl 0) (fun _ g1 P1 => ?_)
      refine wB (C_putL (j := 2) I6 P1.1 (by omega) rfl l) (fun _ g2 P2 => ?_)
      refine wB (C_putL (j := 4) I6 P2.1 (by omega) rfl v) (fun _ g3 P3 => ?_)
      rw [C_flag hk, b2_some]
      refine wB (C_putL (j := 5) I6 P3.1 (by omega) rfl k) (fun _ g4 P4 => ?_)
      have f := (((P0.2.2.tr P1.2).tr P2.2).tr P3.2).tr P4.2
      exact wR ⟨R.dn c P4.1 f, f.k (by omega)⟩
    · rw [if_neg hl, C_openN I6 D hl, b2_some, C_putN, b2_some, C_putN, b2_some, C_putN, b2_some, C_flag hk, b2_some, C_putN, b2_some, sT_self]
      exact wR ⟨R, FrK.rf⟩
  · rw [if_neg e, if_neg e, mlet_eq]
    exact wR (C_lost R)
theorem C_receive {h : Mem} {K : Nat} {cl : Cl} (c : CK K) (R : RK h K cl) (ok : LtOk cl) (l p v k : Int32) (hk : k = 0 ∨ k = 1) : Tr (f_X0_receive K l v p k h) (fun _ h' => RK h' K (A_goes cl l p v k) ∧ FrK K h h') := by
  unfold f_X0_receive A_goes
  rw [mlet_eq]
  obtain ⟨R1, f1⟩ := C_went R
  generalize mu h K 13 (h K 13 + 1) = g at R1 f1 ⊢
  have e0 : (sS cl 50 (cl.1 50 + 1)).1 0 = cl.1 0 := sS_ne (by omega)
  have ok1 : LtOk (sS cl 50 (cl.1 50 + 1)) := by
    unfold LtOk
    rw [e0]
    exact ok
  generalize sS cl 50 (cl.1 50 + 1) = cl1 at R1 ok1 ⊢
  unfold A_goes1
  by_cases ep : p = 0
  · rw [if_pos ep, if_pos ep]
    exact wB (C_once c R1 l v k hk) (fun _ g2 P => wR ⟨P.1, f1.tr P.2⟩)
  · rw [if_neg ep, if_neg ep]
    have x2 := c.1.2.2.1
    have I4 := c.2.1.2.1
    have M := R1.2.2.2.1
    have m3 := M.2.2.1
    have s3 := R1.1.2.2.2.1
    have l16 := R1.len4
    have ml : ((cl1.2 4).map fmR ++ (cl1.2 5).map qmR).length = (cl1.2 4).length + (cl1.2 5).length := by simp
    rw [ml] at m3
    have oq : f_X0_queued K g = some (nI (cl1.2 5).length, g) := by
      unfold f_X0_queued
      rw [x2, m3, s3, nI_subP (by omega), Nat.add_sub_cancel_left]
    rw [oq, b2_some]
    by_cases e12 : (cl1.2 5).length < 12
    · have hl : ((cl1.2 4).map fmR ++ (cl1.2 5).map qmR).length < 16 := by
        rw [ml]
        have := ok1.1
        omega
      rw [if_pos (by rw [li_12, nI_ltI (by omega) (by omega)]; exact e12), x2]
      refine wB (C_open I4 M hl) (fun r g0 P0 => ?_)
      rw [P0.1]
      refine wB (C_putL (j := 1) I4 P0.2.1 (by omega) rfl l) (fun _ g1 P1 => ?_)
      refine wB (C_putL (j := 2) I4 P1.1 (by omega) rfl p) (fun _ g2 P2 => ?_)
      refine wB (C_putL (j := 3) I4 P2.1 (by omega) rfl v) (fun _ g3 P3 => ?_)
      rw [C_flag hk, b2_some]
      refine wB (C_putL (j := 5) I4 P3.1 (by omega) rfl k) (fun _ g4 P4 => ?_)
      have f := (((P0.2.2.tr P1.2).tr P2.2).tr P3.2).tr P4.2
      have D : RR g4 (K + 4) 16 6 ((cl1.2 4).map fmR ++ (cl1.2 5 ++ [[l, p, v, k]]).map qmR) := by
        have z := P4.1
        have e : (cl1.2 4).map fmR ++ (cl1.2 5 ++ [[l, p, v, k]]).map qmR = (cl1.2 4).map fmR ++ (cl1.2 5).map qmR ++ [qmR [l, p, v, k]] := by simp
        rw [e]
        exact z
      have R4 := R1.ml D f
      have f4 := f1.tr (f.k (i := 4) (by omega))
      refine wB (C_launch c R4) (fun _ g5' Q => wR ⟨?_, f4.tr Q.2⟩)
      have Q1 := Q.1
      unfold A_qgo at Q1
      rw [sT_eq] at Q1
      by_cases ea : cl1.1 0 = 1
      · by_cases e4 : (cl1.2 4).length < 4
        · have eq : cl1.2 5 = [] := by
            rcases ok1.2 ea with z | z
            · exact z
            · exact absurd e4 z
          rw [if_pos ⟨ea, eq, e4⟩]
          rw [eq] at Q1
          have u : A_qgoL ([] ++ [[l, p, v, k]]) (sT cl1 5 ([] ++ [[l, p, v, k]])) = A_flies cl1 l p v k := by
            show A_qgoL [[l, p, v, k]] (sT cl1 5 [[l, p, v, k]]) = _
            unfold A_qgoL
            rw [if_pos ⟨ea, by rw [sT_ne (by omega)]; exact e4⟩]
            unfold A_qgoL
            have w : sT (sT cl1 5 [[l, p, v, k]]) 5 [] = cl1 := by
              rw [sT_sT, ← eq, sT_self]
            rw [w]
            rfl
          rw [u] at Q1
          exact Q1
        · rw [if_neg (fun z => e4 z.2.2), if_pos e12]
          have u : A_qgoL (cl1.2 5 ++ [[l, p, v, k]]) (sT cl1 5 (cl1.2 5 ++ [[l, p, v, k]])) = sT cl1 5 (cl1.2 5 ++ [[l, p, v, k]]) := by
            cases hq : cl1.2 5 ++ [[l, p, v, k]] with
            | nil => rfl
            | cons q qs =>
              unfold A_qgoL
              rw [if_neg (fun z => e4 (by have := z.2; rw [sT_ne (by omega)] at this; exact this))]
          rw [u] at Q1
          exact Q1
      · rw [if_neg (fun z => ea z.1), if_pos e12]
        rw [A_qgoL_asleep (show ¬ (sT cl1 5 (cl1.2 5 ++ [[l, p, v, k]])).1 0 = 1 from ea)] at Q1
        exact Q1
    · rw [if_neg (by rw [li_12, nI_ltI (by omega) (by omega)]; exact e12), mlet_eq, if_neg e12]
      have nf : ¬ (cl1.1 0 = 1 ∧ cl1.2 5 = [] ∧ (cl1.2 4).length < 4) := by
        intro z
        rw [z.2.1] at e12
        exact e12 (by simp)
      rw [if_neg nf]
      obtain ⟨R2, f2⟩ := C_lost R1
      exact wR ⟨R2, f1.tr f2⟩
