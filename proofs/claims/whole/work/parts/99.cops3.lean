/-! the class: will, alias, say -/
theorem A_will_k {cl : Cl} {t : Nat → Int32} {v p kp d : Int32} {k : Nat} (h : k < 12 ∨ 20 < k) : (A_will cl t v p kp d).1 k = cl.1 k := by
  unfold A_will
  rw [sS_ne (by omega), sS_ne (by omega), sS_ne (by omega), sS_ne (by omega), sS_ne (by omega), sS_ne (by omega), sS_ne (by omega), sS_ne (by omega), sS_ne (by omega)]
theorem A_will_t {cl : Cl} {t : Nat → Int32} {v p kp d : Int32} {j : Nat} (h : j < 4) : (A_will cl t v p kp d).1 (13 + j) = t j := by
  rcases (show j = 0 ∨ j = 1 ∨ j = 2 ∨ j = 3 by omega) with rfl | rfl | rfl | rfl <;> rfl
theorem CV.will {B m : Nat} {cl : Cl} {t : Nat → Int32} {v p kp : Int32} (h : CV B cl) (h1 : cl.1 0 = 1) (ht : PV 26 t) (hp : pOk p) (hk : kp = 0 ∨ kp = 1) (hm : m ≤ 50) : CV B (A_will cl t v p kp (nI m)) := by
  obtain ⟨a, b, c, d, e, f, g, i, j⟩ := h
  have k0 : (A_will cl t v p kp (nI m)).1 0 = 1 := by rw [A_will_k (by omega)]; exact h1
  have k12 : (A_will cl t v p kp (nI m)).1 12 = 1 := rfl
  have k21 : (A_will cl t v p kp (nI m)).1 21 = -4 := by rw [A_will_k (by omega)]; exact i.2.2 h1
  refine ⟨Or.inr (Or.inl k0), b, ⟨c.1, fun _ => c.2 h1⟩, d, e.cgr (A_will_k (by omega)) rfl rfl rfl rfl rfl, ⟨f.1, f.2.1, fun q => absurd (q.symm.trans k0) (by decide)⟩, fun x hx => (g x hx).at (fun y hy => A_will_k (by omega)), ⟨Or.inr k12, fun _ => k0, fun _ => k21⟩, fun _ => ⟨ht.cgr (fun x hx => A_will_t hx), hp, hk, m, hm, rfl⟩, fun q => absurd k21 q, ?_⟩
  rw [A_will_k (by omega)]
  exact j.2.2
theorem C_write {h : Mem} {K : Nat} {cl : Cl} {t : Nat → Int32} (R : RK h K cl) (v p kp d : Int32) (hk : kp = 0 ∨ kp = 1) : Tr (f_X5_write (K + 14) (pth (lvO t)) v p kp d h) (fun _ h' => RK h' K (A_will cl t v p kp d) ∧ FrK K h h') := by
  unfold f_X5_write
  have z : ∀ o : Option (Unit × Mem), zg kp o = o := by
    intro o
    unfold zg
    rw [if_pos hk]
  rw [mlet_eq, mlet_eq, mlet_eq, mlet_eq, z, mlet_eq]
  refine wR ⟨R.wl (fun a ha => by rw [mu_ne ha, mu_ne ha, mu_ne ha, mu_ne ha, mu_ne ha, mu_ne ha]) (fun _ => rfl) (fun k hk => A_will_k (by omega)) ?_, fun a ha => by rw [mu_ne (by omega), mu_ne (by omega), mu_ne (by omega), mu_ne (by omega), mu_ne (by omega), mu_ne (by omega)]⟩
  have e13 : pth (lvO t) = pth (lvS (A_will cl t v p kp d).1 13) := by
    refine pth_c (fun j hj => ?_)
    unfold lvO lvS
    rw [if_pos hj, if_pos hj, A_will_t hj]
  unfold RW
  rw [if_pos (show (A_will cl t v p kp d).1 12 = 1 from rfl), ← e13]
  generalize pth (lvO t) = x
  refine ⟨?_, ?_, ?_, ?_, ?_, ?_, ?_⟩
  · rw [mu_rdn (by omega), mu_rde rfl]; exact hk
  · rw [mu_rdn (by omega), mu_rdn (by omega), mu_rdn (by omega), mu_rdn (by omega), mu_rdn (by omega), mu_rde rfl]
  · rw [mu_rdn (by omega), mu_rdn (by omega), mu_rdn (by omega), mu_rdn (by omega), mu_rde rfl]
  · rw [mu_rdn (by omega), mu_rdn (by omega), mu_rdn (by omega), mu_rde rfl]; rfl
  · rw [mu_rdn (by omega), mu_rdn (by omega), mu_rde rfl]; rfl
  · rw [mu_rdn (by omega), mu_rde rfl]; rfl
  · rw [mu_rde rfl]; rfl
theorem bd3 {v p k : Int32} (hv : inR v 0 99 = true) (hp : inR p 0 2 = true) (hk : inR k 0 1 = true) : bI (!(inR v 0 99 && (inR p 0 2 && inR k 0 1))) = 0 := by
  rw [hv, hp, hk]
  rfl
theorem bd3n {v p k : Int32} (h : inR v 0 99 = false ∨ inR p 0 2 = false ∨ inR k 0 1 = false) : ¬ bI (!(inR v 0 99 && (inR p 0 2 && inR k 0 1))) = 0 := by
  cases hv : inR v 0 99 <;> cases hp : inR p 0 2 <;> cases hk : inR k 0 1 <;> simp [hv, hp, hk] at h ⊢ <;> decide
theorem X_will (T : Top) {B : Nat} (V : TV B T) (c v p kp d : Int32) : CO (f_X7_will 0 c v p kp d) (O_will T c v p kp d) B T := by
  unfold O_will
  cases hc : inR c 0 5 with
  | false =>
    rw [if_pos (Or.inl rfl)]
    refine CO.same V (fun h R => ?_)
    unfold f_X7_will
    rw [C_noC, b2_some, hc, if_neg bI_f]
  | true =>
    obtain ⟨n, hn, rfl⟩ := in5 hc
    rw [nI_clamp (by omega)]
    by_cases hb : inR v 0 99 = false ∨ inR p 0 2 = false ∨ inR kp 0 1 = false
    · rw [if_pos (Or.inr (hb.elim (fun q => Or.inl q) (fun q => q.elim (fun y => Or.inr (Or.inl y)) (fun y => Or.inr (Or.inr (Or.inl y))))))]
      refine CO.same V (fun h R => ?_)
      unfold f_X7_will
      rw [C_noC, b2_some, hc, if_pos bI_t, C_bad, b2_some, if_neg (bd3n hb)]
    · have hv : inR v 0 99 = true := by
        cases q : inR v 0 99 with
        | true => rfl
        | false => exact absurd (Or.inl q) hb
      have hp : inR p 0 2 = true := by
        cases q : inR p 0 2 with
        | true => rfl
        | false => exact absurd (Or.inr (Or.inl q)) hb
      have hk : inR kp 0 1 = true := by
        cases q : inR kp 0 1 with
        | true => rfl
        | false => exact absurd (Or.inr (Or.inr q)) hb
      have b3 := bd3 hv hp hk
      cases hd : inR d 0 50 with
      | false =>
        rw [if_pos (Or.inr (Or.inr (Or.inr (Or.inr rfl))))]
        refine CO.same V (fun h R => ?_)
        unfold f_X7_will
        rw [C_noC, b2_some, hc, if_pos bI_t, C_bad, b2_some, if_pos b3, C_out, b2_some, hd, if_neg bI_f]
      | true =>
        rw [if_neg (by rw [hv, hp, hk]; decide)]
        by_cases e : (T.1.2.2 n).1 0 = 1
        · have tpe := isTp_B V.2.1
          have pv := V.2.1.pv
          cases ht : isTp T.2.1 with
          | false =>
            rw [if_pos (Or.inr rfl)]
            refine CO.same V (fun h R => ?_)
            unfold f_X7_will
            rw [C_noC, b2_some, hc, if_pos bI_t, C_bad, b2_some, if_pos b3, C_out, b2_some, hd, if_pos bI_t, yAw hn R e, b2_some, if_neg n10, R.2.1, C_isTopic pv, b2_some, ← tpe, ht, if_pos (show bI false = 0 from rfl)]
          | true =>
            rw [if_neg (fun q => q.elim (fun y => y e) (fun y => by cases y))]
            have pt := pv.tp (by rw [← tpe]; exact ht)
            obtain ⟨m, hm, em⟩ := inR_ex (b := 50) (by omega) hd
            have hcv := V.1.1.1 n hn
            have K := (W100.2.2.2.1 n hn).2.2
            refine CO.world V (fun h R => ?_)
            have Rc := R.1.2.2.2 n hn
            have w12 := hcv.2.2.2.2.2.2.2.1
            unfold f_X7_will f_X7_will_78 f_X7_will_99
            rw [C_noC, b2_some, hc, if_pos bI_t, C_bad, b2_some, if_pos b3, C_out, b2_some, hd, if_pos bI_t, yAw hn R e, b2_some, if_neg n10, R.2.1, C_isTopic pv, b2_some, ← tpe, ht, if_neg (show ¬ bI true = 0 by decide), x0_2, W100.1.1, wcl W100 hn, K.1.2.2.2.2.2.2.2, C_held Rc w12, b2_some, R.2.1]
            have fin : ∀ kk, kk = kp → Tr (b2 (f_X5_write (100 + 6 + 15 * n + 14) (pth (lvO (g5 T.2.1))) v p kk d h) fun _ h1 => some ((T.1.2.2 n).1 12, h1)) (fun r h' => r = (T.1.2.2 n).1 12 ∧ RWd h' 100 (sC T.1 n (A_will (T.1.2.2 n) (g5 T.2.1) v p kp d)) ∧ SVc (B + 13000) (sC T.1 n (A_will (T.1.2.2 n) (g5 T.2.1) v p kp d)) ∧ FrW 100 h h') := by
              intro kk ekk
              rw [ekk]
              refine wB (C_write Rc v p kp d (in1 hk)) (fun _ g P => wR ⟨rfl, R.1.cl hn P.1 P.2, ?_, P.2.w hn⟩)
              refine V.1.up (V.1.1.put (by rw [em]; exact hcv.will e pt.1 (in2 hp) (in1 hk) hm) ?_ rfl) rfl (by omega)
              rw [A_will_k (by omega)]
            rcases w12.1 with q | q
            · rw [q, if_pos rfl]
              rw [q] at fin
              rcases in1 hk with rfl | rfl
              · rw [if_neg (by decide)]
                exact fin 0 rfl
              · rw [if_pos rfl]
                exact fin 1 rfl
            · rw [q, if_neg n10]
              rw [q] at fin
              rcases in1 hk with rfl | rfl
              · rw [if_neg (by decide)]
                exact fin 0 rfl
              · rw [if_pos rfl]
                exact fin 1 rfl
        · rw [if_pos (Or.inl e)]
          refine CO.same V (fun h R => ?_)
          unfold f_X7_will
          rw [C_noC, b2_some, hc, if_pos bI_t, C_bad, b2_some, if_pos b3, C_out, b2_some, hd, if_pos bI_t, nAw hn R e, b2_some, if_pos rfl]
/-- an alias is set -/
theorem A_ali_k {cl : Cl} {k i : Nat} {t : Nat → Int32} (h : i < k ∨ k + 4 ≤ i) : (A_ali cl k t).1 i = cl.1 i := by
  unfold A_ali
  rw [sS_ne (by omega), sS_ne (by omega), sS_ne (by omega), sS_ne (by omega)]
theorem A_ali_t {cl : Cl} {k j : Nat} {t : Nat → Int32} (h : j < 4) : (A_ali cl k t).1 (k + j) = t j := by
  unfold A_ali
  rcases (show j = 0 ∨ j = 1 ∨ j = 2 ∨ j = 3 by omega) with rfl | rfl | rfl | rfl
  · rw [sS_ne (by omega), sS_ne (by omega), sS_ne (by omega), Nat.add_zero, sS_eq]
  · rw [sS_ne (by omega), sS_ne (by omega), sS_eq]
  · rw [sS_ne (by omega), sS_eq]
  · rw [sS_eq]
theorem RK.al {h : Mem} {K m : Nat} {cl : Cl} {t : Nat → Int32} (R : RK h K cl) (hm : m < 4) : RK (mu h (K + 3) m (pth (lvO t))) K (A_ali cl (29 + 4 * m) t) := by
  obtain ⟨⟨s0, s1, s2, s3, s4, s5, s6, s7, s8⟩, t1, t2, t3, t4, t5, ⟨kn, t6, t6'⟩, t7, t8⟩ := R
  have f : ∀ a, a ≠ K + 3 → mu h (K + 3) m (pth (lvO t)) a = h a := fun a ha => mu_ne ha
  have eK : mu h (K + 3) m (pth (lvO t)) K = h K := f K (by omega)
  have es : ∀ k, k < 29 ∨ 45 ≤ k → (A_ali cl (29 + 4 * m) t).1 k = cl.1 k := fun k hk => A_ali_k (by omega)
  refine ⟨⟨?_, ?_, ?_, ?_, ?_, ?_, ?_, ?_, ?_⟩, ?_, ?_, ?_, ?_, ?_, ⟨kn, ?_, t6'⟩, ?_, ?_⟩
  · rw [eK, es 0 (by omega)]; exact s0
  · rw [eK, es 1 (by omega)]; exact s1
  · rw [eK, es 2 (by omega)]; exact s2
  · rw [eK]; exact s3
  · rw [eK, es 9 (by omega)]; exact s4
  · rw [eK, es 50 (by omega)]; exact s5
  · rw [eK, es 51 (by omega)]; exact s6
  · rw [eK, es 10 (by omega)]; exact s7
  · rw [eK, es 52 (by omega)]; exact s8
  · exact t1.fr (f _ (by omega)) (f _ (by omega))
  · intro j hj
    by_cases e : j = m
    · subst e
      rw [mu_rde rfl]
      refine pth_c (fun i hi => ?_)
      unfold lvO lvS
      rw [if_pos hi, if_pos hi, A_ali_t hi]
    · rw [mu_rdn e, t2 j hj]
      refine pth_c (fun i hi => ?_)
      unfold lvS
      rw [if_pos hi, if_pos hi, A_ali_k (by omega)]
  · exact t3.fr (f _ (by omega)) (f _ (by omega))
  · exact t4.fr (f _ (by omega)) (f _ (by omega))
  · exact t5.fr (f _ (by omega)) (f _ (by omega))
  · exact t6.fr (f _ (by omega)) (f _ (by omega))
  · exact t7.fr (f _ (by omega)) (f _ (by omega))
  · refine RW.congr (s := cl.1) ?_ (fun k h1 h2 => es k (by omega))
    unfold RW
    rw [f (K + 14) (by omega)]
    exact t8
theorem CV.ali {B m : Nat} {cl : Cl} {t : Nat → Int32} (h : CV B cl) (hm : m < 4) (ht : PV 26 t) : CV B (A_ali cl (29 + 4 * m) t) := by
  obtain ⟨a, b, c, d, e, f, g, i, j⟩ := h
  have es : ∀ k, k < 29 → (A_ali cl (29 + 4 * m) t).1 k = cl.1 k := fun k hk => A_ali_k (by omega)
  refine ⟨by rw [es 0 (by omega)]; exact a, b, ?_, d, e.cgr (es 9 (by omega)) rfl rfl rfl rfl rfl, ?_, fun x hx => ?_, ?_, ?_⟩
  · unfold LtOk
    rw [es 0 (by omega)]
    exact c
  · rw [es 0 (by omega)]
    exact f
  · by_cases q : x = m
    · subst q
      exact ht.cgr (fun y hy => A_ali_t hy)
    · exact (g x hx).at (fun y hy => A_ali_k (by omega))
  · unfold WlV
    rw [es 0 (by omega), es 12 (by omega), es 21 (by omega)]
    exact i
  · unfold WtV
    rw [es 1 (by omega), es 12 (by omega), es 18 (by omega), es 19 (by omega), es 20 (by omega), es 21 (by omega), es 27 (by omega), es 28 (by omega)]
    exact ⟨fun q => ⟨(j.1 q).1.at (fun x hx => es _ (by omega)), (j.1 q).2⟩, fun q => ⟨(j.2.1 q).1.at (fun x hx => es _ (by omega)), (j.2.1 q).2⟩, j.2.2⟩
theorem X_alias (T : Top) {B : Nat} (V : TV B T) (c k : Int32) : CO (f_X7_alias 0 c k) (O_alias T c k) B T := by
  unfold O_alias
  cases hc : inR c 0 5 with
  | false =>
    rw [if_pos (Or.inl rfl)]
    refine CO.same V (fun h R => ?_)
    unfold f_X7_alias
    rw [C_noC, b2_some, hc, if_neg bI_f]
  | true =>
    obtain ⟨n, hn, rfl⟩ := in5 hc
    rw [nI_clamp (by omega)]
    cases hk : inR k 1 4 with
    | false =>
      rw [if_pos (Or.inr rfl)]
      refine CO.same V (fun h R => ?_)
      unfold f_X7_alias
      rw [C_noC, b2_some, hc, if_pos bI_t, C_out, b2_some, hk, if_neg bI_f]
    | true =>
      rw [if_neg (by decide)]
      obtain ⟨m, h1, h2, rfl⟩ := inR_ex1 (b := 4) (by omega) hk
      by_cases e : (T.1.2.2 n).1 0 = 1
      · have tpe := isTp_B V.2.1
        have pv := V.2.1.pv
        cases ht : isTp T.2.1 with
        | false =>
          rw [if_pos (Or.inr rfl)]
          refine CO.same V (fun h R => ?_)
          unfold f_X7_alias
          rw [C_noC, b2_some, hc, if_pos bI_t, C_out, b2_some, hk, if_pos bI_t, yAw hn R e, b2_some, if_neg n10, R.2.1, C_isTopic pv, b2_some, ← tpe, ht, if_pos (show bI false = 0 from rfl)]
        | true =>
          rw [if_neg (fun q => q.elim (fun y => y e) (fun y => by cases y)), nI_clamp (by omega)]
          have pt := pv.tp (by rw [← tpe]; exact ht)
          have hcv := V.1.1.1 n hn
          have K := (W100.2.2.2.1 n hn).2.2
          have va := (hcv.2.2.2.2.2.2.1 (m - 1) (by omega)).z0 (by omega)
          have v1 : pth (lvO (fun i => (T.1.2.2 n).1 (29 + 4 * (m - 1) + i))) = 0 ↔ (T.1.2.2 n).1 (29 + 4 * (m - 1)) = 0 := va.1
          have v2 : (T.1.2.2 n).1 (29 + 4 * (m - 1)) ≤ 0 ↔ (T.1.2.2 n).1 (29 + 4 * (m - 1)) = 0 := va.2
          refine CO.world V (fun h R => ?_)
          have Rc := R.1.2.2.2 n hn
          have ea : h (100 + 6 + 15 * n + 3) (m - 1) = pth (lvO (fun i => (T.1.2.2 n).1 (29 + 4 * (m - 1) + i))) := Rc.2.2.1 (m - 1) (by omega)
          have em : nI m - 1 = nI (m - 1) := by rw [li_1, nI_subP (by omega)]
          unfold f_X7_alias f_X7_alias_65
          rw [C_noC, b2_some, hc, if_pos bI_t, C_out, b2_some, hk, if_pos bI_t, yAw hn R e, b2_some, if_neg n10, R.2.1, C_isTopic pv, b2_some, ← tpe, ht, if_neg (show ¬ bI true = 0 by decide), x0_2, W100.1.1, wcl W100 hn, K.1.2.1, em, ald_nI (by rw [K.2.2.1]; omega) (by omega), ea, ast_nI (by rw [K.2.2.1]; omega) (by omega), R.2.1]
          have f1 : FrK (100 + 6 + 15 * n) h (mu h (100 + 6 + 15 * n + 3) (m - 1) (pth (lvO (g5 T.2.1)))) := fun a ha => mu_ne (by omega)
          have R2 := R.1.cl hn (Rc.al (m := m - 1) (t := g5 T.2.1) (by omega)) f1
          have sv : SVc (B + 13000) (sC T.1 n (A_ali (T.1.2.2 n) (29 + 4 * (m - 1)) (g5 T.2.1))) := by
            refine V.1.up (V.1.1.put (hcv.ali (by omega) pt.1) ?_ rfl) rfl (by omega)
            rw [A_ali_k (by omega)]
          by_cases q : (T.1.2.2 n).1 (29 + 4 * (m - 1)) = 0
          · rw [if_pos (v1.mpr q), if_pos (v2.mpr q)]
            exact wR ⟨rfl, R2, sv, f1.w hn⟩
          · rw [if_neg (fun y => q (v1.mp y)), if_neg (fun y => q (v2.mp y)), ast_nI (by rw [K.2.2.1]; omega) (by omega)]
            exact wR ⟨rfl, R2, sv, f1.w hn⟩
      · rw [if_pos (Or.inl e)]
        refine CO.same V (fun h R => ?_)
        unfold f_X7_alias
        rw [C_noC, b2_some, hc, if_pos bI_t, C_out, b2_some, hk, if_pos bI_t, nAw hn R e, b2_some, if_pos rfl]
