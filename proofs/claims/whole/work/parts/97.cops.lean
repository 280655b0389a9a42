/-! the class: the calls, first lot -/
theorem RCo.rw {h : Mem} {T : Top} (R : RCo h T) (l : List Int32) : RCo (mu h 0 5 (pth (lvO (g5 l)))) (T.1, l, T.2.2) := by
  obtain ⟨r1, r2, ⟨r3, r4, r5⟩, r6, r7, dr, r8, r9⟩ := R
  have e : ∀ a, a ≠ 0 → mu h 0 5 (pth (lvO (g5 l))) a = h a := fun a ha => mu_ne ha
  refine ⟨r1.frm (fun a h1 h2 => e a (by omega)), by rw [mu_rde rfl], ⟨by rw [e 2 (by omega)]; exact r3, r4, fun j hj => by rw [e 3 (by omega)]; exact r5 j hj⟩, by rw [mu_rdn (by omega)]; exact r6, fun k hk => ?_, dr, r8.frm (fun a h1 h2 => e a (by omega)), r9⟩
  obtain ⟨q1, s, q2, q3⟩ := r7 k hk
  have il := im_lo k
  exact ⟨by rw [e 389 (by omega)]; exact q1, s, q2.frm (fun a h1 h2 => e a (by omega)), q3⟩
theorem RCo.tp {h h' : Mem} {T : Top} {l : List Int32} (R : RCo h T) (e1 : h' 2 1 = nI l.length) (hl : l.length ≤ 200) (hj : ∀ j, j < l.length → h' 3 j = g5 l j) (f : ∀ a, a ≠ 2 → a ≠ 3 → h' a = h a) : RCo h' (T.1, T.2.1, l, T.2.2.2) := by
  obtain ⟨r1, r2, -, r6, r7, dr, r8, r9⟩ := R
  refine ⟨r1.frm (fun a h1 h2 => f a (by omega) (by omega)), by rw [f 0 (by omega) (by omega)]; exact r2, ⟨e1, hl, hj⟩, by rw [f 0 (by omega) (by omega)]; exact r6, fun k hk => ?_, dr, r8.frm (fun a h1 h2 => f a (by omega) (by omega)), r9⟩
  obtain ⟨q1, s, q2, q3⟩ := r7 k hk
  have il := im_lo k
  exact ⟨by rw [f 389 (by omega) (by omega)]; exact q1, s, q2.frm (fun a h1 h2 => f a (by omega) (by omega)), q3⟩
theorem X_fault (T : Top) {B : Nat} (V : TV B T) : CO (f_X7_fault 0) (O_fault T) B T := CO.same V (fun h R => by
  unfold f_X7_fault
  rw [R.2.2.2.1])
theorem X_feed (T : Top) {B : Nat} (V : TV B T) (x : Int32) : CO (f_X7_feed 0 x) (O_feed T x) B T := by
  unfold O_feed
  cases hx : inR x 0 127 with
  | false =>
    rw [if_pos rfl]
    refine CO.same V (fun h R => ?_)
    unfold f_X7_feed
    rw [C_out, b2_some, hx, if_neg bI_f]
  | true =>
    rw [if_neg (by decide)]
    by_cases e : T.2.2.1.length = 200
    · rw [if_pos e]
      refine CO.same V (fun h R => ?_)
      unfold f_X7_feed f_X4_push
      rw [C_out, b2_some, hx, if_pos bI_t, x0_0, R.2.2.1.1, e, if_neg (show ¬ nI 200 < 0 by decide), if_neg (show ¬ nI 200 < 200 by decide), b2_some, if_pos rfl]
    · rw [if_neg e]
      intro h R
      have l200 := R.2.2.1.2.1
      unfold f_X7_feed f_X4_push
      have li : (200 : Int32) = nI 200 := li_200
      rw [C_out, b2_some, hx, if_pos bI_t, x0_0, R.2.2.1.1, if_neg (by rw [li_0, nI_ltI (by omega) (by omega)]; omega), if_pos (by rw [li, nI_ltI (by omega) (by omega)]; omega), x2_0, ast_nI (by rw [l3]; omega) (by omega), mlet_eq, b2_some, if_neg (by decide), mu_rde rfl, mu_ne (show 2 ≠ 3 by omega), R.2.2.1.1, show nI T.2.2.1.length + 1 = nI (T.2.2.1.length + 1) by rw [li_1, nI_add]]
      refine wR ⟨rfl, R.tp (l := T.2.2.1 ++ [x]) ?_ ?_ (fun j hj => ?_) (fun a h1 h2 => by rw [mu_ne h1, mu_ne h2]), ?_, fun a ha => by rw [mu_ne (by omega), mu_ne (by omega)]⟩
      · rw [mu_rde rfl]
        simp
      · simp
        omega
      · rw [mu_ne (by omega), g5_app]
        by_cases q : j < T.2.2.1.length
        · rw [mu_rdn (by omega), if_pos q]
          exact R.2.2.1.2.2 j q
        · have : j = T.2.2.1.length := by simp at hj; omega
          rw [mu_rde this, if_neg q, if_pos this]
      · have V' := V.mono (C := B + 13000) (by omega)
        refine ⟨V'.1, V'.2.1, fun y hy => ?_, V'.2.2.2⟩
        rcases List.mem_append.mp hy with q | q
        · exact V.2.2.1 y q
        · rw [List.mem_singleton] at q
          rw [q]
          exact hx
theorem X_end (T : Top) {B : Nat} (V : TV B T) (n : Int32) : CO (f_X7_end 0 n) (O_end T n) B T := by
  unfold O_end
  cases hx : inR n 0 (nI T.2.2.1.length) with
  | false =>
    rw [if_pos rfl]
    refine CO.same V (fun h R => ?_)
    unfold f_X7_end
    rw [C_out, x0_0, R.2.2.1.1, b2_some, hx, if_neg bI_f]
  | true =>
    rw [if_neg (by decide)]
    intro h R
    have l200 := R.2.2.1.2.1
    obtain ⟨m, hm, em⟩ := inR_ex (by omega) hx
    unfold f_X7_end
    rw [C_out, x0_0, R.2.2.1.1, b2_some, hx, if_pos bI_t, mlet_eq, em, nI_clamp (by omega)]
    have lt : (T.2.2.1.take m).length = m := by rw [List.length_take]; omega
    refine wR ⟨R.2.2.1.1, R.tp (l := T.2.2.1.take m) (by rw [mu_rde rfl, lt]) (by omega) (fun j hj => ?_) (fun a h1 h2 => mu_ne h1), ?_, fun a ha => mu_ne (by omega)⟩
    · rw [lt] at hj
      rw [mu_ne (by omega), g5_take hj]
      exact R.2.2.1.2.2 j (by omega)
    · have V' := V.mono (C := B + 13000) (by omega)
      exact ⟨V'.1, V'.2.1, fun y hy => V.2.2.1 y (List.mem_of_mem_take hy), V'.2.2.2⟩
theorem X_top (T : Top) {B : Nat} (V : TV B T) : CO (f_X7_top 0) (O_top T) B T := by
  intro h R
  have rl := V.2.1.ln
  unfold f_X7_top O_top
  rw [R.2.1, C_count (V.2.1.pv.l5 (by omega)), b2_some, rl.1.cz, mlet_eq]
  have e0 : (0 : Int32) = pth (lvO (g5 [])) := by
    unfold pth pN lvO g5
    decide
  rw [e0]
  refine wR ⟨rfl, R.rw [], ?_, fun a ha => mu_ne (by omega)⟩
  have V' := V.mono (C := B + 13000) (by omega)
  exact ⟨V'.1, ⟨by simp, fun x hx => by cases hx⟩, V'.2.2.1, V'.2.2.2⟩
theorem X_level (T : Top) {B : Nat} (V : TV B T) (x : Int32) : CO (f_X7_level 0 x) (O_level T x) B T := by
  have rl := V.2.1.ln
  have L5' := V.2.1.pv.l5 (by omega)
  have l4 := V.2.1.1
  unfold O_level
  cases hx : inR x 1 28 with
  | false =>
    rw [if_pos rfl]
    refine CO.same V (fun h R => ?_)
    unfold f_X7_level
    rw [C_out, b2_some, hx, if_neg bI_f]
  | true =>
    rw [if_neg (by decide)]
    have er : (0 < T.2.1.length ∧ g5 T.2.1 (T.2.1.length - 1) = 28) ↔ (0 < T.2.1.length ∧ lvO (g5 T.2.1) (T.2.1.length - 1) = 28) := by
      constructor
      · intro ⟨a, b⟩
        refine ⟨a, ?_⟩
        rw [rl.2.2 _ (by omega), li_28] at b
        have := rl.2.1 (T.2.1.length - 1)
        exact (nI_eq (by omega) (by omega)).mp b
      · intro ⟨a, b⟩
        refine ⟨a, ?_⟩
        rw [rl.2.2 _ (by omega), b]
        rfl
    by_cases e : 0 < T.2.1.length ∧ g5 T.2.1 (T.2.1.length - 1) = 28
    · rw [if_pos e]
      refine CO.same V (fun h R => ?_)
      unfold f_X7_level
      rw [C_out, b2_some, hx, if_pos bI_t, R.2.1, C_endsInRest L5' rl.1, if_pos (er.mp e), b2_some, if_neg (by decide)]
    · rw [if_neg e]
      by_cases e4 : T.2.1.length = 4
      · rw [if_pos e4]
        refine CO.same V (fun h R => ?_)
        unfold f_X7_level
        rw [C_out, b2_some, hx, if_pos bI_t, R.2.1, C_endsInRest L5' rl.1, if_neg (fun q => e (er.mpr q)), b2_some, if_pos rfl, R.2.1, C_count L5', b2_some, rl.1.cz, if_neg (by rw [e4]; decide)]
      · rw [if_neg e4]
        obtain ⟨m, h1, h2, em⟩ := inR_ex1 (b := 28) (by omega) hx
        intro h R
        unfold f_X7_level
        rw [C_out, b2_some, hx, if_pos bI_t, R.2.1, C_endsInRest L5' rl.1, if_neg (fun q => e (er.mpr q)), b2_some, if_pos rfl, R.2.1, C_count L5', b2_some, rl.1.cz, if_pos (by rw [li_4, nI_ltI (by omega) (by omega)]; omega), R.2.1, em, C_with L5' rl.1 (by omega) (by omega), b2_some, mlet_eq, show nI T.2.1.length + 1 = nI (T.2.1.length + 1) by rw [li_1, nI_add]]
        have ep : pth (ud (lvO (g5 T.2.1)) T.2.1.length m) = pth (lvO (g5 (T.2.1 ++ [nI m]))) := by
          refine pth_c (fun j hj => ?_)
          unfold lvO
          rw [if_pos hj, g5_app]
          by_cases q : j = T.2.1.length
          · rw [q, ud_eq, if_neg (by omega), if_pos rfl, nI_clamp (by omega)]
          · rw [ud_ne q, if_pos hj]
            by_cases q2 : j < T.2.1.length
            · rw [if_pos q2]
            · rw [if_neg q2, if_neg q, g5_out (by omega)]
        rw [ep]
        refine wR ⟨rfl, R.rw (T.2.1 ++ [nI m]), ?_, fun a ha => mu_ne (by omega)⟩
        have V' := V.mono (C := B + 13000) (by omega)
        refine ⟨V'.1, ⟨by simp; omega, fun y hy => ?_⟩, V'.2.2.1, V'.2.2.2⟩
        rcases List.mem_append.mp hy with q | q
        · exact V.2.1.2 y q
        · rw [List.mem_singleton] at q
          exact ⟨m, h1, h2, q⟩
theorem SVc.up {B C : Nat} {st st' : St} (h : SVc B st) (s : SV C st') (e : st'.1 0 = st.1 0) (hC : C ≤ B + 13000) : SVc (B + 13000) st' := by
  obtain ⟨-, n, hn, en⟩ := h
  exact ⟨s.mono hC, n, by omega, by rw [e]; exact en⟩
theorem SVc.n {B : Nat} {st : St} (h : SVc B st) : ∃ n, n ≤ B ∧ st.1 0 = nI n := h.2
theorem nAw {T : Top} {c : Nat} {h : Mem} (hc : c < 6) (R : RCo h T) (e : ¬ (T.1.2.2 c).1 0 = 1) : f_X7_isAwake 0 (nI c) h = some (0, h) := by rw [C_awake hc R, if_neg e]
theorem yAw {T : Top} {c : Nat} {h : Mem} (hc : c < 6) (R : RCo h T) (e : (T.1.2.2 c).1 0 = 1) : f_X7_isAwake 0 (nI c) h = some (1, h) := by rw [C_awake hc R, if_pos e]
theorem n10 : ¬ (1 : Int32) = 0 := by decide
theorem X_again (T : Top) {B : Nat} (V : TV B T) (c : Int32) : CO (f_X7_again 0 c) (O_again T c) B T := by
  unfold O_again
  cases hc : inR c 0 5 with
  | false =>
    rw [if_pos rfl]
    refine CO.same V (fun h R => ?_)
    unfold f_X7_again
    rw [C_noC, b2_some, hc, if_neg bI_f]
  | true =>
    obtain ⟨n, hn, rfl⟩ := in5 hc
    rw [if_neg (by decide), nI_clamp (by omega)]
    by_cases e : (T.1.2.2 n).1 0 = 1
    · rw [if_neg (fun q => q e)]
      refine CO.world V (fun h R => ?_)
      unfold f_X7_again
      rw [C_noC, b2_some, hc, if_pos bI_t, yAw hn R e, b2_some, if_neg n10, x0_2, W100.1.1, wcl W100 hn]
      refine wB (C_sendAgain (W100.2.2.2.1 n hn).2.2 (R.1.2.2.2 n hn)) (fun r g P => wR ⟨P.1, R.1.cl hn P.2.1 P.2.2, ?_, P.2.2.w hn⟩)
      refine V.1.up (V.1.1.put (V.1.1.1 n hn).snd ?_ (A_snd_ne _ _ _ (by omega))) rfl (by omega)
      rw [A_snd_1]
    · rw [if_pos e]
      refine CO.same V (fun h R => ?_)
      unfold f_X7_again
      rw [C_noC, b2_some, hc, if_pos bI_t, nAw hn R e, b2_some, if_pos rfl]
theorem in1 {c : Int32} (h : inR c 0 1 = true) : c = 0 ∨ c = 1 := by
  obtain ⟨n, hn, e⟩ := inR_ex (b := 1) (by omega) h
  rcases (show n = 0 ∨ n = 1 by omega) with rfl | rfl
  · exact Or.inl e
  · exact Or.inr e
theorem in2 {c : Int32} (h : inR c 0 2 = true) : pOk c := by
  obtain ⟨n, hn, e⟩ := inR_ex (b := 2) (by omega) h
  rcases (show n = 0 ∨ n = 1 ∨ n = 2 by omega) with rfl | rfl | rfl
  · exact Or.inl e
  · exact Or.inr (Or.inl e)
  · exact Or.inr (Or.inr e)
theorem X_wake (T : Top) {B : Nat} (V : TV B T) (hB1 : 1 ≤ B) (hB : B + 100 < 2 ^ 31 - 1) (c cln lf : Int32) : CO (f_X7_wake 0 c cln lf) (O_wake T c cln lf) B T := by
  unfold O_wake
  cases hc : inR c 0 5 with
  | false =>
    rw [if_pos (Or.inl rfl)]
    refine CO.same V (fun h R => ?_)
    unfold f_X7_wake
    rw [C_noC, b2_some, hc, if_neg bI_f]
  | true =>
    obtain ⟨n, hn, rfl⟩ := in5 hc
    rw [nI_clamp (by omega)]
    cases hq : inR cln 0 1 with
    | false =>
      rw [if_pos (Or.inr (Or.inl rfl))]
      refine CO.same V (fun h R => ?_)
      unfold f_X7_wake
      rw [C_noC, b2_some, hc, if_pos bI_t, C_out, b2_some, hq, if_neg bI_f]
    | true =>
      cases hl : inR lf 0 99 with
      | false =>
        rw [if_pos (Or.inr (Or.inr rfl))]
        refine CO.same V (fun h R => ?_)
        unfold f_X7_wake
        rw [C_noC, b2_some, hc, if_pos bI_t, C_out, b2_some, hq, if_pos bI_t, C_out, b2_some, hl, if_neg bI_f]
      | true =>
        rw [if_neg (by decide)]
        by_cases e : (T.1.2.2 n).1 0 = 1
        · rw [if_pos e]
          refine CO.same V (fun h R => ?_)
          unfold f_X7_wake
          rw [C_noC, b2_some, hc, if_pos bI_t, C_out, b2_some, hq, if_pos bI_t, C_out, b2_some, hl, if_pos bI_t, yAw hn R e, b2_some, if_neg n10]
        · rw [if_neg e]
          obtain ⟨m, hm, em⟩ := inR_ex (b := 99) (by omega) hl
          have hcv := V.1.1.1 n hn
          have eo : (if cln = 0 ∧ (T.1.2.2 n).1 0 = 2 then ((1 : Int32), sC T.1 n (A_wk (T.1.2.2 n) lf), T.2) else (0, sC (A_fgt (sC T.1 n (A_new (T.1.2.2 n) 1))) n (A_wk ((A_fgt (sC T.1 n (A_new (T.1.2.2 n) 1))).2.2 n) lf), T.2)) = ((A_rou T.1 n cln lf).1, (A_rou T.1 n cln lf).2, T.2) := by
            unfold A_rou
            by_cases q : cln = 0 ∧ (T.1.2.2 n).1 0 = 2
            · rw [if_pos q, if_pos ⟨by rw [q.2]; decide, q.1⟩]
            · rw [if_neg q, if_neg (fun y => q ⟨y.2, by
                rcases hcv.1 with z | z | z
                · exact absurd z y.1
                · exact absurd z e
                · exact z⟩), A_rou_ref]
          rw [eo]
          have fr : FrW 100 = FrW 100 := rfl
          refine CO.world V (fun h R => ?_)
          have hr := C_rouse W100 hn R.1 V.1.1.sb V.1.1.2.2.1 (hcv.n12 e) cln lf
          have sv : SVc (B + 13000) (A_rou T.1 n cln lf).2 := by
            unfold A_rou
            split
            · refine V.1.up (C := B + 12) ((V.1.1.mono (by omega)).putR (by rw [em]; exact hcv.wk (by omega) hm) ?_) rfl (by omega)
              rename_i q
              unfold rws
              rw [A_wk_t (by omega) (by omega) (by omega) (by omega), A_wk_k (by omega), if_neg (show ¬ (A_wk0 (T.1.2.2 n) lf).1 0 = 0 from n10), if_neg q.1]
            · have fe := V.1.1.fin hB1 hn
              have ee : (A_end T.1 n).2.2 n = A_new (T.1.2.2 n) 0 := sC_eq T.1 n _
              refine V.1.up (C := B + 12) ((fe.mono (by omega)).putR (by rw [em]; exact (fe.1 n hn).wk (by omega) hm) ?_) rfl (by omega)
              unfold rws
              rw [A_wk_t (by omega) (by omega) (by omega) (by omega), ee, A_new_3]
              split <;> split <;> rfl
          unfold f_X7_wake f_X7_wake_62
          rw [C_noC, b2_some, hc, if_pos bI_t, C_out, b2_some, hq, if_pos bI_t, C_out, b2_some, hl, if_pos bI_t, nAw hn R e, b2_some, if_pos rfl, x0_2, W100.1.1, wcl W100 hn]
          have fin : Tr (b2 (f_X6_rouse 100 (100 + 6 + 15 * n) cln lf h) fun v2 h1 => if v2 = 0 then some ((0 : Int32), h1) else some (1, h1)) (fun r h' => r = (A_rou T.1 n cln lf).1 ∧ RWd h' 100 (A_rou T.1 n cln lf).2 ∧ SVc (B + 13000) (A_rou T.1 n cln lf).2 ∧ FrW 100 h h') := by
            refine wB hr (fun r g P => ?_)
            have r01 : (A_rou T.1 n cln lf).1 = 0 ∨ (A_rou T.1 n cln lf).1 = 1 := by
              unfold A_rou
              split
              · exact Or.inr rfl
              · exact Or.inl rfl
            rw [P.1]
            rcases r01 with z | z
            · rw [z, if_pos rfl]
              exact wR ⟨rfl, P.2.1, sv, P.2.2⟩
            · rw [z, if_neg n10]
              exact wR ⟨rfl, P.2.1, sv, P.2.2⟩
          rcases in1 hq with rfl | rfl
          · rw [if_neg (by decide)]
            exact fin
          · rw [if_pos rfl]
            exact fin
