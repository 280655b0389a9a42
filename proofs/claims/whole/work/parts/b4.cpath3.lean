/-! the class: a path is taken -/
def TkC (tape : List Int32) : PS → Prop
  | .inl _ => True
  | .inr (s, _, k, v) => k = 1 → s < tape.length ∧ v = byt tape s ∧ inR (byt tape s) 97 122 = true
theorem tk1_c (tape : List Int32) (s : Nat) : TkC tape (tk1 tape s) := by
  unfold tk1
  by_cases a : byt tape s = -4
  · rw [if_pos a]
    intro z
    exact absurd z (by decide)
  · rw [if_neg a]
    have hs : s < tape.length := by
      rcases Nat.lt_or_ge s tape.length with q | q
      · exact q
      · exact absurd (atc_out q).2 a
    cases hl : inR (byt tape s) 97 122 with
    | true =>
      rw [if_pos rfl]
      exact fun _ => ⟨hs, rfl, hl⟩
    | false =>
      rw [if_neg (by decide)]
      cases hf : inR (byt tape s) 48 57 with
      | true =>
        rw [if_pos rfl]
        split
        · trivial
        · exact fun z => absurd z (by decide)
      | false =>
        rw [if_neg (by decide)]
        split
        · rename_i q
          intro z
          rw [z] at q
          exact absurd q (by decide)
        · trivial
theorem tkA_c (tape : List Int32) (k : Nat) : TkC tape (tkA tape k) := tk1_c tape _
theorem p_num_c (tape : List Int32) (lo hi : Int32) (p : PS) : TkC tape (p_num tape lo hi p).2 := by
  match p with
  | .inl e => trivial
  | .inr (s, n, k, v) =>
    rw [p_num_r]
    split
    · trivial
    · split
      · trivial
      · exact tkA_c _ _
def SameN (q q' : PS) : Prop := q = q' ∨ ∃ s n v, q = .inr (s, n, 47, v) ∧ q' = .inl (2, s)
theorem SameN.num {q q' : PS} (h : SameN q q') (tape : List Int32) (lo hi : Int32) : p_num tape lo hi q = p_num tape lo hi q' := by
  rcases h with h | ⟨s, n, v, e1, e2⟩
  · rw [h]
  · rw [e1, e2, p_num_r, if_pos (by decide)]
    rfl
def LvL (mx : Nat) (l : List Int32) : Prop := l.length ≤ 4 ∧ ∀ x ∈ l, ∃ m, 1 ≤ m ∧ m ≤ mx ∧ x = nI m
theorem LvL.row {mx : Nat} {l : List Int32} (h : LvL mx l) (hx : mx ≤ 28) : RowV l := ⟨h.1, fun x hx' => by
  obtain ⟨m, h1, h2, e⟩ := h.2 x hx'
  exact ⟨m, h1, by omega, e⟩⟩
theorem pth_app {l : List Int32} {m : Nat} (V : RowV l) (hl : l.length < 4) (hm : m ≤ 28) : pth (ud (lvO (g5 l)) l.length m) = pth (lvO (g5 (l ++ [nI m]))) := by
  refine pth_c (fun j hj => ?_)
  unfold lvO
  rw [if_pos hj, g5_app]
  by_cases q : j = l.length
  · rw [q, ud_eq, if_neg (by omega), if_pos rfl, nI_clamp (by omega)]
  · rw [ud_ne q, if_pos hj]
    by_cases q2 : j < l.length
    · rw [if_pos q2]
    · rw [if_neg q2, if_neg q, g5_out (by omega)]
/-- the level at hand, as the class says it -/
def clv (s n : Nat) (k v : Int32) : Int32 := if k = 43 then 27 else if k = 35 then 28 else if k = 1 ∧ n - s = 1 then v - 97 + 1 else 0
theorem C_levelAtHand {h : Mem} {tape : List Int32} {s n : Nat} {k v : Int32} (t : TpC h tape) (R : RPc h tape (.inr (s, n, k, v))) (c : TkC tape (.inr (s, n, k, v))) : f_X2_levelAtHand 1 h = some (clv s n k v, h) := by
  have l := t.1.2.1
  obtain ⟨r6, r2, r3, r4, r5, rk, -⟩ := R
  unfold f_X2_levelAtHand clv
  rw [rk, r2, r3]
  by_cases a : k = 43
  · rw [if_pos a, if_pos a]
  by_cases b : k = 35
  · rw [if_neg a, if_pos b, if_neg a, if_pos b]
  rw [if_neg a, if_neg b, if_neg a, if_neg b, nI_subP r4]
  by_cases e : k = 1
  · rw [if_pos e]
    obtain ⟨c1, c2, c3⟩ := c e
    by_cases d : n - s = 1
    · rw [if_pos (by rw [d]; rfl), if_pos ⟨e, d⟩, x1_0, C_at t (by omega), b2_some, atc_in c1, c2]
    · have nd : ¬ nI (n - s) = 1 := fun z => by
        have z' : nI (n - s) = nI 1 := z
        exact d ((nI_eq (by omega) (by omega)).mp z')
      rw [if_neg nd, if_neg (fun q => d q.2)]
  · rw [if_neg e, if_neg (fun q => e q.1)]
theorem clv_lvAt {tape : List Int32} {s n mx : Nat} {k v top a1 : Int32} (c : TkC tape (.inr (s, n, k, v))) (ht : (top = 0 ∧ a1 = 28 ∧ mx = 28) ∨ (top = 1 ∧ a1 = 26 ∧ mx = 26)) : (lvAt top s n k v = none ∧ (clv s n k v = 0 ∨ ¬ clv s n k v ≤ a1)) ∨ ∃ m, 1 ≤ m ∧ m ≤ mx ∧ lvAt top s n k v = some (nI m) ∧ clv s n k v = nI m := by
  unfold lvAt clv
  by_cases e : k = 1 ∧ n - s = 1
  · obtain ⟨c1, c2, c3⟩ := c e.1
    obtain ⟨b, hb1, hb2, eb⟩ : ∃ b, 97 ≤ b ∧ b ≤ 122 ∧ byt tape s = nI b := by
      unfold inR at c3
      simp only [Bool.and_eq_true, Bool.not_eq_true', decide_eq_false_iff_not] at c3
      have n0 : ¬ byt tape s < 0 := fun z => c3.1 (Int32.lt_trans z (by decide))
      obtain ⟨b, hb, eb⟩ := nI_nn n0
      rw [eb] at c3
      have l97 : (97 : Int32) = nI 97 := by decide +kernel
      have l122 : (122 : Int32) = nI 122 := by decide +kernel
      rw [l97, l122, nI_ltI (by omega) (by omega), nI_ltI (by omega) (by omega)] at c3
      exact ⟨b, by omega, by omega, eb⟩
    refine Or.inr ⟨b - 96, by omega, by rcases ht with ⟨-, -, z⟩ | ⟨-, -, z⟩ <;> omega, ?_⟩
    have ev : v - 97 + 1 = nI (b - 96) := by
      have l97 : (97 : Int32) = nI 97 := by decide +kernel
      rw [c2, eb, l97, nI_subP (by omega), li_1, nI_add]
      congr 1
      omega
    rw [if_pos e, if_neg (by rw [e.1]; decide), if_neg (by rw [e.1]; decide), if_pos e, ev]
    exact ⟨rfl, rfl⟩
  · rw [if_neg e, if_neg e]
    rcases ht with ⟨rfl, rfl, rfl⟩ | ⟨rfl, rfl, rfl⟩
    · by_cases a : k = 43
      · rw [if_pos ⟨rfl, a⟩, if_pos a]
        exact Or.inr ⟨27, by omega, by omega, rfl, rfl⟩
      · rw [if_neg (fun q => a q.2), if_neg a]
        by_cases b : k = 35
        · rw [if_pos ⟨rfl, b⟩, if_pos b]
          exact Or.inr ⟨28, by omega, by omega, rfl, rfl⟩
        · rw [if_neg (fun q => b q.2), if_neg b]
          exact Or.inl ⟨rfl, Or.inl rfl⟩
    · rw [if_neg (fun q => absurd q.1 (by decide)), if_neg (fun q => absurd q.1 (by decide))]
      refine Or.inl ⟨rfl, ?_⟩
      split
      · exact Or.inr (by decide)
      · split
        · exact Or.inr (by decide)
        · exact Or.inl rfl
theorem C_path4 {tape : List Int32} {mx : Nat} {top a1 : Int32} (ht : (top = 0 ∧ a1 = 28 ∧ mx = 28) ∨ (top = 1 ∧ a1 = 26 ∧ mx = 26)) : ∀ (d i n : Nat) (l : List Int32) (p : PS) (h : Mem), i + (d + 1) = 4 → l.length = i → d + 1 < n → TpC h tape → RPc h tape p → TkC tape p → LvL mx l → Tr (f_X2_takePath_4 n 1 a1 (pth (lvO (g5 l))) (nI i) h) (fun r h' => ∃ q, RPc h' tape q ∧ SameN q (p_path tape top (d + 1) (p_lev tape top l p)).2 ∧ (∀ u, (p_path tape top (d + 1) (p_lev tape top l p)).2 = .inr u → r = pth (lvO (g5 (p_path tape top (d + 1) (p_lev tape top l p)).1)) ∧ LvL mx (p_path tape top (d + 1) (p_lev tape top l p)).1 ∧ 0 < (p_path tape top (d + 1) (p_lev tape top l p)).1.length) ∧ FrC h h') := by
  have mx28 : mx ≤ 28 := by rcases ht with ⟨-, -, z⟩ | ⟨-, -, z⟩ <;> omega
  have a1m : a1 = nI mx := by rcases ht with ⟨-, z, y⟩ | ⟨-, z, y⟩ <;> rw [z, y] <;> rfl
  intro d
  induction d with
  | zero =>
    intro i n l p h h1 hl h2 t R c V
    obtain ⟨n, rfl⟩ : ∃ z, n = z + 1 := ⟨n - 1, by omega⟩
    have rv := V.row mx28
    have rl := rv.ln
    unfold f_X2_takePath_4
    rw [if_neg (by rw [li_4, nI_leI (by omega) (by omega)]; omega)]
    match p, R, c with
    | .inl e, R, c =>
      rw [if_neg R.f0]
      have ep : p_path tape top (0 + 1) (p_lev tape top l (.inl e)) = (l, .inl e) := rfl
      rw [ep]
      exact wR ⟨.inl e, R, Or.inl rfl, fun u z => (by cases z), FrC.rf⟩
    | .inr (s, n', k, v), R, c =>
      rw [if_pos R.1, C_levelAtHand t R c, b2_some, p_lev_r]
      rcases clv_lvAt c ht with ⟨e1, e2⟩ | ⟨m, hm1, hm2, e1, e2⟩
      · rw [e1]
        have fin : Tr (f_X2_takePath_33 1 (pth (lvO (g5 l))) h) (fun r h' => ∃ q, RPc h' tape q ∧ SameN q (p_path tape top (0 + 1) (l, .inl (2, s))).2 ∧ (∀ u, (p_path tape top (0 + 1) (l, .inl (2, s))).2 = .inr u → r = pth (lvO (g5 (p_path tape top (0 + 1) (l, .inl (2, s))).1)) ∧ LvL mx (p_path tape top (0 + 1) (l, .inl (2, s))).1 ∧ 0 < (p_path tape top (0 + 1) (l, .inl (2, s))).1.length) ∧ FrC h h') := by
          unfold f_X2_takePath_33
          exact wB (C_fail R 2 (by decide)) (fun _ g P => wR ⟨.inl (2, s), P.1, Or.inl rfl, fun u z => (by cases z), P.2⟩)
        by_cases q0 : clv s n' k v = 0
        · rw [if_pos q0]
          exact fin
        · rw [if_neg q0, if_neg (e2.resolve_left q0)]
          exact fin
      · rw [e1, e2]
        have nz : ¬ nI m = 0 := fun z => by
          have z' : nI m = nI 0 := z
          have := (nI_eq (by omega) (by omega)).mp z'
          omega
        rw [if_neg nz, if_pos (by rw [a1m, nI_leI (by omega) (by omega)]; exact hm2), C_with (rv.pv.l5 (by omega)) rl.1 (by omega) (by omega), b2_some, pth_app rv (by omega) (by omega)]
        refine wB (C_tkA t R.1 R.2.1 R.2.2.2.2.1) (fun _ g P => ?_)
        have V' : LvL mx (l ++ [nI m]) := ⟨by simp; omega, fun x hx => by
          rcases List.mem_append.mp hx with q | q
          · exact V.2 x q
          · rw [List.mem_singleton] at q
            exact ⟨m, hm1, hm2, q⟩⟩
        have i3 : nI i = 3 := by rw [show i = 3 by omega]; rfl
        have stop : ∀ q', p_path tape top (0 + 1) (l ++ [nI m], tkA tape n') = q' → SameN (tkA tape n') q'.2 → (∀ u, q'.2 = .inr u → q'.1 = l ++ [nI m]) → Tr (some (pth (lvO (g5 (l ++ [nI m]))), g)) (fun r h' => ∃ q, RPc h' tape q ∧ SameN q (p_path tape top (0 + 1) (l ++ [nI m], tkA tape n')).2 ∧ (∀ u, (p_path tape top (0 + 1) (l ++ [nI m], tkA tape n')).2 = .inr u → r = pth (lvO (g5 (p_path tape top (0 + 1) (l ++ [nI m], tkA tape n')).1)) ∧ LvL mx (p_path tape top (0 + 1) (l ++ [nI m], tkA tape n')).1 ∧ 0 < (p_path tape top (0 + 1) (l ++ [nI m], tkA tape n')).1.length) ∧ FrC h h') := by
          intro q' eq hs hv
          rw [eq]
          refine wR ⟨_, P.1, hs, fun u hu => ?_, P.2⟩
          rw [hv u hu]
          exact ⟨rfl, V', by simp⟩
        have P1 := P.1
        have tc := tkA_c tape n'
        generalize tkA tape n' = p1 at P1 tc stop ⊢
        match p1, P1, tc, stop with
        | .inl e, P1, tc, stop =>
          have fin := stop (l ++ [nI m], .inl e) rfl (Or.inl rfl) (fun u z => (by cases z))
          split
          · split
            · exact fin
            · exact fin
          · exact fin
        | .inr (s1, n1, k1, v1), P1, tc, stop =>
          rw [P1.2.2.2.2.2.1]
          by_cases k47 : k1 = 47
          · subst k47
            have ep : p_path tape top (0 + 1) (l ++ [nI m], .inr (s1, n1, 47, v1)) = (l ++ [nI m], .inl (2, s1)) := by
              show (if (47 : Int32) = 47 then (if 4 ≤ (l ++ [nI m]).length ∨ _ then _ else _) else _) = _
              rw [if_pos rfl, if_pos (Or.inl (by simp; omega))]
            have fin := stop _ ep (Or.inr ⟨s1, n1, v1, rfl, rfl⟩) (fun u z => (by cases z))
            rw [if_pos rfl, if_pos i3]
            split
            · exact fin
            · exact fin
          · have ep : p_path tape top (0 + 1) (l ++ [nI m], .inr (s1, n1, k1, v1)) = (l ++ [nI m], .inr (s1, n1, k1, v1)) := by
              show (if k1 = 47 then _ else _) = _
              rw [if_neg k47]
            rw [if_neg k47]
            exact stop _ ep (Or.inl rfl) (fun u _ => rfl)
  | succ d ih =>
    intro i n l p h h1 hl h2 t R c V
    obtain ⟨n, rfl⟩ : ∃ z, n = z + 1 := ⟨n - 1, by omega⟩
    have rv := V.row mx28
    have rl := rv.ln
    unfold f_X2_takePath_4
    rw [if_neg (by rw [li_4, nI_leI (by omega) (by omega)]; omega)]
    match p, R, c with
    | .inl e, R, c =>
      rw [if_neg R.f0]
      have ep : p_path tape top (d + 1 + 1) (p_lev tape top l (.inl e)) = (l, .inl e) := rfl
      rw [ep]
      exact wR ⟨.inl e, R, Or.inl rfl, fun u z => (by cases z), FrC.rf⟩
    | .inr (s, n', k, v), R, c =>
      rw [if_pos R.1, C_levelAtHand t R c, b2_some, p_lev_r]
      rcases clv_lvAt c ht with ⟨e1, e2⟩ | ⟨m, hm1, hm2, e1, e2⟩
      · rw [e1]
        have fin : Tr (f_X2_takePath_33 1 (pth (lvO (g5 l))) h) (fun r h' => ∃ q, RPc h' tape q ∧ SameN q (p_path tape top (d + 1 + 1) (l, .inl (2, s))).2 ∧ (∀ u, (p_path tape top (d + 1 + 1) (l, .inl (2, s))).2 = .inr u → r = pth (lvO (g5 (p_path tape top (d + 1 + 1) (l, .inl (2, s))).1)) ∧ LvL mx (p_path tape top (d + 1 + 1) (l, .inl (2, s))).1 ∧ 0 < (p_path tape top (d + 1 + 1) (l, .inl (2, s))).1.length) ∧ FrC h h') := by
          unfold f_X2_takePath_33
          exact wB (C_fail R 2 (by decide)) (fun _ g P => wR ⟨.inl (2, s), P.1, Or.inl rfl, fun u z => (by cases z), P.2⟩)
        by_cases q0 : clv s n' k v = 0
        · rw [if_pos q0]
          exact fin
        · rw [if_neg q0, if_neg (e2.resolve_left q0)]
          exact fin
      · rw [e1, e2]
        have nz : ¬ nI m = 0 := fun z => by
          have z' : nI m = nI 0 := z
          have := (nI_eq (by omega) (by omega)).mp z'
          omega
        rw [if_neg nz, if_pos (by rw [a1m, nI_leI (by omega) (by omega)]; exact hm2), C_with (rv.pv.l5 (by omega)) rl.1 (by omega) (by omega), b2_some, pth_app rv (by omega) (by omega)]
        refine wB (C_tkA t R.1 R.2.1 R.2.2.2.2.1) (fun _ g P => ?_)
        have V' : LvL mx (l ++ [nI m]) := ⟨by simp; omega, fun x hx => by
          rcases List.mem_append.mp hx with q | q
          · exact V.2 x q
          · rw [List.mem_singleton] at q
            exact ⟨m, hm1, hm2, q⟩⟩
        have i3 : ¬ nI i = 3 := fun z => by
          have z' : nI i = nI 3 := z
          have := (nI_eq (by omega) (by omega)).mp z'
          omega
        have stop : ∀ g', RPc g' tape (tkA tape n') → FrC h g' → ∀ q', p_path tape top (d + 1 + 1) (l ++ [nI m], tkA tape n') = q' → SameN (tkA tape n') q'.2 → (∀ u, q'.2 = .inr u → q'.1 = l ++ [nI m]) → Tr (some (pth (lvO (g5 (l ++ [nI m]))), g')) (fun r h' => ∃ q, RPc h' tape q ∧ SameN q (p_path tape top (d + 1 + 1) (l ++ [nI m], tkA tape n')).2 ∧ (∀ u, (p_path tape top (d + 1 + 1) (l ++ [nI m], tkA tape n')).2 = .inr u → r = pth (lvO (g5 (p_path tape top (d + 1 + 1) (l ++ [nI m], tkA tape n')).1)) ∧ LvL mx (p_path tape top (d + 1 + 1) (l ++ [nI m], tkA tape n')).1 ∧ 0 < (p_path tape top (d + 1 + 1) (l ++ [nI m], tkA tape n')).1.length) ∧ FrC h h') := by
          intro g' Rg fg q' eq hs hv
          rw [eq]
          refine wR ⟨_, Rg, hs, fun u hu => ?_, fg⟩
          rw [hv u hu]
          exact ⟨rfl, V', by simp⟩
        have P1 := P.1
        have tc := tkA_c tape n'
        have tg' := t.fr P.2
        generalize tkA tape n' = p1 at P1 tc stop ⊢
        match p1, P1, tc, stop with
        | .inl e, P1, tc, stop =>
          have fin := fun g' a b => stop g' a b (l ++ [nI m], .inl e) rfl (Or.inl rfl) (fun u z => (by cases z))
          split
          · split
            · exact fin g P1 P.2
            · refine wB (C_advance tg' P1) (fun _ g2 Q => ?_)
              have Q1 : RPc g2 tape (.inl e) := Q.1
              obtain ⟨n, rfl⟩ : ∃ z, n = z + 1 := ⟨n - 1, by omega⟩
              unfold f_X2_takePath_4
              rw [show nI i + 1 = nI (i + 1) by rw [li_1, nI_add], if_neg (by rw [li_4, nI_leI (by omega) (by omega)]; omega), if_neg Q1.f0]
              exact fin g2 Q1 (P.2.tr Q.2)
          · exact fin g P1 P.2
        | .inr (s1, n1, k1, v1), P1, tc, stop =>
          rw [P1.2.2.2.2.2.1]
          by_cases k47 : k1 = 47
          · subst k47
            rw [if_pos rfl]
            have glast : g5 (l ++ [nI m]) ((l ++ [nI m]).length - 1) = nI m := by
              rw [g5_app, List.length_append]
              simp
            by_cases m28 : m = 28
            · have ep : p_path tape top (d + 1 + 1) (l ++ [nI m], .inr (s1, n1, 47, v1)) = (l ++ [nI m], .inl (2, s1)) := by
                show (if (47 : Int32) = 47 then (if 4 ≤ (l ++ [nI m]).length ∨ g5 (l ++ [nI m]) ((l ++ [nI m]).length - 1) = 28 then _ else _) else _) = _
                rw [if_pos rfl, if_pos (Or.inr (by rw [glast, m28]; rfl))]
              rw [if_pos (by rw [m28]; rfl)]
              exact stop g P1 P.2 _ ep (Or.inr ⟨s1, n1, v1, rfl, rfl⟩) (fun u z => (by cases z))
            · have n28 : ¬ nI m = 28 := fun z => by
                have z' : nI m = nI 28 := z
                exact m28 ((nI_eq (by omega) (by omega)).mp z')
              have ep : p_path tape top (d + 1 + 1) (l ++ [nI m], .inr (s1, n1, 47, v1)) = p_path tape top (d + 1) (p_lev tape top (l ++ [nI m]) (tkA tape n1)) := by
                show (if (47 : Int32) = 47 then (if 4 ≤ (l ++ [nI m]).length ∨ g5 (l ++ [nI m]) ((l ++ [nI m]).length - 1) = 28 then _ else _) else _) = _
                rw [if_pos rfl, if_neg (fun q => q.elim (fun y => by simp at y; omega) (fun y => n28 (by rw [glast] at y; exact y)))]
              rw [if_neg n28, if_neg i3, ep]
              refine wB (C_tkA tg' P1.1 P1.2.1 P1.2.2.2.2.1) (fun _ g2 Q => ?_)
              rw [show nI i + 1 = nI (i + 1) by rw [li_1, nI_add]]
              exact wM (ih (i + 1) n (l ++ [nI m]) (tkA tape n1) g2 (by omega) (by simp; omega) (by omega) (tg'.fr Q.2) Q.1 (tkA_c _ _) V') (fun r g3 S => by
                obtain ⟨q, s1', s2', s3', s4'⟩ := S
                exact ⟨q, s1', s2', s3', (P.2.tr Q.2).tr s4'⟩)
          · have ep : p_path tape top (d + 1 + 1) (l ++ [nI m], .inr (s1, n1, k1, v1)) = (l ++ [nI m], .inr (s1, n1, k1, v1)) := by
              show (if k1 = 47 then _ else _) = _
              rw [if_neg k47]
            rw [if_neg k47]
            exact stop g P1 P.2 _ ep (Or.inl rfl) (fun u _ => rfl)
theorem C_takePath {h : Mem} {tape : List Int32} {mx : Nat} {top a1 : Int32} {p : PS} (ht : (top = 0 ∧ a1 = 28 ∧ mx = 28) ∨ (top = 1 ∧ a1 = 26 ∧ mx = 26)) (t : TpC h tape) (R : RPc h tape p) (c : TkC tape p) : Tr (f_X2_takePath 1 a1 h) (fun r h' => ∃ q, RPc h' tape q ∧ SameN q (p_fil tape top p).2 ∧ (∀ u, (p_fil tape top p).2 = .inr u → r = pth (lvO (g5 (p_fil tape top p).1)) ∧ LvL mx (p_fil tape top p).1 ∧ 0 < (p_fil tape top p).1.length) ∧ FrC h h') := by
  have e0 : (0 : Int32) = pth (lvO (g5 [])) := by
    unfold pth pN lvO g5
    decide
  have z := C_path4 (tape := tape) ht 3 0 xFU [] p h (by omega) rfl (by unfold xFU; omega) t R c ⟨by simp, fun x hx => (by cases hx)⟩
  rw [← e0] at z
  exact z
