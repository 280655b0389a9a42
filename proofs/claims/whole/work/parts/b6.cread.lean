/-! the class: a kept letter's line, words, the whole text -/
theorem C_readKep {h : Mem} {tape : List Int32} {dr : St} {s n : Nat} {k v : Int32} (t : TpC h tape) (R : RPc h tape (.inr (s, n, k, v))) (D : RWd h 4 dr) (I : DrI dr) : Tr (f_X2_readKept 1 h) (fun _ h' => RPc h' tape (p_adv tape (p_kep tape dr (tkA tape n)).2) ∧ RWd h' 4 (p_kep tape dr (tkA tape n)).1 ∧ DrI (p_kep tape dr (tkA tape n)).1 ∧ (∀ u, (p_kep tape dr (tkA tape n)).2 = .inr u → h' 1 8 = h 1 8 + 1) ∧ Fr4 h h') := by
  unfold f_X2_readKept p_kep
  refine wB (C_tkA t R.1 R.2.1 R.2.2.2.2.1) (fun _ g0 P0 => ?_)
  have t0 := t.fr P0.2
  have tc := tkA_c tape n
  generalize tkA tape n = p0 at P0 tc ⊢
  refine wB (C_takePath (mx := 26) (top := 1) (Or.inr ⟨rfl, rfl, rfl⟩) t0 P0.1 tc) (fun v3 g2 P2 => ?_)
  obtain ⟨q, Q1, Q2, Q3, Q4⟩ := P2
  have t2 := t0.fr Q4
  refine wB (C_takeNumber t2 Q1 1 99) (fun v5 g3 P3 => ?_)
  rw [Q2.num] at P3
  have t3 := t2.fr P3.2.2
  refine wB (C_takeNumber t3 P3.1 0 2) (fun v7 g4 P4 => ?_)
  have t4 := t3.fr P4.2.2
  refine wB (C_semi P4.1) (fun v11 g5' P5 => ?_)
  have t5 := t4.fr P5.2.2.2
  have fr : FrC h g5' := (((P0.2.tr Q4).tr P3.2.2).tr P4.2.2).tr P5.2.2.2
  have D5 := D.c fr
  have i3 : ∀ u, (p_num tape 1 99 (p_fil tape 1 p0).2).2 = .inr u → _ := fun u hu => p_num_in hu
  have i4 : ∀ u, (p_num tape 0 2 (p_num tape 1 99 (p_fil tape 1 p0).2).2).2 = .inr u → _ := fun u hu => p_num_in hu
  have P32 := P3.2.1
  have P42 := P4.2.1
  generalize (p_fil tape 1 p0).1 = l at Q3 ⊢
  generalize (p_fil tape 1 p0).2 = p2 at i3 i4 P32 P42 Q3 P5 ⊢
  generalize (p_num tape 1 99 p2).1 = vl at i3 P32 ⊢
  generalize (p_num tape 1 99 p2).2 = p3 at i3 i4 P32 P42 P5 ⊢
  generalize (p_num tape 0 2 p3).1 = pr at i4 P42 ⊢
  generalize (p_num tape 0 2 p3).2 = p4 at i4 P42 P5 ⊢
  match p4, i4, P42, P5 with
  | .inl e, i4, P42, P5 =>
    rw [P5.2.1 e rfl, if_pos rfl]
    exact wR ⟨P5.1, D5, I, fun u z => (by cases z), fr.f4⟩
  | .inr (s4, n4, k4, v4), i4, P42, P5 =>
    rw [p_kep1_r]
    by_cases k59 : k4 = 59
    · have es : semi (.inr (s4, n4, k4, v4)) = .inr (s4, n4, k4, v4) := by
        show (if k4 = 59 then _ else _) = _
        rw [if_pos k59]
      have P51 := P5.1
      rw [es] at P51
      rw [P5.2.2.1 _ es, if_neg n10, if_neg (fun z => z k59)]
      obtain ⟨g4', u4, e4⟩ := i4 _ rfl
      obtain ⟨g3', u3, e3⟩ := i3 _ e4
      have q3 := Q3 _ e3
      have v5e := P32 _ e4
      have v7e := P42 _ rfl
      have rv := (q3.2.1.row (by omega))
      have pv : PV 26 (g5 l) := by
        refine ⟨rv.pv.1, fun j => ?_, rv.pv.2.2⟩
        rcases Nat.lt_or_ge j l.length with z | z
        · have ej : g5 l j = l[j] := by simp [g5, List.getD, z]
          obtain ⟨m, m1, m2, em⟩ := q3.2.1.2 _ (List.getElem_mem z)
          have l4 := q3.2.1.1
          unfold lvO
          rw [if_pos (by omega), ej, em, nI_clamp (by omega)]
          exact m2
        · rw [rv.ln.1.2.2 j z]
          omega
      have l12 := D5.len6
      have zf := C_find (j := 0) W4.2.1.1 D5.2.1 (by omega) (pth (lvO (g5 l)))
      rw [v5e, v7e, q3.1, x1_1, W4.1.2.1, show f_X3_find (4 + 2) 0 (pth (lvO (g5 l))) g5' = _ from zf, b2_some]
      rcases kt_fnd l12 I.2.2.1 pv with ⟨f1, f2⟩ | ⟨j, hj, f1, f2⟩
      · rw [f1, f2, if_pos (by decide), if_neg (fun z => z rfl), C_isFull W4.2.1.1 D5.2.1, b2_some, List.length_map]
        by_cases l12' : 12 ≤ (dr.2.1 6).length
        · rw [if_pos l12', show (if (dr.2.1 6).length < 12 then (0 : Int32) else 1) = 1 from if_neg (by omega), if_neg n10]
          exact wB (C_fail P51 5 (by decide)) (fun _ g P => wR ⟨P.1, D5.c P.2, I, fun u z => (by cases z), (fr.tr P.2).f4⟩)
        · rw [if_neg l12', show (if (dr.2.1 6).length < 12 then (0 : Int32) else 1) = 0 from if_pos (by omega), if_pos rfl, D5.1.2]
          refine wB (C_addKept W4 D5 (g5 l) vl pr (dr.1 1)) (fun _ g6 P6 => ?_)
          have D6 := P6.1
          unfold A_kput at D6
          rw [if_neg (by omega)] at D6
          have c4 : g6 4 4 = dr.1 1 := D6.1.2
          rw [mlet_eq, c4]
          have D7 := D6.g (k := 1) (v := dr.1 1 + 1) (by omega)
          have f7 : FrW 4 g5' (mu g6 4 4 (dr.1 1 + 1)) := P6.2.tr (fun a ha => mu_ne (by omega))
          have D7' : RWd (mu g6 4 4 (dr.1 1 + 1)) 4 (A_dkep dr l vl pr) := D7
          refine wB (C_takeSemi (t5.f4 f7.f4) (P51.w f7)) (fun _ g8 P8 => wR ⟨P8.1, D7'.frm (fun a h1 h2 => P8.2.2 a (by omega)), ?_, fun u _ => ?_, ?_⟩)
          · refine ⟨I.1, ?_, ?_, ?_⟩
            · exact I.2.1
            · unfold KpW
              show ∀ r ∈ (sK dr 6 (dr.2.1 6 ++ [[g5 l 0, g5 l 1, g5 l 2, g5 l 3, vl, pr, dr.1 1]])).2.1 6, KpV r
              rw [sK_eq]
              intro r hr
              rcases List.mem_append.mp hr with z | z
              · exact I.2.2.1 r z
              · rw [List.mem_singleton] at z
                rw [z]
                refine ⟨pv.cgr (fun j hj => ?_), in2 g4'⟩
                rcases (show j = 0 ∨ j = 1 ∨ j = 2 ∨ j = 3 by omega) with rfl | rfl | rfl | rfl <;> rfl
            · show ud dr.1 1 (dr.1 1 + 1) 0 = 0
              rw [ud_ne (by omega)]
              exact I.2.2.2
          · rw [P8.2.1, f7 1 (by omega), fr.2]
          · exact (fr.f4.tr f7.f4).tr (fun a q1 _ => P8.2.2 a q1)
      · rw [f1, f2, if_neg (by rw [li_0, nI_ltI (by omega) (by omega)]; omega), if_pos (nI_ne4 (by omega))]
        exact wB (C_fail P51 4 (by decide)) (fun _ g P => wR ⟨P.1, D5.c P.2, I, fun u z => (by cases z), (fr.tr P.2).f4⟩)
    · have es : semi (.inr (s4, n4, k4, v4)) = .inl (2, s4) := by
        show (if k4 = 59 then _ else _) = _
        rw [if_neg k59]
      have P51 := P5.1
      rw [es] at P51
      rw [P5.2.1 _ es, if_pos rfl, if_pos k59]
      exact wR ⟨P51, D5, I, fun u z => (by cases z), fr.f4⟩
/-- a word at hand -/
theorem C_spStep {h : Mem} {tape : List Int32} {s i k m : Nat} (t : TpC h tape) (h3 : h 1 3 = nI s) (hk : k < xsl.getD i 0) (hi : i < 2) (hs : s + k < tape.length) : f_X2_spells_28 (m + 1) 1 i (nI k) h = if byt tape (s + k) = xby i k then f_X2_spells_28 m 1 i (nI (k + 1)) h else some (0, h) := by
  have l4 := xsl_4 i hi
  have l := t.1.2.1
  generalize hY : f_X2_spells_28 m 1 i (nI (k + 1)) h = Y
  have e0 : Int32.ofNat (xsl.getD i 0) = nI (xsl.getD i 0) := rfl
  unfold f_X2_spells_28 chg
  rw [e0, if_neg (by rw [nI_leI (by omega) (by omega)]; omega), h3, nI_add, x1_0, C_at t (by omega), b2_some, if_pos ⟨nI_pos' (by omega), by rw [nI_clamp (by omega)]; exact hk⟩, nI_clamp (by omega), atc_in hs, show nI k + 1 = nI (k + 1) by rw [li_1, nI_add], hY]
theorem C_spEnd {h : Mem} {i m : Nat} (hi : i < 2) : f_X2_spells_28 (m + 1) 1 i (nI (xsl.getD i 0)) h = some (1, h) := by
  have l4 := xsl_4 i hi
  have e0 : Int32.ofNat (xsl.getD i 0) = nI (xsl.getD i 0) := rfl
  unfold f_X2_spells_28
  rw [e0, if_pos (by rw [nI_leI (by omega) (by omega)]; omega)]
theorem C_spells0 {h : Mem} {tape : List Int32} {s n : Nat} {k v : Int32} (t : TpC h tape) (R : RPc h tape (.inr (s, n, k, v))) : f_X2_spells 1 0 h = some (bI (spB tape s n k wSub), h) := by
  obtain ⟨r6, r2, r3, r4, r5, rk, -⟩ := R
  have l := t.1.2.1
  unfold f_X2_spells spB
  rw [rk, r2, r3, nI_subP r4]
  by_cases k1 : k = 1
  · subst k1
    rw [if_pos rfl]
    by_cases e : n - s = 3
    · have e' : nI (n - s) = Int32.ofNat (xsl.getD 0 0) := by rw [e]; rfl
      rw [if_pos e']
      obtain ⟨m, hm⟩ := xFUs
      rw [hm, show (0 : Int32) = nI 0 from rfl, C_spStep t r3 (by decide) (by omega) (by omega), C_spStep t r3 (by decide) (by omega) (by omega), C_spStep t r3 (by decide) (by omega) (by omega), show nI (0 + 1 + 1 + 1) = nI (xsl.getD 0 0) from rfl, C_spEnd (by omega)]
      have b0 : xby 0 0 = g5 wSub 0 := rfl
      have b1 : xby 0 (0 + 1) = g5 wSub 1 := rfl
      have b2' : xby 0 (0 + 1 + 1) = g5 wSub 2 := rfl
      have ew : (n - s == wSub.length) = true := by rw [e]; rfl
      have e3 : (wSub.length == 3) = true := rfl
      rw [b0, b1, b2', ew, e3, Nat.add_zero]
      by_cases q0 : byt tape s = g5 wSub 0
      · have c0 : (byt tape s == g5 wSub 0) = true := by rw [q0]; simp
        rw [if_pos (show byt tape s = _ from q0)]
        by_cases q1 : byt tape (s + 1) = g5 wSub 1
        · have c1 : (byt tape (s + 1) == g5 wSub 1) = true := by rw [q1]; simp
          rw [if_pos (show byt tape (s + (0 + 1)) = _ from q1)]
          by_cases q2 : byt tape (s + 2) = g5 wSub 2
          · have c2 : (byt tape (s + 2) == g5 wSub 2) = true := by rw [q2]; simp
            rw [if_pos (show byt tape (s + (0 + 1 + 1)) = _ from q2)]
            rw [c0, c1, c2]
            rfl
          · have c2 : (byt tape (s + 2) == g5 wSub 2) = false := by rw [beq_eq_false_iff_ne]; exact q2
            rw [if_neg (show ¬ byt tape (s + (0 + 1 + 1)) = _ from q2), c0, c1, c2]
            rfl
        · have c1 : (byt tape (s + 1) == g5 wSub 1) = false := by rw [beq_eq_false_iff_ne]; exact q1
          rw [if_neg (show ¬ byt tape (s + (0 + 1)) = _ from q1), c0, c1]
          rfl
      · have c0 : (byt tape s == g5 wSub 0) = false := by rw [beq_eq_false_iff_ne]; exact q0
        rw [if_neg (show ¬ byt tape s = _ from q0), c0]
        rfl
    · have ne : ¬ nI (n - s) = Int32.ofNat (xsl.getD 0 0) := fun z => by
        have z' : nI (n - s) = nI 3 := z
        exact e ((nI_eq (by omega) (by omega)).mp z')
      have ew : (n - s == wSub.length) = false := by
        rw [beq_eq_false_iff_ne]
        exact e
      rw [if_neg ne, ew]
      rfl
  · rw [if_neg k1]
    have : (k == 1) = false := by rw [beq_eq_false_iff_ne]; exact k1
    rw [this]
    rfl
theorem C_spells1 {h : Mem} {tape : List Int32} {s n : Nat} {k v : Int32} (t : TpC h tape) (R : RPc h tape (.inr (s, n, k, v))) : f_X2_spells 1 1 h = some (bI (spB tape s n k wKep), h) := by
  obtain ⟨r6, r2, r3, r4, r5, rk, -⟩ := R
  have l := t.1.2.1
  unfold f_X2_spells spB
  rw [rk, r2, r3, nI_subP r4]
  by_cases k1 : k = 1
  · subst k1
    rw [if_pos rfl]
    by_cases e : n - s = 4
    · have e' : nI (n - s) = Int32.ofNat (xsl.getD 1 0) := by rw [e]; rfl
      rw [if_pos e']
      obtain ⟨m, hm⟩ := xFUs
      rw [hm, show (0 : Int32) = nI 0 from rfl, C_spStep t r3 (by decide) (by omega) (by omega), C_spStep t r3 (by decide) (by omega) (by omega), C_spStep t r3 (by decide) (by omega) (by omega), C_spStep t r3 (by decide) (by omega) (by omega), show nI (0 + 1 + 1 + 1 + 1) = nI (xsl.getD 1 0) from rfl, C_spEnd (by omega)]
      have b0 : xby 1 0 = g5 wKep 0 := rfl
      have b1 : xby 1 (0 + 1) = g5 wKep 1 := rfl
      have b2' : xby 1 (0 + 1 + 1) = g5 wKep 2 := rfl
      have b3' : xby 1 (0 + 1 + 1 + 1) = g5 wKep 3 := rfl
      have ew : (n - s == wKep.length) = true := by rw [e]; rfl
      have e3 : (wKep.length == 3) = false := rfl
      rw [b0, b1, b2', b3', ew, e3, Nat.add_zero]
      by_cases q0 : byt tape s = g5 wKep 0
      · have c0 : (byt tape s == g5 wKep 0) = true := by rw [q0]; simp
        rw [if_pos (show byt tape s = _ from q0)]
        by_cases q1 : byt tape (s + 1) = g5 wKep 1
        · have c1 : (byt tape (s + 1) == g5 wKep 1) = true := by rw [q1]; simp
          rw [if_pos (show byt tape (s + (0 + 1)) = _ from q1)]
          by_cases q2 : byt tape (s + 2) = g5 wKep 2
          · have c2 : (byt tape (s + 2) == g5 wKep 2) = true := by rw [q2]; simp
            rw [if_pos (show byt tape (s + (0 + 1 + 1)) = _ from q2)]
            by_cases q3 : byt tape (s + 3) = g5 wKep 3
            · have c3 : (byt tape (s + 3) == g5 wKep 3) = true := by rw [q3]; simp
              rw [if_pos (show byt tape (s + (0 + 1 + 1 + 1)) = _ from q3)]
              rw [c0, c1, c2, c3]
              rfl
            · have c3 : (byt tape (s + 3) == g5 wKep 3) = false := by rw [beq_eq_false_iff_ne]; exact q3
              rw [if_neg (show ¬ byt tape (s + (0 + 1 + 1 + 1)) = _ from q3), c0, c1, c2, c3]
              rfl
          · have c2 : (byt tape (s + 2) == g5 wKep 2) = false := by rw [beq_eq_false_iff_ne]; exact q2
            rw [if_neg (show ¬ byt tape (s + (0 + 1 + 1)) = _ from q2), c0, c1, c2]
            rfl
        · have c1 : (byt tape (s + 1) == g5 wKep 1) = false := by rw [beq_eq_false_iff_ne]; exact q1
          rw [if_neg (show ¬ byt tape (s + (0 + 1)) = _ from q1), c0, c1]
          rfl
      · have c0 : (byt tape s == g5 wKep 0) = false := by rw [beq_eq_false_iff_ne]; exact q0
        rw [if_neg (show ¬ byt tape s = _ from q0), c0]
        rfl
    · have ne : ¬ nI (n - s) = Int32.ofNat (xsl.getD 1 0) := fun z => by
        have z' : nI (n - s) = nI 4 := z
        exact e ((nI_eq (by omega) (by omega)).mp z')
      have ew : (n - s == wKep.length) = false := by
        rw [beq_eq_false_iff_ne]
        exact e
      rw [if_neg ne, ew]
      rfl
  · rw [if_neg k1]
    have : (k == 1) = false := by rw [beq_eq_false_iff_ne]; exact k1
    rw [this]
    rfl
