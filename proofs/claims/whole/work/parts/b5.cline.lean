/-! the class: a line is read -/
def DrI (dr : St) : Prop := (∀ c, c < 6 → CV 1 (dr.2.2 c) ∧ ¬ (dr.2.2 c).1 0 = 1) ∧ dr.2.1 7 = [] ∧ KpW dr ∧ dr.1 0 = 0
theorem DrI.drv {dr : St} (h : DrI dr) : DrV dr := fun c hc => (h.1 c hc).1.n12 (h.1 c hc).2
theorem DrI.sv {dr : St} (h : DrI dr) : SV 1 dr := by
  refine ⟨fun c hc => (h.1 c hc).1, ⟨?_, fun c hc => ⟨(h.1 c hc).1.1, (h.1 c hc).1.2.2.2.2.2.1.2.1⟩, ?_, ?_⟩, ?_, h.2.2.1⟩
  · unfold HdOk
    rw [h.2.1]
    exact fun r hr => (by cases hr)
  · rw [h.2.1]
    exact List.nodup_nil
  · rw [h.2.1]
    exact fun r hr => (by cases hr)
  · unfold HdV
    rw [h.2.1]
    exact fun r hr => (by cases hr)
def Fr4 (h h' : Mem) : Prop := ∀ a, a ≠ 1 → (a < 4 ∨ 100 ≤ a) → h' a = h a
theorem Fr4.tr {h h1 h2 : Mem} (a : Fr4 h h1) (b : Fr4 h1 h2) : Fr4 h h2 := fun z q1 q2 => (b z q1 q2).trans (a z q1 q2)
theorem FrC.f4 {h h' : Mem} (f : FrC h h') : Fr4 h h' := fun a q _ => f.1 a q
theorem FrW.f4 {h h' : Mem} (f : FrW 4 h h') : Fr4 h h' := fun a _ q => f a (by omega)
theorem TpC.f4 {h h' : Mem} {tape : List Int32} (t : TpC h tape) (f : Fr4 h h') : TpC h' tape := ⟨⟨by rw [f 2 (by omega) (by omega)]; exact t.1.1, t.1.2.1, fun j hj => by rw [f 3 (by omega) (by omega)]; exact t.1.2.2 j hj⟩, t.2⟩
theorem RWd.c {h h' : Mem} {dr : St} (R : RWd h 4 dr) (f : FrC h h') : RWd h' 4 dr := R.frm (fun a h1 h2 => f.1 a (by omega))
theorem RPc.w {h h' : Mem} {tape : List Int32} {p : PS} (R : RPc h tape p) (f : FrW 4 h h') : RPc h' tape p := by
  have e : h' 1 = h 1 := f 1 (by omega)
  match p, R with
  | .inl (g, pl), R => exact ⟨by rw [e]; exact R.1, R.2.1, by rw [e]; exact R.2.2⟩
  | .inr (s, n, k, v), R => exact ⟨by rw [e]; exact R.1, by rw [e]; exact R.2.1, by rw [e]; exact R.2.2.1, R.2.2.2.1, R.2.2.2.2.1, by rw [e]; exact R.2.2.2.2.2.1, by rw [e]; exact R.2.2.2.2.2.2⟩
def semi : PS → PS
  | .inl e => .inl e
  | .inr (s, n, k, v) => if k = 59 then .inr (s, n, k, v) else .inl (2, s)
theorem C_semi {h : Mem} {tape : List Int32} {p : PS} (R : RPc h tape p) : Tr (f_X2_isAtSemicolon 1 h) (fun r h' => RPc h' tape (semi p) ∧ (∀ e, semi p = .inl e → r = 0) ∧ (∀ u, semi p = .inr u → r = 1) ∧ FrC h h') := by
  unfold f_X2_isAtSemicolon f_X2_isAtSemicolon_14
  match p, R with
  | .inl e, R =>
    have fin : ∀ g, RPc g tape (.inl e) → FrC h g → Tr (if g 1 6 = 0 then some ((1 : Int32), g) else some ((0 : Int32), g)) (fun r h' => RPc h' tape (semi (.inl e)) ∧ (∀ e', semi (.inl e) = .inl e' → r = 0) ∧ (∀ u, semi (.inl e) = .inr u → r = 1) ∧ FrC h h') := by
      intro g Rg fg
      rw [if_neg Rg.f0]
      exact wR ⟨Rg, fun _ _ => rfl, fun u z => (by cases z), fg⟩
    split
    · exact fin h R FrC.rf
    · exact wB (C_fail R 2 (by decide)) (fun _ g P => fin g P.1 P.2)
  | .inr (s, n, k, v), R =>
    have es : semi (.inr (s, n, k, v)) = if k = 59 then .inr (s, n, k, v) else .inl (2, s) := rfl
    rw [es, R.2.2.2.2.2.1]
    by_cases e : k = 59
    · rw [if_pos e, if_pos e, if_pos R.1]
      exact wR ⟨R, fun e z => (by cases z), fun _ _ => rfl, FrC.rf⟩
    · rw [if_neg e, if_neg e]
      refine wB (C_fail R 2 (by decide)) (fun _ g P => ?_)
      have P1 : RPc g tape (.inl (2, s)) := P.1
      rw [if_neg P1.f0]
      exact wR ⟨P1, fun _ _ => rfl, fun u z => (by cases z), P.2⟩
theorem p_num_inl {tape : List Int32} {lo hi : Int32} {e : Int32 × Nat} : (p_num tape lo hi (.inl e)).2 = .inl e := rfl
theorem C_takeSemi {h : Mem} {tape : List Int32} {p : PS} (t : TpC h tape) (R : RPc h tape p) : Tr (f_X2_takeSemicolon 1 h) (fun _ h' => RPc h' tape (p_adv tape p) ∧ h' 1 8 = h 1 8 + 1 ∧ ∀ a, a ≠ 1 → h' a = h a) := by
  unfold f_X2_takeSemicolon
  rw [mlet_eq]
  have f0 : ∀ a, a ≠ 1 → mu h 1 8 (h 1 8 + 1) a = h a := fun a ha => mu_ne ha
  have t0 : TpC (mu h 1 8 (h 1 8 + 1)) tape := ⟨⟨by rw [f0 2 (by omega)]; exact t.1.1, t.1.2.1, fun j hj => by rw [f0 3 (by omega)]; exact t.1.2.2 j hj⟩, t.2⟩
  have R0 : RPc (mu h 1 8 (h 1 8 + 1)) tape p := by
    match p, R with
    | .inl (g, pl), R => exact ⟨by rw [mu_rdn (by omega)]; exact R.1, R.2.1, by rw [mu_rdn (by omega)]; exact R.2.2⟩
    | .inr (s, n, k, v), R => exact ⟨by rw [mu_rdn (by omega)]; exact R.1, by rw [mu_rdn (by omega)]; exact R.2.1, by rw [mu_rdn (by omega)]; exact R.2.2.1, R.2.2.2.1, R.2.2.2.2.1, by rw [mu_rdn (by omega)]; exact R.2.2.2.2.2.1, by rw [mu_rdn (by omega)]; exact R.2.2.2.2.2.2⟩
  exact wB (C_advance t0 R0) (fun _ g P => wR ⟨P.1, by rw [P.2.2, mu_rde rfl], fun a ha => by rw [P.2.1 a ha, f0 a ha]⟩)
theorem CV.told {B : Nat} {cl : Cl} {rows : List (List Int32)} (h : CV B cl) (h0 : ¬ cl.1 0 = 1) (hr : ∀ r ∈ rows, SbV r ∧ r.length = 6) (hl : rows.length ≤ 6) : CV B (sS (sS (sS (sT cl 3 rows) 0 2) 1 99) 2 99) := by
  obtain ⟨a, b, c, d, e, f, g, i, j⟩ := h
  have n12 : cl.1 12 = 0 := by
    rcases i.1 with q | q
    · exact q
    · exact absurd (i.2.1 q) h0
  have ek : ∀ k, k ≠ 0 → k ≠ 1 → k ≠ 2 → (sS (sS (sS (sT cl 3 rows) 0 2) 1 99) 2 99).1 k = cl.1 k := fun k q0 q1 q2 => by rw [sS_ne q2, sS_ne q1, sS_ne q0]; rfl
  have e0 : (sS (sS (sS (sT cl 3 rows) 0 2) 1 99) 2 99).1 0 = 2 := rfl
  have et : ∀ t, t ≠ 3 → (sS (sS (sS (sT cl 3 rows) 0 2) 1 99) 2 99).2 t = cl.2 t := fun t ht => by
    show (sT cl 3 rows).2 t = _
    exact sT_ne ht
  refine ⟨Or.inr (Or.inr e0), b.tab (fun r hr' => (hr r hr').2), ⟨?_, fun q => absurd (e0.symm.trans q) (by decide)⟩, ?_, e.cgr (ek 9 (by omega) (by omega) (by omega)) (et 4 (by omega)) (et 5 (by omega)) (et 6 (by omega)) (et 7 (by omega)) (et 8 (by omega)), ⟨?_, ?_, fun q => absurd (e0.symm.trans q) (by decide)⟩, fun x hx => (g x hx).at (fun y hy => ek _ (by omega) (by omega) (by omega)), ⟨Or.inl (by rw [ek 12 (by omega) (by omega) (by omega)]; exact n12), fun q => ?_, fun q => absurd (e0.symm.trans q) (by decide)⟩, fun q => ?_, fun q => ?_, 99, by omega, rfl⟩
  · show ((sT cl 3 rows).2 4).length ≤ 4
    rw [sT_ne (by omega)]
    exact c.1
  · show ((sT cl 3 rows).2 5).length ≤ 12
    rw [sT_ne (by omega)]
    exact d
  · show ∀ r ∈ (sT cl 3 rows).2 3, SbV r
    rw [sT_eq]
    exact fun r hr' => (hr r hr').1
  · show ((sT cl 3 rows).2 3).length ≤ 6
    rw [sT_eq]
    exact hl
  · rw [ek 12 (by omega) (by omega) (by omega), n12] at q
    exact absurd q (by decide)
  · rw [ek 12 (by omega) (by omega) (by omega), n12] at q
    exact absurd q (by decide)
  · rw [ek 21 (by omega) (by omega) (by omega)] at q
    have z := j.2.1 q
    rw [ek 27 (by omega) (by omega) (by omega), ek 28 (by omega) (by omega) (by omega)]
    exact ⟨z.1.at (fun x hx => ek _ (by omega) (by omega) (by omega)), z.2⟩
theorem DrI.put {dr : St} {c : Nat} {cl : Cl} (h : DrI dr) (hc : CV 1 cl) (h1 : ¬ cl.1 0 = 1) : DrI (sC dr c cl) := by
  refine ⟨fun d hd => ?_, h.2⟩
  by_cases e : d = c
  · rw [e, sC_eq]
    exact ⟨hc, h1⟩
  · rw [sC_ne e]
    exact h.1 d hd
theorem C_readSub {h : Mem} {tape : List Int32} {dr : St} {s n : Nat} {k v : Int32} (t : TpC h tape) (R : RPc h tape (.inr (s, n, k, v))) (D : RWd h 4 dr) (I : DrI dr) : Tr (f_X2_readSubscription 1 h) (fun _ h' => RPc h' tape (p_adv tape (p_sub tape dr (tkA tape n)).2) ∧ RWd h' 4 (p_sub tape dr (tkA tape n)).1 ∧ DrI (p_sub tape dr (tkA tape n)).1 ∧ (∀ u, (p_sub tape dr (tkA tape n)).2 = .inr u → h' 1 8 = h 1 8 + 1) ∧ Fr4 h h') := by
  unfold f_X2_readSubscription p_sub
  refine wB (C_tkA t R.1 R.2.1 R.2.2.2.2.1) (fun _ g0 P0 => ?_)
  have t0 := t.fr P0.2
  generalize tkA tape n = p0 at P0 ⊢
  refine wB (C_takeNumber t0 P0.1 0 5) (fun v3 g1 P1 => ?_)
  have t1 := t0.fr P1.2.2
  refine wB (C_takePath (mx := 28) (top := 0) (Or.inl ⟨rfl, rfl, rfl⟩) t1 P1.1 (p_num_c _ _ _ _)) (fun v5 g2 P2 => ?_)
  obtain ⟨q, Q1, Q2, Q3, Q4⟩ := P2
  have t2 := t1.fr Q4
  refine wB (C_takeNumber t2 Q1 0 2) (fun v7 g3 P3 => ?_)
  rw [Q2.num] at P3
  have t3 := t2.fr P3.2.2
  refine wB (C_takeNumber t3 P3.1 0 3) (fun v9 g4 P4 => ?_)
  have t4 := t3.fr P4.2.2
  refine wB (C_semi P4.1) (fun v11 g5' P5 => ?_)
  have t5 := t4.fr P5.2.2.2
  have fr : FrC h g5' := ((((P0.2.tr P1.2.2).tr Q4).tr P3.2.2).tr P4.2.2).tr P5.2.2.2
  have D5 := D.c fr
  have i1 : ∀ u, (p_num tape 0 5 p0).2 = .inr u → _ := fun u hu => p_num_in hu
  have i2 : ∀ u, (p_fil tape 0 (p_num tape 0 5 p0).2).2 = .inr u → _ := fun u hu => p_fil_in hu
  have i3 : ∀ u, (p_num tape 0 2 (p_fil tape 0 (p_num tape 0 5 p0).2).2).2 = .inr u → _ := fun u hu => p_num_in hu
  have i4 : ∀ u, (p_num tape 0 3 (p_num tape 0 2 (p_fil tape 0 (p_num tape 0 5 p0).2).2).2).2 = .inr u → _ := fun u hu => p_num_in hu
  have P12 := P1.2.1
  have P32 := P3.2.1
  have P42 := P4.2.1
  generalize (p_num tape 0 5 p0).1 = c0 at i1 P12 ⊢
  generalize (p_num tape 0 5 p0).2 = p1 at i1 i2 i3 i4 P12 P32 P42 Q3 P5 ⊢
  generalize (p_fil tape 0 p1).1 = l at Q3 ⊢
  generalize (p_fil tape 0 p1).2 = p2 at i2 i3 i4 P32 P42 Q3 P5 ⊢
  generalize (p_num tape 0 2 p2).1 = pr at i3 P32 ⊢
  generalize (p_num tape 0 2 p2).2 = p3 at i3 i4 P32 P42 P5 ⊢
  generalize (p_num tape 0 3 p3).1 = gg at i4 P42 ⊢
  generalize (p_num tape 0 3 p3).2 = p4 at i4 P42 P5 ⊢
  match p4, i4, P42, P5 with
  | .inl e, i4, P42, P5 =>
    rw [P5.2.1 e rfl, if_pos rfl]
    exact wR ⟨P5.1, D5, I, fun u z => (by cases z), fr.f4⟩
  | .inr (s4, n4, k4, v4), i4, P42, P5 =>
    rw [p_sub1_r]
    by_cases k59 : k4 = 59
    · have es : semi (.inr (s4, n4, k4, v4)) = .inr (s4, n4, k4, v4) := by
        show (if k4 = 59 then _ else _) = _
        rw [if_pos k59]
      have P51 := P5.1
      rw [es] at P51
      rw [P5.2.2.1 _ es, if_neg n10, if_neg (fun z => z k59)]
      obtain ⟨g4', u4, e4⟩ := i4 _ rfl
      obtain ⟨g3', u3, e3⟩ := i3 _ e4
      obtain ⟨u2, e2⟩ := i2 _ e3
      obtain ⟨g1', u1, e1⟩ := i1 _ e2
      obtain ⟨cN, hcN, ec⟩ := in5 g1'
      have q3 := Q3 _ e3
      have v3e := P12 _ e2
      have v7e := P32 _ e4
      have v9e := P42 _ rfl
      rw [v3e, v7e, v9e, q3.1, ec, C_noC, b2_some, ← ec, g1', if_pos bI_t, ec, nI_clamp (by omega), x1_1, W4.1.1, wcl W4 hcN]
      have K := (W4.2.2.2.1 cN hcN).2.2
      have Rc := D5.2.2.2 cN hcN
      have hcv := (I.1 cN hcN).1
      have sb := hcv.2.2.2.2.2.1
      have rv := (q3.2.1.row (by omega))
      have pv := rv.pv
      obtain ⟨gn, hgn, eg⟩ := inR_ex (b := 3) (by omega) g4'
      rw [C_findSub K Rc sb.1 pv, b2_some]
      rcases fs_sb sb.2.1 (g5 l) gg with ⟨f1, f2⟩ | ⟨j, hj, f1, f2, -⟩
      · rw [f1, f2, if_pos (by decide), if_neg (fun z => z rfl)]
        by_cases l6 : 6 ≤ ((dr.2.2 cN).2 3).length
        · rw [if_pos l6, C_addSub2 K Rc sb.1 pv pr gg f2 (by omega), b2_some, if_pos rfl]
          exact wB (C_fail P51 5 (by decide)) (fun _ g P => wR ⟨P.1, D5.c P.2, I, fun u z => (by cases z), (fr.tr P.2).f4⟩)
        · rw [if_neg l6]
          refine wB (C_addSub1 K Rc sb.1 pv pr gg f2 (by omega)) (fun r g6 P6 => ?_)
          rw [P6.1, if_neg n10]
          refine wB (C_told P6.2.1) (fun _ g7 P7 => ?_)
          have f7 : FrW 4 g5' g7 := (P6.2.2.w hcN).tr (P7.2.w hcN)
          have D7 := D5.cl hcN P7.1 (P6.2.2.tr P7.2)
          refine wB (C_takeSemi (t5.f4 f7.f4) (P51.w f7)) (fun _ g8 P8 => wR ⟨P8.1, D7.frm (fun a h1 h2 => P8.2.2 a (by omega)), ?_, fun u _ => ?_, ?_⟩)
          · have rl : SbV [g5 l 0, g5 l 1, g5 l 2, g5 l 3, pr, gg] := by
              refine ⟨pv.cgr (fun j hj => ?_), ?_, in2 g3', gn, by omega, eg⟩
              · rcases (show j = 0 ∨ j = 1 ∨ j = 2 ∨ j = 3 by omega) with rfl | rfl | rfl | rfl <;> rfl
              · obtain ⟨m, m1, m2, em⟩ := rv.g q3.2.2
                show ¬ g5 l 0 = 0
                rw [em]
                intro z
                have z' : nI m = nI 0 := z
                have := (nI_eq (by omega) (by omega)).mp z'
                omega
            refine I.put (hcv.told (I.1 cN hcN).2 (fun r hr => ?_) (by simp; omega)) (show ¬ (2 : Int32) = 1 by decide)
            rcases List.mem_append.mp hr with z | z
            · exact ⟨sb.1 r z, hcv.2.1 3 rfl r z⟩
            · rw [List.mem_singleton] at z
              rw [z]
              exact ⟨rl, rfl⟩
          · rw [P8.2.1, f7 1 (by omega), fr.2]
          · exact (fr.f4.tr f7.f4).tr (fun a q1 _ => P8.2.2 a q1)
      · have l6 := sb.2.1
        rw [f1, f2, if_neg (by rw [li_0, nI_ltI (by omega) (by omega)]; omega), if_pos (nI_ne4 (by omega))]
        exact wB (C_fail P51 4 (by decide)) (fun _ g P => wR ⟨P.1, D5.c P.2, I, fun u z => (by cases z), (fr.tr P.2).f4⟩)
    · have es : semi (.inr (s4, n4, k4, v4)) = .inl (2, s4) := by
        show (if k4 = 59 then _ else _) = _
        rw [if_neg k59]
      have P51 := P5.1
      rw [es] at P51
      rw [P5.2.1 _ es, if_pos rfl, if_pos k59]
      exact wR ⟨P51, D5, I, fun u z => (by cases z), fr.f4⟩
