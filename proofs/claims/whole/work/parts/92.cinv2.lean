/-! what a world keeps to: sessions end, wills are said -/
theorem SV.put {B c : Nat} {st : St} {cl : Cl} (h : SV B st) (hc : CV B cl) (e0 : cl.1 0 = 0 ↔ (st.2.2 c).1 0 = 0) (e3 : cl.2 3 = (st.2.2 c).2 3) : SV B (sC st c cl) := by
  refine ⟨CVs.put h.1 hc, h.2.1.ss2 (fun d => ?_) (fun d hd => (CVs.put h.1 hc d hd).1) rfl, h.2.2.1, h.2.2.2⟩
  by_cases e : d = c
  · rw [e, sC_eq]
    exact ⟨e0, e3⟩
  · rw [sC_ne e]
    exact ⟨Iff.rfl, rfl⟩
theorem SV.fgt {B c : Nat} {st : St} {cl : Cl} (h : SV B st) (hc : CV B cl) : SV B (A_fgt (sC st c cl)) := by
  have hv := CVs.put (c := c) h.1 hc
  refine ⟨hv, ShOk_fgt (st := sC st c cl) h.2.1.1 (fun d hd => ⟨(hv d hd).1, (hv d hd).2.2.2.2.2.1.2.1⟩) h.2.1.2.2.1, ?_, h.2.2.2⟩
  unfold HdV A_fgt
  rw [sK_eq]
  exact fun r hr => h.2.2.1 r (List.mem_filter.mp hr).1
theorem PV_0 {a : Nat} {f : Nat → Int32} (ha : a < 2 ^ 31) (h : ∀ j, j < 4 → f j = 0) : PV a f := PV.mk' (l := fun _ => 0) (n := 0) ha ⟨by omega, fun j hj => by omega, fun j _ => rfl⟩ (fun j => by omega) (fun j hj => h j hj)
theorem A_new_k {cl : Cl} {s : Int32} {k : Nat} (h : k = 10 ∨ (21 ≤ k ∧ k ≤ 28) ∨ 45 ≤ k) : (A_new cl s).1 k = cl.1 k := by
  show (if k = 0 then _ else _) = _
  rw [if_neg (by omega), if_neg (by omega), if_pos h]
theorem A_new_z {cl : Cl} {s : Int32} {k : Nat} (h0 : k ≠ 0) (h9 : k ≠ 9) (h : ¬ (k = 10 ∨ (21 ≤ k ∧ k ≤ 28) ∨ 45 ≤ k)) : (A_new cl s).1 k = 0 := by
  show (if k = 0 then _ else _) = _
  rw [if_neg h0, if_neg h9, if_neg h]
theorem CV.new {B : Nat} {cl : Cl} (h : CV B cl) (hB : 1 ≤ B) : CV B (A_new cl 0) := by
  refine ⟨Or.inl rfl, ?_, ⟨by show 0 ≤ 4; omega, fun _ => Or.inl rfl⟩, by show 0 ≤ 12; omega, LI.empty hB rfl rfl rfl rfl rfl rfl, ⟨fun r hr => (by rw [A_new_3] at hr; cases hr), by rw [A_new_3]; show 0 ≤ 6; omega, fun _ => rfl⟩, ?_, ⟨Or.inl rfl, fun q => absurd q (by rw [A_new_z (by omega) (by omega) (by omega)]; decide), fun q => absurd q (show ¬ (0 : Int32) = 1 by decide)⟩, ?_, ?_, ⟨0, by omega, rfl⟩⟩
  · intro t ht r hr
    by_cases e : t = 11
    · subst e
      exact h.2.1 11 rfl r hr
    · have : (A_new cl 0).2 t = [] := if_neg e
      rw [this] at hr
      cases hr
  · intro j hj
    exact PV_0 (by omega) (fun i hi => A_new_z (by omega) (by omega) (by omega))
  · intro q
    exact absurd q (by rw [A_new_z (by omega) (by omega) (by omega)]; decide)
  · intro q
    have w := h.2.2.2.2.2.2.2.2.2.1
    rw [A_new_k (by omega)] at q
    have z := w q
    rw [A_new_k (by omega), A_new_k (by omega)]
    exact ⟨z.1.at (fun j hj => A_new_k (by omega)), z.2⟩
theorem SV.fin {B c : Nat} {st : St} (h : SV B st) (hB : 1 ≤ B) (hc : c < 6) : SV B (A_end st c) := h.fgt ((h.1 c hc).new hB)
theorem CV.due {B : Nat} {cl : Cl} (h : CV B cl) : CV B (sS cl 21 (-4)) := by
  obtain ⟨a, b, c, d, e, f, g, i, j⟩ := h
  refine ⟨a, b, c, d, e.cgr (sS_ne (by omega)) rfl rfl rfl rfl rfl, f, fun k hk => (g k hk).at (fun x hx => sS_ne (by omega)), ?_, ?_⟩
  · refine ⟨?_, ?_, fun _ => sS_eq _ _ _⟩
    · rw [sS_ne (by omega)]; exact i.1
    · rw [sS_ne (by omega), sS_ne (by omega)]; exact i.2.1
  · refine ⟨fun q => ?_, fun q => absurd (sS_eq _ _ _) q, ?_⟩
    · rw [sS_ne (by omega)] at q
      have z := j.1 q
      rw [sS_ne (by omega), sS_ne (by omega), sS_ne (by omega)]
      exact ⟨z.1.at (fun x hx => sS_ne (by omega)), z.2⟩
    · rw [sS_ne (by omega)]; exact j.2.2
theorem SV.sw {B c : Nat} {st : St} (h : SV B st) (hB : B + 100 < 2 ^ 31 - 1) (hc : c < 6) (h21 : ¬ (st.2.2 c).1 21 = -4) : SV (B + 43) (A_sw st c) := by
  have w := (h.1 c hc).2.2.2.2.2.2.2.2.2.1 h21
  unfold A_sw
  refine SV.says (h.put (h.1 c hc).due ?_ rfl) hB w.1 _ _ _ w.2.1
  rw [sS_ne (by omega)]
theorem A_shL_0 {t : Nat → Int32} {l p v : Int32} : ∀ (n : Nat) (st : St) (k : Nat → Int32), (A_shL t l p v n st k).1 = st.1
  | 0, _, _ => rfl
  | n + 1, st, k => by
    unfold A_shL
    split
    · rw [A_shL_0 n]
      split
      · rfl
      · rfl
    · rfl
theorem A_says_0 (st : St) (t : Nat → Int32) (v p k : Int32) : (A_says st t v p k).1 0 = st.1 0 := by
  unfold A_says
  rw [A_shL_0, (A_ses_k 6 0 _).2]
  unfold A_keep
  split
  · show ud st.1 1 (st.1 1 + 1) 0 = _
    exact ud_ne (by omega)
  · show ud st.1 1 (st.1 1 + 1) 0 = _
    exact ud_ne (by omega)
theorem A_sw_0 (st : St) (c : Nat) : (A_sw st c).1 0 = st.1 0 := A_says_0 _ _ _ _ _
theorem ShOk_says' {st : St} (S : ShOk st) (t : Nat → Int32) (v p k : Int32) (c : Nat) : ((A_says st t v p k).2.2 c).1 0 = (st.2.2 c).1 0 := ((ShOk_says S t v p k).2 c).1
theorem CV.n12 {B : Nat} {cl : Cl} (h : CV B cl) (h0 : ¬ cl.1 0 = 1) : ¬ cl.1 12 = 1 := fun q => h0 (h.2.2.2.2.2.2.2.1.2.1 q)
/-! the class: a client is lulled -/
theorem C_l83 {g : Mem} {b c B : Nat} {st : St} (W : WK b) (hc : c < 6) (R : RWd g b st) (S : SV B st) (h0 : ¬ (st.2.2 c).1 0 = 1) (a : Int32) : Tr (f_X6_lull_83 b (b + 6 + 15 * c) a g) (fun r h' => r = a ∧ RWd h' b (A_slE st c) ∧ FrW b g h') := by
  unfold f_X6_lull_83 A_slE
  rw [(R.2.2.2 c hc).1.2.1]
  by_cases e : (st.2.2 c).1 1 = 0
  · rw [if_pos e, if_pos e]
    exact wB (C_endSession W hc R S.sb S.2.2.1 ((S.1 c hc).n12 h0)) (fun _ g2 P => wR ⟨rfl, P.1, P.2⟩)
  · rw [if_neg e, if_neg e]
    exact wR ⟨rfl, R, FrW.rf⟩
theorem SV.slE {B c : Nat} {st : St} (h : SV B st) (hB : 1 ≤ B) (hc : c < 6) : SV B (A_slE st c) := by
  unfold A_slE
  split
  · exact h.fin hB hc
  · exact h
theorem C_l21a {g : Mem} {b c B : Nat} {st : St} (W : WK b) (hc : c < 6) (R : RWd g b st) (S : SV B st) (h0 : ¬ (st.2.2 c).1 0 = 1) (h21 : (st.2.2 c).1 21 = -4) : Tr (f_X6_lull_21 b (b + 6 + 15 * c) 0 g) (fun r h' => r = 0 ∧ RWd h' b (A_slE st c) ∧ FrW b g h') := by
  have Rc := R.2.2.2 c hc
  have w := Rc.2.2.2.2.2.2.2.2.2
  rw [if_neg ((S.1 c hc).n12 h0), if_pos h21] at w
  have K := (W.2.2.2.1 c hc).2.2
  unfold f_X6_lull_21 f_X5_becomeDue f_X5_comesDue
  rw [K.1.2.2.2.2.2.2.2, w, if_neg (by decide), b2_some, w, if_neg (by decide), b2_some, if_pos rfl]
  exact C_l83 W hc R S h0 0
theorem sS_self {cl : Cl} {k : Nat} {v : Int32} (h : cl.1 k = v) : sS cl k v = cl := by
  obtain ⟨a, b⟩ := cl
  show (ud a k v, b) = (a, b)
  congr 1
  funext j
  by_cases e : j = k
  · subst e
    rw [ud_eq]
    exact h.symm
  · rw [ud_ne e]
theorem A_sl_eq (cl : Cl) (clk : Int32) : A_sl cl clk = sS (A_sl0 cl clk) 12 0 := rfl
theorem A_sl0_k {cl : Cl} {clk : Int32} {k : Nat} (h0 : k ≠ 0) (h2 : k ≠ 2) : (A_sl0 cl clk).1 k = cl.1 k := by
  show ud (ud cl.1 0 2) 2 (clk + cl.1 1) k = _
  rw [ud_ne h2, ud_ne h0]
theorem CV.sl {B : Nat} {cl : Cl} (h : CV B cl) (h1 : cl.1 0 = 1) (clk : Int32) : CV B (A_sl cl clk) := by
  obtain ⟨a, b, c, d, e, f, g, i, j⟩ := h
  have e0 : (A_sl cl clk).1 0 = 2 := rfl
  have ek : ∀ k, k ≠ 0 → k ≠ 2 → k ≠ 12 → (A_sl cl clk).1 k = cl.1 k := fun k h0 h2 h12 => by rw [A_sl_eq, sS_ne h12, A_sl0_k h0 h2]
  have e12 : (A_sl cl clk).1 12 = 0 := rfl
  have et : ∀ t, t ≠ 6 → t ≠ 7 → (A_sl cl clk).2 t = cl.2 t := fun t h6 h7 => by
    show (sT (sT (sS (sS cl 0 2) 2 (clk + cl.1 1)) 6 []) 7 []).2 t = _
    rw [sT_ne h7, sT_ne h6]
    rfl
  refine ⟨Or.inr (Or.inr rfl), ?_, ?_, ?_, ?_, ?_, fun k hk => (g k hk).at (fun x hx => ek _ (by omega) (by omega) (by omega)), ?_, ?_⟩
  · exact Wd.sc (Wd.tab (Wd.tab (cl := sS (sS cl 0 2) 2 (clk + cl.1 1)) b (fun r hr => (by cases hr))) (fun r hr => (by cases hr)))
  · refine ⟨?_, fun q => ?_⟩
    · rw [et 4 (by omega) (by omega)]; exact c.1
    · rw [e0] at q
      exact absurd q (by decide)
  · rw [et 5 (by omega) (by omega)]; exact d
  · have z := e.lines
    refine z.cgr ?_ ?_ ?_ ?_ ?_ ?_
    · rw [ek 9 (by omega) (by omega) (by omega)]; rfl
    · rw [et 4 (by omega) (by omega), sT_ne (by omega), sT_ne (by omega)]
    · rw [et 5 (by omega) (by omega), sT_ne (by omega), sT_ne (by omega)]
    · rfl
    · rfl
    · rw [et 8 (by omega) (by omega), sT_ne (by omega), sT_ne (by omega)]
  · rw [et 3 (by omega) (by omega), e0]
    exact ⟨f.1, f.2.1, fun q => absurd q (by decide)⟩
  · refine ⟨Or.inl e12, fun q => ?_, fun q => ?_⟩
    · rw [e12] at q
      exact absurd q (by decide)
    · rw [e0] at q
      exact absurd q (by decide)
  · refine ⟨fun q => ?_, fun q => ?_, ?_⟩
    · rw [e12] at q
      exact absurd q (by decide)
    · rw [ek 21 (by omega) (by omega) (by omega)] at q
      exact absurd (i.2.2 h1) q
    · rw [ek 1 (by omega) (by omega) (by omega)]; exact j.2.2
/-- the will becomes due -/
theorem A_due_k {cl : Cl} {clk : Int32} {k : Nat} (h : ¬ (22 ≤ k ∧ k ≤ 28)) (h1 : k ≠ 21) : (A_due cl clk).1 k = cl.1 k := by
  show (if 22 ≤ k ∧ k ≤ 28 then _ else _) = _
  rw [if_neg h, if_neg h1]
theorem A_due_w {cl : Cl} {clk : Int32} {k : Nat} (h : 22 ≤ k ∧ k ≤ 28) : (A_due cl clk).1 k = cl.1 (k - 9) := by
  show (if 22 ≤ k ∧ k ≤ 28 then _ else _) = _
  rw [if_pos h]
theorem A_due_21 {cl : Cl} {clk : Int32} : (A_due cl clk).1 21 = clk + lsr (cl.1 20) (cl.1 1) := rfl
theorem CV.sld {B : Nat} {cl : Cl} (h : CV B cl) (h1 : cl.1 0 = 1) (h12 : cl.1 12 = 1) (clk : Int32) : CV B (A_due (A_sl cl clk) clk) := by
  have z := h.sl h1 clk
  have w := h.2.2.2.2.2.2.2.2.1 h12
  obtain ⟨a, b, c, d, e, f, g, i, j⟩ := z
  have ek : ∀ k, ¬ (22 ≤ k ∧ k ≤ 28) → k ≠ 21 → (A_due (A_sl cl clk) clk).1 k = (A_sl cl clk).1 k := fun k h1 h2 => A_due_k h1 h2
  have e0 : (A_sl cl clk).1 0 = 2 := rfl
  have e12 : (A_sl cl clk).1 12 = 0 := rfl
  have es : ∀ k, k ≠ 0 → k ≠ 2 → k ≠ 12 → (A_sl cl clk).1 k = cl.1 k := fun k h0 h2 h12 => by rw [A_sl_eq, sS_ne h12, A_sl0_k h0 h2]
  refine ⟨a, b, c, d, e.cgr (ek 9 (by omega) (by omega)) rfl rfl rfl rfl rfl, f, fun k hk => (g k hk).at (fun x hx => ek _ (by omega) (by omega)), ?_, ?_⟩
  · refine ⟨?_, ?_, fun q => ?_⟩
    · rw [ek 12 (by omega) (by omega)]; exact i.1
    · rw [ek 12 (by omega) (by omega), ek 0 (by omega) (by omega)]; exact i.2.1
    · rw [ek 0 (by omega) (by omega), e0] at q
      exact absurd q (by decide)
  · refine ⟨fun q => ?_, fun _ => ?_, ?_⟩
    · rw [ek 12 (by omega) (by omega), e12] at q
      exact absurd q (by decide)
    · rw [A_due_w (by omega), A_due_w (by omega), es _ (by omega) (by omega) (by omega), es _ (by omega) (by omega) (by omega)]
      refine ⟨w.1.cgr (fun x hx => ?_), w.2.1, w.2.2.1⟩
      rw [A_due_w (by omega), es _ (by omega) (by omega) (by omega), show 22 + x - 9 = 13 + x by omega]
    · rw [ek 1 (by omega) (by omega)]; exact j.2.2
