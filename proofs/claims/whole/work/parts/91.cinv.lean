/-! what a client keeps to -/
theorem Wd.tab {cl : Cl} {t : Nat} {rows : List (List Int32)} (w : Wd cl) (h : ∀ r ∈ rows, r.length = tw t) : Wd (sT cl t rows) := by
  intro u hu r hr
  by_cases e : u = t
  · subst e
    rw [sT_eq] at hr
    exact h r hr
  · rw [sT_ne e] at hr
    exact w u hu r hr
theorem Wd.sc {cl : Cl} {k : Nat} {v : Int32} (w : Wd cl) : Wd (sS cl k v) := w
theorem Wd.add {cl : Cl} {t : Nat} {r : List Int32} (w : Wd cl) (ht : ict t = true) (h : r.length = tw t) : Wd (sT cl t (cl.2 t ++ [r])) := by
  refine w.tab (fun x hx => ?_)
  rcases List.mem_append.mp hx with q | q
  · exact w t ht x q
  · rw [List.mem_singleton] at q
    rw [q]
    exact h
theorem Wd.pd {cl : Cl} {r : List Int32} (w : Wd cl) (h : r.length = 6) : Wd (A_pd cl r) := by
  unfold A_pd
  split
  · exact w.add rfl h
  · exact w
theorem Wd.pu {cl : Cl} {k n : Int32} (w : Wd cl) : Wd (A_pu cl k n) := by
  unfold A_pu
  split
  · exact w.add rfl rfl
  · exact w
theorem Wd.sends {cl : Cl} {i : Nat} (w : Wd cl) : Wd (A_sends cl i) := by
  unfold A_sends
  split
  · exact w.pd rfl
  · exact w.pd rfl
theorem Wd.flies {cl : Cl} {l p v k : Int32} (w : Wd cl) : Wd (A_flies cl l p v k) := by
  unfold A_flies
  exact Wd.sends (Wd.sc (w.add rfl rfl))
theorem Wd.qgoL : ∀ (qs : List (List Int32)) (cl : Cl), Wd cl → (∀ q ∈ qs, q.length = 4) → Wd (A_qgoL qs cl)
  | [], _, w, _ => w
  | q :: qs, cl, w, h => by
    unfold A_qgoL
    have h' : ∀ q ∈ qs, q.length = 4 := fun x hx => h x (List.mem_cons_of_mem _ hx)
    split
    · exact Wd.qgoL qs _ (Wd.flies (w.tab (t := 5) h')) h'
    · exact w
theorem Wd.goes {cl : Cl} {l p v k : Int32} (w : Wd cl) : Wd (A_goes cl l p v k) := by
  unfold A_goes
  have w1 : Wd (sS cl 50 (cl.1 50 + 1)) := w
  generalize sS cl 50 (cl.1 50 + 1) = cl1 at w1 ⊢
  unfold A_goes1
  split
  · split
    · exact w1.pd rfl
    · exact w1
  · split
    · exact w1.flies
    · split
      · exact w1.add rfl rfl
      · exact w1
theorem Wd.snd : ∀ (d i : Nat) (cl : Cl), Wd cl → Wd (A_snd d i cl)
  | 0, _, _, w => w
  | d + 1, i, cl, w => by
    unfold A_snd
    exact Wd.snd d (i + 1) _ w.sends
theorem Wd.takes {cl : Cl} {l p v k : Int32} (w : Wd cl) : Wd (A_takes cl l p v k) := by
  unfold A_takes
  refine Wd.tab (cl := sS cl 10 (cl.1 10 + 1)) w (fun x hx => ?_)
  rcases List.mem_append.mp hx with q | q
  · split at q
    · exact w 11 rfl x ((er_sub 0).subset q)
    · exact w 11 rfl x q
  · rw [List.mem_singleton] at q
    rw [q]
    rfl
theorem Wd.unk {cl : Cl} {x : Int32} (w : Wd cl) (hl : (cl.2 8).length < 2 ^ 31) : Wd (A_unk cl x) := by
  unfold A_unk
  split
  · exact w
  · rename_i e
    obtain ⟨j, hj, ej, gx⟩ := kix_some e
    rw [ej, nI_clamp (by omega)]
    refine w.tab (fun r hr => ?_)
    exact w 8 rfl r ((swp_perm hj (fun r hr => w 8 rfl r hr)).subset (List.mem_cons_of_mem _ hr))
theorem Wd.carD {cl : Cl} {kind num l p v k : Int32} (w : Wd cl) (hl : (cl.2 8).length < 2 ^ 31) : Wd (A_carD cl kind num l p v k) := by
  unfold A_carD
  split
  · exact (w.unk hl).pu
  · split
    · split
      · refine Wd.pu (Wd.tab w.takes (fun x hx => ?_))
        rcases List.mem_append.mp hx with q | q
        · exact w 8 rfl x q
        · rw [List.mem_singleton] at q
          rw [q]
          rfl
      · exact w.pu
    · split
      · exact w.takes.pu
      · exact w.takes
theorem Wd.carU {cl : Cl} {kind num : Int32} (w : Wd cl) (hl : (cl.2 4).length ≤ 4) : Wd (A_carU cl kind num) := by
  unfold A_carU
  by_cases fx : A_fix cl num (if kind = 1 then 1 else 2) = -4
  · rw [if_pos fx]
    exact w
  · rw [if_neg fx]
    obtain ⟨j, hj, ej, g0, gp⟩ := fix_row fx
    rw [ej, nI_clamp (by omega)]
    unfold A_carU1
    split
    · refine Wd.pd (w.tab (fun x hx => ?_)) rfl
      rcases List.mem_or_eq_of_mem_set hx with q | q
      · exact w 4 rfl x q
      · rw [q, List.length_set]
        exact w.row rfl hj
    · split
      · unfold A_off A_qgo
        refine Wd.qgoL _ _ (Wd.tab (cl := sS cl 52 (cl.1 52 + 1)) w (fun x hx => w 4 rfl x ((er_sub j).subset hx))) ?_
        rw [sT_ne (by omega)]
        exact fun q hq => w 5 rfl q hq
      · exact w
/-- the will, the life -/
def WtV (cl : Cl) : Prop := (cl.1 12 = 1 → PV 26 (fun j => cl.1 (13 + j)) ∧ pOk (cl.1 18) ∧ (cl.1 19 = 0 ∨ cl.1 19 = 1) ∧ ∃ d, d ≤ 50 ∧ cl.1 20 = nI d) ∧ (¬ cl.1 21 = -4 → PV 26 (fun j => cl.1 (22 + j)) ∧ pOk (cl.1 27) ∧ (cl.1 28 = 0 ∨ cl.1 28 = 1)) ∧ ∃ m, m ≤ 99 ∧ cl.1 1 = nI m
def CV (B : Nat) (cl : Cl) : Prop := (cl.1 0 = 0 ∨ cl.1 0 = 1 ∨ cl.1 0 = 2) ∧ Wd cl ∧ LtOk cl ∧ (cl.2 5).length ≤ 12 ∧ LI B cl ∧ ((∀ r ∈ cl.2 3, SbV r) ∧ (cl.2 3).length ≤ 6 ∧ (cl.1 0 = 0 → cl.2 3 = [])) ∧ AlV cl ∧ WlV cl ∧ WtV cl
theorem PV.at {cl cl' : Cl} {a k : Nat} (h : PV a (fun j => cl.1 (k + j))) (e : ∀ j, j < 4 → cl'.1 (k + j) = cl.1 (k + j)) : PV a (fun j => cl'.1 (k + j)) := h.cgr e
theorem CV.step {B C : Nat} {cl cl' : Cl} (h : CV B cl) (es : ∀ k, k ≤ 1 ∨ (12 ≤ k ∧ k < 45) → cl'.1 k = cl.1 k) (e3 : cl'.2 3 = cl.2 3) (w : Wd cl') (l : LtOk cl') (l5 : (cl'.2 5).length ≤ 12) (li : LI C cl') : CV C cl' := by
  obtain ⟨a, b, c, d, e, f, g, i, j⟩ := h
  refine ⟨by rw [es 0 (by omega)]; exact a, w, l, l5, li, by rw [e3, es 0 (by omega)]; exact f, fun k hk => (g k hk).at (fun x hx => es _ (by omega)), ?_, ?_⟩
  · unfold WlV
    rw [es 0 (by omega), es 12 (by omega), es 21 (by omega)]
    exact i
  · unfold WtV
    rw [es 1 (by omega), es 12 (by omega), es 18 (by omega), es 19 (by omega), es 20 (by omega), es 21 (by omega), es 27 (by omega), es 28 (by omega)]
    exact ⟨fun q => ⟨(j.1 q).1.at (fun x hx => es _ (by omega)), (j.1 q).2⟩, fun q => ⟨(j.2.1 q).1.at (fun x hx => es _ (by omega)), (j.2.1 q).2⟩, j.2.2⟩
theorem CV.mono {B C : Nat} {cl : Cl} (h : CV B cl) (e : B ≤ C) : CV C cl := by
  obtain ⟨a, b, c, d, f, g⟩ := h
  exact ⟨a, b, c, d, f.mono e, g⟩
theorem A_goes_s {cl : Cl} {l p v k : Int32} {j : Nat} (h9 : j ≠ 9) (h50 : j ≠ 50) (h51 : j ≠ 51) : (A_goes cl l p v k).1 j = cl.1 j := by
  unfold A_goes
  have e0 : (sS cl 50 (cl.1 50 + 1)).1 j = cl.1 j := sS_ne h50
  refine Eq.trans ?_ e0
  generalize sS cl 50 (cl.1 50 + 1) = cl1
  unfold A_goes1
  split
  · split
    · rw [A_pd_1]
    · exact sS_ne h51
  · split
    · rw [A_flies_1 h9]
    · split
      · rfl
      · exact sS_ne h51
theorem A_goes_5 {cl : Cl} {l p v k : Int32} (h : (cl.2 5).length ≤ 12) : ((A_goes cl l p v k).2 5).length ≤ 12 := by
  unfold A_goes
  have h1 : ((sS cl 50 (cl.1 50 + 1)).2 5).length ≤ 12 := h
  generalize sS cl 50 (cl.1 50 + 1) = cl1 at h1 ⊢
  unfold A_goes1
  split
  · split
    · rw [A_pd_ne (by omega)]; exact h1
    · exact h1
  · split
    · rw [A_flies_ne (by omega) (by omega)]; exact h1
    · split
      · rw [sT_eq, List.length_append]
        simp
        omega
      · exact h1
theorem CV.goes {B : Nat} {cl : Cl} (h : CV B cl) (hB : B < 2 ^ 31 - 1) (l p v k : Int32) (hp : pOk p) : CV (B + 1) (A_goes cl l p v k) :=
  h.step (fun j hj => A_goes_s (by omega) (by omega) (by omega)) (A_goes_0 cl l p v k).2 h.2.1.goes (h.2.2.1.goes l p v k) (A_goes_5 h.2.2.2.1) (h.2.2.2.2.1.goes hB l p v k hp)
theorem lsr_ok {a b : Int32} (ha : pOk a) (hb : pOk b) : pOk (lsr a b) := by
  unfold lsr
  split
  · exact hb
  · exact ha
theorem wdA_ok {cl : Cl} (V : ∀ r ∈ cl.2 3, SbV r) (t : Nat → Int32) : wdA cl t = -4 ∨ pOk (wdA cl t) := by
  unfold wdA
  have key : ∀ (rows : List (List Int32)) (b : Int32), (∀ r ∈ rows, SbV r) → (b = -4 ∨ pOk b) → (rows.foldl (wdS t) b = -4 ∨ pOk (rows.foldl (wdS t) b)) := by
    intro rows
    induction rows with
    | nil => intro b _ hb; exact hb
    | cons r rows ih =>
      intro b hv hb
      rw [List.foldl_cons]
      refine ih _ (fun x hx => hv x (List.mem_cons_of_mem _ hx)) ?_
      unfold wdS
      split
      · exact Or.inr (hv r List.mem_cons_self).2.2.1
      · exact hb
  exact key _ _ V (Or.inl rfl)
/-- the invariant of a world -/
def SV (B : Nat) (st : St) : Prop := (∀ c, c < 6 → CV B (st.2.2 c)) ∧ ShOk st ∧ HdV st ∧ KpW st
theorem SV.sb {B : Nat} {st : St} (h : SV B st) : SbW st := fun c hc => ⟨(h.1 c hc).2.2.2.2.2.1.1, (h.1 c hc).2.2.2.2.2.1.2.2⟩
theorem SV.lt {B : Nat} {st : St} (h : SV B st) : SLt st := fun c hc => (h.1 c hc).2.2.1
theorem SV.mono {B C : Nat} {st : St} (h : SV B st) (e : B ≤ C) : SV C st := ⟨fun c hc => (h.1 c hc).mono e, h.2⟩
theorem CVs.put {B : Nat} {st : St} {c : Nat} {cl : Cl} (h : ∀ c, c < 6 → CV B (st.2.2 c)) (hc : CV B cl) : ∀ d, d < 6 → CV B ((sC st c cl).2.2 d) := by
  intro d hd
  by_cases e : d = c
  · rw [e, sC_eq]
    exact hc
  · rw [sC_ne e]
    exact h d hd
theorem CVs_ses {t : Nat → Int32} {l p v : Int32} (hp : pOk p) {B : Nat} (hB : B + 6 < 2 ^ 31 - 1) : ∀ (d c : Nat) (st : St), c + d = 6 → (∀ i, i < 6 → CV (B + c) (st.2.2 i)) → ∀ i, i < 6 → CV (B + 6) ((A_ses t l p v d c st).2.2 i)
  | 0, c, st, e, h => by
    have : c = 6 := by omega
    subst this
    exact h
  | d + 1, c, st, e, h => by
    unfold A_ses
    refine CVs_ses hp hB d (c + 1) _ (by omega) ?_
    refine CVs.put (fun i hi => (h i hi).mono (by omega)) ?_
    have hc := h c (by omega)
    unfold A_se1
    split
    · exact hc.mono (by omega)
    · rename_i q
      have w := wdA_ok hc.2.2.2.2.2.1.1 t
      rcases w with w | w
      · exact absurd (Or.inr w) q
      · exact hc.goes (by omega) _ _ _ _ (lsr_ok hp w)
theorem mem_sb {cl : Cl} {k : Nat → Int32} (V : ∀ r ∈ cl.2 3, SbV r) (hl : (cl.2 3).length ≤ 6) (h : ¬ memIx cl k = -4) : SbV (gr (cl.2 3) (memIx cl k).toNatClampNeg) := by
  obtain ⟨j, hj, e, -⟩ := memIx_in h
  rw [e, nI_clamp (by omega)]
  exact V _ (gr_mem hj)
theorem SV_shL {t : Nat → Int32} {l p v : Int32} (hp : pOk p) : ∀ (n B : Nat) (st : St) (k : Nat → Int32), B + n < 2 ^ 31 - 1 → SV B st → SV (B + n) (A_shL t l p v n st k)
  | 0, _, _, _, _, h => h
  | n + 1, B, st, k, hB, h => by
    unfold A_shL
    split
    · rename_i hs
      obtain ⟨r, r1, r2, r3, r4⟩ := nsA_inv hs
      rw [show B + (n + 1) = B + 1 + n by omega]
      refine SV_shL hp n (B + 1) _ _ (by omega) ?_
      split
      · have who := h.2.1.who r1
        rw [← r2] at who
        obtain ⟨c, hc, ec, hmm, -⟩ := shC_in who
        have O2 : ShOk (A_shOut st (nsA st.2.2 k).2 l p v) := by rw [r2]; exact h.2.1.out r1 l p v
        have kv : KV (nsA st.2.2 k).2 := by
          rw [r2]
          obtain ⟨c', hc', -, hr'⟩ := arw_mem.mp r1
          exact ((h.1 c' hc').2.2.2.2.2.1.1 r hr').key
        have l36 : (st.2.1 7).length ≤ 36 := by
          have z := nd_len ((st.2.1 7).map (fun r => k5 (g5 r))) ((arw st.2.2).map (fun r => k5 (skey r))) h.2.1.2.2.1 (fun x hx => by
            obtain ⟨y, hy, ey⟩ := List.mem_map.mp hx
            rw [← ey]
            exact h.2.1.2.2.2 y hy)
          rw [List.length_map, List.length_map] at z
          exact Nat.le_trans z (arw_len (fun c hc => (h.2.1.2.1 c hc).2))
        have e7 : (A_shOut st (nsA st.2.2 k).2 l p v).2.1 7 = shHad (st.2.1 7) (nsA st.2.2 k).2 (shC st (nsA st.2.2 k).2) := by
          unfold A_shOut A_shGo
          exact sK_eq st 7 _
        refine ⟨?_, O2, ?_, h.2.2.2⟩
        · unfold A_shOut A_shGo
          rw [ec, nI_clamp (by omega)]
          refine CVs.put (st := sK st 7 _) (fun i hi => (h.1 i hi).mono (by omega)) ?_
          have hcc := h.1 c hc
          exact hcc.goes (by omega) _ _ _ _ (lsr_ok hp (mem_sb hcc.2.2.2.2.2.1.1 hcc.2.2.2.2.2.1.2.1 hmm).2.2.1)
        · unfold HdV
          rw [e7]
          exact HdV.had h.2.2.1 kv l36 _
      · exact h.mono (by omega)
    · exact h.mono (by omega)
theorem KpW.keeps {rows : List (List Int32)} {t : Nat → Int32} {v p l : Int32} (h : ∀ r ∈ rows, KpV r) (ht : PV 26 t) (hp : pOk p) : ∀ r ∈ A_keeps rows t v p l, KpV r := by
  have hd : ∀ r ∈ A_kdel rows t, KpV r := by
    unfold A_kdel
    split
    · exact h
    · exact fun r hr => h r ((er_sub _).subset hr)
  unfold A_keeps
  split
  · exact hd
  · intro r hr
    unfold A_kput at hr
    rcases List.mem_append.mp hr with q | q
    · split at q
      · exact hd r ((er_sub 0).subset q)
      · exact hd r q
    · rw [List.mem_singleton] at q
      rw [q]
      refine ⟨ht.cgr (fun j hj => ?_), hp⟩
      rcases (show j = 0 ∨ j = 1 ∨ j = 2 ∨ j = 3 by omega) with rfl | rfl | rfl | rfl <;> rfl
theorem SV.says {B : Nat} {st : St} {t : Nat → Int32} (h : SV B st) (hB : B + 100 < 2 ^ 31 - 1) (ht : PV 26 t) (v p k : Int32) (hp : pOk p) : SV (B + 43) (A_says st t v p k) := by
  have hs := A_keep_ss st t v p k
  have h1 : SV B (A_keep st t v p k) := by
    refine ⟨fun c hc => by rw [hs.1]; exact h.1 c hc, h.2.1.ss (fun c => by rw [hs.1]; exact ⟨rfl, rfl⟩) hs.2, by unfold HdV; rw [hs.2]; exact h.2.2.1, ?_⟩
    unfold A_keep
    split
    · unfold KpW
      rw [sK_eq]
      exact KpW.keeps h.2.2.2 ht hp
    · exact h.2.2.2
  unfold A_says
  generalize A_keep st t v p k = st1 at h1 ⊢
  have so := ShOk_ses (t := t) (l := st.1 1) (p := p) (v := v) 6 0 st1 h1.2.1
  have ek := A_ses_k (t := t) (l := st.1 1) (p := p) (v := v) 6 0 st1
  have h2 : SV (B + 6) (A_ses t (st.1 1) p v 6 0 st1) := by
    refine ⟨CVs_ses hp (B := B) (by omega) 6 0 st1 rfl h1.1, so.1, ?_, ?_⟩
    · unfold HdV
      rw [ek.1]
      exact h1.2.2.1
    · unfold KpW
      rw [ek.1]
      exact h1.2.2.2
  have z := SV_shL (t := t) (l := st.1 1) (v := v) hp shN (B + 6) _ (fun _ => 0) (by unfold shN; omega) h2
  have e : B + 6 + shN = B + 43 := by unfold shN; omega
  rw [e] at z
  exact z
