/-! what the lines keep to, over carry up -/
theorem er_mem {l : List (List Int32)} {i : Nat} (hi : i < l.length) {x : List Int32} : x ∈ l ↔ x = gr l i ∨ x ∈ l.eraseIdx i := by
  have e : gr l i = l[i] := by simp [gr, List.getD, hi]
  rw [e, ← List.mem_cons]
  exact ((er_pm hi).mem_iff).symm
theorem er_sub {l : List (List Int32)} (i : Nat) : (l.eraseIdx i).Sublist l := List.eraseIdx_sublist l i
/-- one leaves the flight -/
theorem LiT.er {N i : Nat} {fl qu dn up kn : List (List Int32)} (h : LiT N fl qu dn up kn) (hi : i < fl.length) (hf : g5 (gr fl i) 2 = 2 → [g5 (gr fl i) 0] ∉ kn ∧ ∀ d ∈ dn, Ou2 d → ¬ g5 d 1 = g5 (gr fl i) 0) : LiT N (fl.eraseIdx i) qu dn up kn := by
  obtain ⟨⟨a1, a2⟩, b, c, d, e, k1, k2⟩ := h
  have s := er_sub (l := fl) i
  have keep : ∀ f ∈ fl, g5 f 2 = 2 → (g5 (gr fl i) 2 = 2 → ¬ g5 f 0 = g5 (gr fl i) 0) → f ∈ fl.eraseIdx i := by
    intro f hf2 p2 hn
    rcases (er_mem hi).mp hf2 with q | q
    · rw [q] at p2 hn
      exact absurd rfl (hn p2)
    · exact q
  refine ⟨⟨fun x hx => a1 x (s.subset hx), a2.sublist s⟩, b, fun x hx => ?_, d, fun u hu => ?_, k1, fun k hk => ?_⟩
  · rcases c x hx with ⟨q0, q⟩ | ⟨q0, q1, q2⟩
    · refine Or.inl ⟨q0, ?_⟩
      rcases q with q | q | ⟨q, f', hf', q'⟩
      · exact Or.inl q
      · exact Or.inr (Or.inl q)
      · refine Or.inr (Or.inr ⟨q, f', keep f' hf' q'.2 (fun p2 z => ?_), q'⟩)
        exact (hf p2).2 x hx ⟨q0, q⟩ (q'.1.symm.trans z)
    · exact Or.inr ⟨q0, q1, fun f' hf' ef => q2 f' (s.subset hf') ef⟩
  · rcases e u hu with q | q | ⟨q1, q2, q3, q4, q5⟩
    · exact Or.inl q
    · exact Or.inr (Or.inl q)
    · exact Or.inr (Or.inr ⟨q1, q2, fun f' hf' ef => q3 f' (s.subset hf') ef, q4, q5⟩)
  · obtain ⟨f', hf', q1, q2⟩ := k2 k hk
    refine ⟨f', keep f' hf' q2 (fun p2 z => ?_), q1, q2⟩
    rw [q1, z] at hk
    exact (hf p2).1 hk
theorem LI.off {B i : Nat} {cl : Cl} (h : LI B cl) (hB : B + (cl.2 5).length < 2 ^ 31 - 1) (hi : i < (cl.2 4).length) (hf : g5 (gr (cl.2 4) i) 2 = 2 → [g5 (gr (cl.2 4) i) 0] ∉ cl.2 8 ∧ ∀ d ∈ cl.2 6, Ou2 d → ¬ g5 d 1 = g5 (gr (cl.2 4) i) 0) : LI (B + (cl.2 5).length) (A_off cl i) := by
  unfold A_off A_qgo
  have e5 : (sT (sS cl 52 (cl.1 52 + 1)) 4 ((cl.2 4).eraseIdx i)).2 5 = cl.2 5 := by rw [sT_ne (by omega)]; rfl
  rw [e5]
  refine LI.qgoL _ _ _ ?_ h.q5 hB
  obtain ⟨N, h1, h2, h3⟩ := h
  refine ⟨N, h1, by rw [sT_1, sS_ne (by omega)]; exact h2, ?_⟩
  rw [sT_eq, sT_ne (by omega), sT_ne (by omega), sT_ne (by omega), sT_ne (by omega), sS_2]
  exact h3.er hi hf
theorem set5_g {f : List Int32} {j : Nat} (hj : j ≠ 5) : g5 (f.set 5 1) j = g5 f j := by
  unfold g5
  rw [List.getD, List.getD, List.getElem?_set_ne (by omega)]
theorem set5_5 {f : List Int32} (h : f.length = 6) : g5 (f.set 5 1) 5 = 1 := by
  match f, h with
  | [a, b, c, d, e, x], _ => rfl
/-- one is freed -/
theorem LiT.fr {N i : Nat} {fl qu dn up kn : List (List Int32)} (h : LiT N fl qu dn up kn) (hi : i < fl.length) (h6 : (gr fl i).length = 6) (h2 : g5 (gr fl i) 2 = 2) : LiT N (fl.set i ((gr fl i).set 5 1)) qu dn up kn := by
  obtain ⟨⟨a1, a2⟩, b, c, d, e, k1, k2⟩ := h
  have back : ∀ x ∈ fl.set i ((gr fl i).set 5 1), ∃ f ∈ fl, g5 x 0 = g5 f 0 ∧ g5 x 2 = g5 f 2 ∧ (g5 x 5 = 1 → g5 f 5 = 1 ∨ g5 f 2 = 2) ∧ (g5 f 5 = 1 → g5 x 5 = 1) := by
    intro x hx
    rcases List.mem_or_eq_of_mem_set hx with q | q
    · exact ⟨x, q, rfl, rfl, fun z => Or.inl z, fun z => z⟩
    · refine ⟨gr fl i, gr_mem hi, ?_, ?_, fun _ => Or.inr h2, fun _ => ?_⟩
      · rw [q, set5_g (by omega)]
      · rw [q, set5_g (by omega)]
      · rw [q, set5_5 h6]
  have forth : ∀ f ∈ fl, ∃ x ∈ fl.set i ((gr fl i).set 5 1), g5 x 0 = g5 f 0 ∧ g5 x 2 = g5 f 2 := by
    intro f hf
    obtain ⟨j, hj, ej⟩ := List.getElem_of_mem hf
    by_cases q : j = i
    · refine ⟨(gr fl i).set 5 1, List.mem_set hi _, ?_⟩
      have : gr fl i = f := by
        subst q
        simp [gr, List.getD, hj, ej]
      rw [set5_g (by omega), set5_g (by omega), this]
      exact ⟨rfl, rfl⟩
    · refine ⟨f, ?_, rfl, rfl⟩
      have : (fl.set i ((gr fl i).set 5 1))[j]'(by rw [List.length_set]; exact hj) = f := by
        rw [List.getElem_set_ne (fun z => q z.symm)]
        exact ej
      rw [← this]
      exact List.getElem_mem _
  have keys : (fl.set i ((gr fl i).set 5 1)).map (fun r => g5 r 0) = fl.map (fun r => g5 r 0) := by
    rw [List.map_set, set5_g (by omega)]
    apply List.ext_getElem?
    intro j
    by_cases q : j = i
    · subst q
      have : gr fl j = fl[j] := by simp [gr, List.getD, hi]
      rw [List.getElem?_set_self (by simpa using hi), this]
      simp [hi]
    · rw [List.getElem?_set_ne (fun z => q z.symm)]
  have pk : ∀ l : List (List Int32), l.Pairwise (fun a b => ¬ g5 a 0 = g5 b 0) ↔ (l.map (fun r => g5 r 0)).Pairwise (fun a b => ¬ a = b) := fun l => (List.pairwise_map (f := fun r : List Int32 => g5 r 0) (R := fun a b => ¬ a = b) (l := l)).symm
  refine ⟨⟨fun x hx => ?_, ?_⟩, b, fun x hx => ?_, d, fun u hu => ?_, k1, fun k hk => ?_⟩
  · obtain ⟨f, hf, z0, z2, z5, -⟩ := back x hx
    have q := a1 f hf
    rw [z0, z2]
    refine ⟨q.1, q.2.1, fun y => ?_⟩
    rcases z5 y with w | w
    · exact q.2.2 w
    · exact w
  · rw [pk, keys, ← pk]
    exact a2
  · rcases c x hx with ⟨q0, q⟩ | ⟨q0, q1, q2⟩
    · refine Or.inl ⟨q0, ?_⟩
      rcases q with q | q | ⟨q, f', hf', q'⟩
      · exact Or.inl q
      · exact Or.inr (Or.inl q)
      · obtain ⟨y, hy, y0, y2⟩ := forth f' hf'
        exact Or.inr (Or.inr ⟨q, y, hy, by rw [y0]; exact q'.1, by rw [y2]; exact q'.2⟩)
    · refine Or.inr ⟨q0, q1, fun y hy ey => ?_⟩
      obtain ⟨f, hf, z0, -, -, z5⟩ := back y hy
      exact z5 (q2 f hf (by rw [← z0]; exact ey))
  · rcases e u hu with q | q | ⟨q1, q2, q3, q4, q5⟩
    · exact Or.inl q
    · exact Or.inr (Or.inl q)
    · refine Or.inr (Or.inr ⟨q1, q2, fun y hy ey => ?_, q4, q5⟩)
      obtain ⟨f, hf, z0, -, -, z5⟩ := back y hy
      exact z5 (q3 f hf (by rw [← z0]; exact ey))
  · obtain ⟨f', hf', q1, q2⟩ := k2 k hk
    obtain ⟨y, hy, y0, y2⟩ := forth f' hf'
    exact ⟨y, hy, by rw [y0]; exact q1, by rw [y2]; exact q2⟩
theorem fix_row {cl : Cl} {x p : Int32} (h : ¬ A_fix cl x p = -4) : ∃ j, j < (cl.2 4).length ∧ A_fix cl x p = nI j ∧ g5 (gr (cl.2 4) j) 0 = x ∧ g5 (gr (cl.2 4) j) 2 = p := by
  rcases sIx_spec (-4) (fP (cl.2 4) x p) (cl.2 4).length 0 with ⟨e, -⟩ | ⟨j, -, hj, e, q, -⟩
  · exact absurd e h
  · unfold fP at q
    rw [Bool.and_eq_true, beq_iff_eq, beq_iff_eq] at q
    exact ⟨j, by omega, e, q.1, q.2⟩
theorem LI.carU {B : Nat} {cl : Cl} (h : LI B cl) (w : Wd cl) (h4 : (cl.2 4).length ≤ 4) (hB : B + (cl.2 5).length < 2 ^ 31 - 1) (h7 : 0 < (cl.2 7).length) : LI (B + (cl.2 5).length) (A_carU cl (g5 (gr (cl.2 7) 0) 0) (g5 (gr (cl.2 7) 0) 1)) := by
  have hm := gr_mem h7
  generalize gr (cl.2 7) 0 = u at hm ⊢
  have h0 := h
  obtain ⟨N, h1, h2, t⟩ := h
  have ku := t.2.2.2.2.1 u hm
  unfold A_carU
  by_cases fx : A_fix cl (g5 u 1) (if g5 u 0 = 1 then 1 else 2) = -4
  · rw [if_pos fx]
    exact h0.mono (by omega)
  · rw [if_neg fx]
    obtain ⟨j, hj, ej, g0, gp⟩ := fix_row fx
    rw [ej, nI_clamp (by omega)]
    unfold A_carU1
    by_cases k2 : g5 u 0 = 2
    · rw [if_pos k2]
      rw [k2, if_neg (by decide)] at gp
      have l6 := w.row (t := 4) rfl hj
      have tf := t.fr hj l6 gp
      have hF : LI B (sT cl 4 ((cl.2 4).set j ((gr (cl.2 4) j).set 5 1))) := by
        refine ⟨N, h1, h2, ?_⟩
        rw [sT_eq, sT_ne (by omega), sT_ne (by omega), sT_ne (by omega), sT_ne (by omega)]
        exact tf
      refine (hF.pd (fun M t' => ⟨Or.inr ⟨rfl, ?_, fun y hy ey => ?_⟩, fun a ha _ o => ?_, fun o => ?_⟩)).mono (by omega)
      · rw [sT_eq] at t'
        have q := t'.1.1 ((gr (cl.2 4) j).set 5 1) (List.mem_set hj _)
        rw [set5_g (by omega), g0] at q
        exact q.1
      · rw [sT_eq] at t' hy
        have z : y = (gr (cl.2 4) j).set 5 1 := by
          refine pw_eq t'.1.2 y hy _ (List.mem_set hj _) ?_
          rw [set5_g (by omega), g0]
          exact ey
        rw [z]
        exact set5_5 l6
      · exact absurd o.1 (show ¬ (3 : Int32) = 0 by decide)
      · exact absurd o.1 (show ¬ (3 : Int32) = 0 by decide)
    · rw [if_neg k2]
      by_cases k1 : g5 u 0 = 1
      · rw [k1, if_pos rfl] at gp
        rw [if_pos (Or.inl k1)]
        refine h0.off hB hj (fun z => ?_)
        rw [gp] at z
        exact absurd z (by decide)
      · rcases ku with q | q | k4
        · exact absurd q k1
        · exact absurd q k2
        split
        · refine h0.off hB hj (fun z => ?_)
          rw [g0]
          exact ⟨k4.2.2.2.1, k4.2.2.2.2⟩
        · exact h0.mono (by omega)
theorem LI.flOk {B : Nat} {cl : Cl} (h : LI B cl) : FlOk cl := by
  obtain ⟨N, h1, h2, ⟨a1, a2⟩, -⟩ := h
  refine ⟨fun i j hi hj e => ?_, fun i hi => (a1 _ (gr_mem hi)).2⟩
  rw [List.pairwise_iff_getElem] at a2
  have ei : gr (cl.2 4) i = (cl.2 4)[i] := by simp [gr, List.getD, hi]
  have ej : gr (cl.2 4) j = (cl.2 4)[j] := by simp [gr, List.getD, hj]
  rw [ei, ej] at e
  rcases Nat.lt_trichotomy i j with q | q | q
  · exact absurd e (a2 i j hi hj q)
  · exact q
  · exact absurd e.symm (a2 j i hj hi q)
theorem LI.kn4 {B : Nat} {cl : Cl} (h : LI B cl) : (cl.2 8).length ≤ (cl.2 4).length := by
  obtain ⟨N, h1, h2, a, b, c, d, e, k1, k2⟩ := h
  have z := nd_len (cl.2 8) ((cl.2 4).map (fun f => [g5 f 0])) k1 (fun k hk => by
    obtain ⟨f, hf, q, -⟩ := k2 k hk
    rw [q]
    exact List.mem_map_of_mem hf)
  rwa [List.length_map] at z
theorem LI.hdD {B : Nat} {cl : Cl} (h : LI B cl) (w : Wd cl) (h4 : (cl.2 4).length ≤ 4) (h6 : 0 < (cl.2 6).length) : HdD cl := by
  have hm := gr_mem h6
  have k4 := h.kn4
  obtain ⟨N, h1, h2, a, b, c, d, e, k1, k2⟩ := h
  unfold HdD
  generalize gr (cl.2 6) 0 = r at hm ⊢
  rcases c r hm with ⟨q0, qp⟩ | ⟨q0, -⟩
  · refine Or.inl ⟨q0, ?_, fun kx p2 => ?_⟩
    · rcases qp with q | q | q
      · exact Or.inl q
      · exact Or.inr (Or.inl q)
      · exact Or.inr (Or.inr q.1)
    · rcases qp with q | q | ⟨-, f, hf, f0, f2⟩
      · rw [q] at p2
        exact absurd p2 (by decide)
      · rw [q] at p2
        exact absurd p2 (by decide)
      · have nk := kix_none w (by omega) kx
        have z := nd_len ([g5 r 1] :: cl.2 8) ((cl.2 4).map (fun f => [g5 f 0])) (List.nodup_cons.mpr ⟨nk, k1⟩) (fun k hk => by
          rcases List.mem_cons.mp hk with y | y
          · rw [y, ← f0]
            exact List.mem_map_of_mem hf
          · obtain ⟨f', hf', q, -⟩ := k2 k y
            rw [q]
            exact List.mem_map_of_mem hf')
        rw [List.length_cons, List.length_map] at z
        omega
  · exact Or.inr q0
theorem LI.hdU {B : Nat} {cl : Cl} (h : LI B cl) (h7 : 0 < (cl.2 7).length) : g5 (gr (cl.2 7) 0) 0 = 1 ∨ g5 (gr (cl.2 7) 0) 0 = 2 ∨ g5 (gr (cl.2 7) 0) 0 = 4 := by
  have hm := gr_mem h7
  obtain ⟨N, h1, h2, a, b, c, d, e, f⟩ := h
  rcases e _ hm with q | q | q
  · exact Or.inl q
  · exact Or.inr (Or.inl q)
  · exact Or.inr (Or.inr q.1)
