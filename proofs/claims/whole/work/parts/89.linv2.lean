/-! what the lines keep to, over carry -/
theorem LiT.sub6 {N : Nat} {fl qu dn dn' up kn : List (List Int32)} (h : LiT N fl qu dn up kn) (s : dn'.Sublist dn) : LiT N fl qu dn' up kn := by
  obtain ⟨a, b, c, d, e, f⟩ := h
  refine ⟨a, b, fun x hx => c x (s.subset hx), d.sublist s, fun u hu => ?_, f⟩
  rcases e u hu with q | q | ⟨q1, q2, q3, q4, q5⟩
  · exact Or.inl q
  · exact Or.inr (Or.inl q)
  · exact Or.inr (Or.inr ⟨q1, q2, q3, q4, fun y hy o => q5 y (s.subset hy) o⟩)
theorem LI.sub6 {B : Nat} {cl : Cl} {X : List (List Int32)} (h : LI B cl) (s : X.Sublist (cl.2 6)) : LI B (sT cl 6 X) := by
  obtain ⟨N, h1, h2, h3⟩ := h
  refine ⟨N, h1, h2, ?_⟩
  rw [sT_eq, sT_ne (by omega), sT_ne (by omega), sT_ne (by omega), sT_ne (by omega)]
  exact h3.sub6 s
theorem LI.sub7 {B : Nat} {cl : Cl} {X : List (List Int32)} (h : LI B cl) (s : X.Sublist (cl.2 7)) : LI B (sT cl 7 X) := by
  obtain ⟨N, h1, h2, a, b, c, d, e, f⟩ := h
  refine ⟨N, h1, h2, ?_⟩
  rw [sT_eq, sT_ne (by omega), sT_ne (by omega), sT_ne (by omega), sT_ne (by omega)]
  exact ⟨a, b, c, d, fun u hu => e u (s.subset hu), f⟩
theorem LI.pu {B : Nat} {cl : Cl} {k n : Int32} (h : LI B cl) (hr : ∀ N, LiT N (cl.2 4) (cl.2 5) (cl.2 6) (cl.2 7) (cl.2 8) → LiU N (cl.2 4) (cl.2 6) (cl.2 8) [k, n]) : LI B (A_pu cl k n) := by
  obtain ⟨N, h1, h2, h3⟩ := h
  unfold A_pu
  split
  · have z := hr N h3
    obtain ⟨a, b, c, d, e, f⟩ := h3
    refine ⟨N, h1, h2, ?_⟩
    rw [sT_eq, sT_ne (by omega), sT_ne (by omega), sT_ne (by omega), sT_ne (by omega)]
    refine ⟨a, b, c, d, fun u hu => ?_, f⟩
    rcases List.mem_append.mp hu with q | q
    · exact e u q
    · rw [List.mem_singleton] at q
      rw [q]
      exact z
  · exact ⟨N, h1, h2, h3⟩
theorem LI.takes {B : Nat} {cl : Cl} (h : LI B cl) (l p v k : Int32) : LI B (A_takes cl l p v k) := by
  refine h.cgr ?_ (A_takes_ne (by omega)) (A_takes_ne (by omega)) (A_takes_ne (by omega)) (A_takes_ne (by omega)) (A_takes_ne (by omega))
  unfold A_takes
  rw [sT_1, sS_ne (by omega)]
theorem kix_none {cl : Cl} {x : Int32} (w : Wd cl) (hl : (cl.2 8).length < 2 ^ 31) (h : A_kix cl x = -4) : [x] ∉ cl.2 8 := by
  have z := (sIx_none (z := -4) (rows := cl.2 8) (x := x) (fun j hj => nI_ne4 hj) hl).mp h
  intro q
  exact z [x] q rfl
theorem kix_some {cl : Cl} {x : Int32} (h : ¬ A_kix cl x = -4) : ∃ j, j < (cl.2 8).length ∧ A_kix cl x = nI j ∧ g5 (gr (cl.2 8) j) 0 = x := by
  rcases sIx_spec (-4) (kP (cl.2 8) x) (cl.2 8).length 0 with ⟨e, -⟩ | ⟨j, -, hj, e, q, -⟩
  · exact absurd e h
  · unfold kP at q
    rw [beq_iff_eq] at q
    exact ⟨j, by omega, e, q⟩
/-- the known are fewer -/
theorem LI.unk {B : Nat} {cl : Cl} (h : LI B cl) (w : Wd cl) (hl : (cl.2 8).length < 2 ^ 31) (x : Int32) : LI B (A_unk cl x) ∧ [x] ∉ (A_unk cl x).2 8 := by
  unfold A_unk
  by_cases e : A_kix cl x = -4
  · rw [if_pos e]
    exact ⟨h, kix_none w hl e⟩
  · rw [if_neg e]
    obtain ⟨j, hj, ej, gx⟩ := kix_some e
    have w1 : ∀ r ∈ cl.2 8, r.length = 1 := fun r hr => w 8 rfl r hr
    rw [ej, nI_clamp (by omega), sT_eq]
    have pm := swp_perm hj w1
    obtain ⟨N, h1, h2, a, b, c, d, e', k1, k2⟩ := h
    have nd := pm.nodup_iff.mpr k1
    rw [List.nodup_cons] at nd
    have gj : gr (cl.2 8) j = [x] := by
      have l1 := w1 _ (gr_mem hj)
      match hg : gr (cl.2 8) j, l1 with
      | [y], _ =>
        rw [hg] at gx
        have : y = x := gx
        rw [this]
    rw [gj] at nd pm
    have sub : ∀ k ∈ A_swp (cl.2 8) j, k ∈ cl.2 8 := fun k hk => pm.subset (List.mem_cons_of_mem _ hk)
    refine ⟨⟨N, h1, h2, ?_⟩, nd.1⟩
    rw [sT_eq, sT_ne (by omega), sT_ne (by omega), sT_ne (by omega), sT_ne (by omega)]
    refine ⟨a, b, c, d, fun u hu => ?_, nd.2, fun k hk => k2 k (sub k hk)⟩
    rcases e' u hu with q | q | ⟨q1, q2, q3, q4, q5⟩
    · exact Or.inl q
    · exact Or.inr (Or.inl q)
    · exact Or.inr (Or.inr ⟨q1, q2, q3, fun z => q4 (sub _ z), q5⟩)
theorem gr_cons {l : List (List Int32)} (h : 0 < l.length) : ∃ tl, l = gr l 0 :: tl := by
  match l, h with
  | r :: tl, _ => exact ⟨tl, rfl⟩
theorem LI.carD {B : Nat} {cl : Cl} (h : LI B cl) (w : Wd cl) (hl : (cl.2 8).length < 2 ^ 31) (h6 : 0 < (cl.2 6).length) (l v k : Int32) : LI B (A_carD cl (g5 (gr (cl.2 6) 0) 0) (g5 (gr (cl.2 6) 0) 1) l (g5 (gr (cl.2 6) 0) 3) v k) := by
  have hm := gr_mem h6
  obtain ⟨tl, etl⟩ := gr_cons h6
  generalize gr (cl.2 6) 0 = r at hm etl ⊢
  unfold A_carD
  have h0 := h
  obtain ⟨N, h1, h2, a, b, c, d, e, f⟩ := h
  rcases c r hm with ⟨q0, qp⟩ | ⟨q0, q1, q2⟩
  · rw [q0, if_neg (by decide)]
    rcases qp with qp | qp | ⟨qp, ff, hff, q3⟩
    · rw [qp, if_neg (by decide), if_neg (by decide)]
      exact h0.takes _ _ _ _
    · rw [qp, if_neg (by decide), if_pos rfl]
      exact (h0.takes _ _ _ _).pu (fun _ _ => Or.inl rfl)
    · rw [qp, if_pos (by decide)]
      split
      · rename_i kx
        have nk := kix_none w hl kx
        refine LI.pu ?_ (fun _ _ => Or.inr (Or.inl rfl))
        have ht := h0.takes l 2 v k
        obtain ⟨M, m1, m2, ma, mb, mc, md, me, mk1, mk2⟩ := ht
        refine ⟨M, m1, m2, ?_⟩
        rw [sT_eq, sT_ne (by omega), sT_ne (by omega), sT_ne (by omega), sT_ne (by omega)]
        rw [A_takes_ne (by omega)] at mk1
        simp only [A_takes_ne (cl := cl) (l := l) (p := 2) (v := v) (k := k) (show 4 ≠ 11 by omega), A_takes_ne (cl := cl) (l := l) (p := 2) (v := v) (k := k) (show 5 ≠ 11 by omega), A_takes_ne (cl := cl) (l := l) (p := 2) (v := v) (k := k) (show 6 ≠ 11 by omega), A_takes_ne (cl := cl) (l := l) (p := 2) (v := v) (k := k) (show 7 ≠ 11 by omega), A_takes_ne (cl := cl) (l := l) (p := 2) (v := v) (k := k) (show 8 ≠ 11 by omega)] at ma mb mc md me mk2 ⊢
        refine ⟨ma, mb, mc, md, fun u hu => ?_, ?_, fun kk hk => ?_⟩
        · rcases me u hu with y | y | ⟨y1, y2, y3, y4, y5⟩
          · exact Or.inl y
          · exact Or.inr (Or.inl y)
          · refine Or.inr (Or.inr ⟨y1, y2, y3, fun z => ?_, y5⟩)
            rcases List.mem_append.mp z with z | z
            · exact y4 z
            · rw [List.mem_singleton] at z
              have : g5 u 1 = g5 r 1 := by
                injection z
              exact y5 r hm ⟨q0, qp⟩ this.symm
        · rw [List.nodup_append]
          refine ⟨mk1, by simp, fun x hx y hy => ?_⟩
          rw [List.mem_singleton] at hy
          intro z
          rw [z, hy] at hx
          exact nk hx
        · rcases List.mem_append.mp hk with z | z
          · exact mk2 kk z
          · rw [List.mem_singleton] at z
            exact ⟨ff, hff, by rw [z, q3.1], q3.2⟩
      · exact h0.pu (fun _ _ => Or.inr (Or.inl rfl))
  · rw [q0, if_pos rfl]
    have u := h0.unk w hl (g5 r 1)
    refine u.1.pu (fun M t => ?_)
    have e4 : (A_unk cl (g5 r 1)).2 4 = cl.2 4 := A_unk_ne (by omega)
    have e6 : (A_unk cl (g5 r 1)).2 6 = cl.2 6 := A_unk_ne (by omega)
    rw [e4, e6] at t ⊢
    refine Or.inr (Or.inr ⟨rfl, ?_, fun f' hf' ef => q2 f' hf' ef, u.2, fun y hy o => ?_⟩)
    · have z := t.2.2.1 r (by rw [etl]; exact List.mem_cons_self)
      rcases z with z | z
      · rw [z.1] at q0
        exact absurd q0 (by decide)
      · exact z.2.1
    · rw [etl] at hy d
      rw [List.pairwise_cons] at d
      rcases List.mem_cons.mp hy with z | z
      · rw [z] at o
        have := o.1
        rw [q0] at this
        exact absurd this (by decide)
      · exact fun q => d.1 y z q0 o q.symm
