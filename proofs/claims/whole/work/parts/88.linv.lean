/-! what the lines keep to -/
def Lo (N : Nat) (x : Int32) : Prop := ∃ m, m < N ∧ x = nI m
def Ou2 (r : List Int32) : Prop := g5 r 0 = 0 ∧ g5 r 3 = 2
def pOk (p : Int32) : Prop := p = 0 ∨ p = 1 ∨ p = 2
/-- the flight -/
def LiF (N : Nat) (fl : List (List Int32)) : Prop := (∀ f ∈ fl, Lo N (g5 f 0) ∧ (g5 f 2 = 1 ∨ g5 f 2 = 2) ∧ (g5 f 5 = 1 → g5 f 2 = 2)) ∧ fl.Pairwise (fun a b => ¬ g5 a 0 = g5 b 0)
/-- a packet down -/
def LiD (N : Nat) (fl : List (List Int32)) (d : List Int32) : Prop := (g5 d 0 = 0 ∧ (g5 d 3 = 0 ∨ g5 d 3 = 1 ∨ (g5 d 3 = 2 ∧ ∃ f ∈ fl, g5 f 0 = g5 d 1 ∧ g5 f 2 = 2))) ∨ (g5 d 0 = 3 ∧ Lo N (g5 d 1) ∧ ∀ f ∈ fl, g5 f 0 = g5 d 1 → g5 f 5 = 1)
/-- a packet up -/
def LiU (N : Nat) (fl dn kn : List (List Int32)) (u : List Int32) : Prop := g5 u 0 = 1 ∨ g5 u 0 = 2 ∨ (g5 u 0 = 4 ∧ Lo N (g5 u 1) ∧ (∀ f ∈ fl, g5 f 0 = g5 u 1 → g5 f 5 = 1) ∧ [g5 u 1] ∉ kn ∧ ∀ d ∈ dn, Ou2 d → ¬ g5 d 1 = g5 u 1)
def LiO (a b : List Int32) : Prop := g5 a 0 = 3 → Ou2 b → ¬ g5 a 1 = g5 b 1
def LiK (fl kn : List (List Int32)) : Prop := kn.Nodup ∧ ∀ k ∈ kn, ∃ f ∈ fl, k = [g5 f 0] ∧ g5 f 2 = 2
def LiT (N : Nat) (fl qu dn up kn : List (List Int32)) : Prop := LiF N fl ∧ (∀ q ∈ qu, g5 q 1 = 1 ∨ g5 q 1 = 2) ∧ (∀ d ∈ dn, LiD N fl d) ∧ dn.Pairwise LiO ∧ (∀ u ∈ up, LiU N fl dn kn u) ∧ LiK fl kn
def LI (B : Nat) (cl : Cl) : Prop := ∃ N, N ≤ B ∧ cl.1 9 = nI N ∧ LiT N (cl.2 4) (cl.2 5) (cl.2 6) (cl.2 7) (cl.2 8)
theorem LI.cgr {B : Nat} {cl cl' : Cl} (h : LI B cl) (e9 : cl'.1 9 = cl.1 9) (e4 : cl'.2 4 = cl.2 4) (e5 : cl'.2 5 = cl.2 5) (e6 : cl'.2 6 = cl.2 6) (e7 : cl'.2 7 = cl.2 7) (e8 : cl'.2 8 = cl.2 8) : LI B cl' := by
  unfold LI
  rw [e9, e4, e5, e6, e7, e8]
  exact h
theorem LI.mono {B C : Nat} {cl : Cl} (h : LI B cl) (e : B ≤ C) : LI C cl := by
  obtain ⟨N, h1, h2, h3⟩ := h
  exact ⟨N, by omega, h2, h3⟩
theorem Lo.mono {N M : Nat} {x : Int32} (h : Lo N x) (e : N ≤ M) : Lo M x := by
  obtain ⟨m, h1, h2⟩ := h
  exact ⟨m, by omega, h2⟩
theorem Lo.ne {N : Nat} {x : Int32} (h : Lo N x) (hN : N < 2 ^ 31) : ¬ x = nI N := by
  obtain ⟨m, h1, h2⟩ := h
  intro z
  rw [h2] at z
  have := (nI_eq (by omega) (by omega)).mp z
  omega
theorem pw_eq {l : List (List Int32)} (h : l.Pairwise (fun a b => ¬ g5 a 0 = g5 b 0)) : ∀ a ∈ l, ∀ b ∈ l, g5 a 0 = g5 b 0 → a = b := by
  induction l with
  | nil => intro a ha; cases ha
  | cons x l ih =>
    rw [List.pairwise_cons] at h
    intro a ha b hb e
    rcases List.mem_cons.mp ha with q1 | q1
    · rcases List.mem_cons.mp hb with q2 | q2
      · rw [q1, q2]
      · rw [q1] at e
        exact absurd e (h.1 b q2)
    · rcases List.mem_cons.mp hb with q2 | q2
      · rw [q2] at e
        exact absurd e.symm (h.1 a q1)
      · exact ih h.2 a q1 b q2 e
/-- a packet down is added -/
theorem LiT.dn {N : Nat} {fl qu dn up kn : List (List Int32)} {r : List Int32} (h : LiT N fl qu dn up kn) (h1 : LiD N fl r) (h2 : ∀ a ∈ dn, LiO a r) (h3 : Ou2 r → ∀ u ∈ up, g5 u 0 = 4 → ¬ g5 r 1 = g5 u 1) : LiT N fl qu (dn ++ [r]) up kn := by
  obtain ⟨a, b, c, d, e, f⟩ := h
  refine ⟨a, b, ?_, ?_, ?_, f⟩
  · intro x hx
    rcases List.mem_append.mp hx with q | q
    · exact c x q
    · rw [List.mem_singleton] at q
      rw [q]
      exact h1
  · rw [List.pairwise_append]
    refine ⟨d, by simp, fun x hx y hy => ?_⟩
    rw [List.mem_singleton] at hy
    rw [hy]
    exact h2 x hx
  · intro u hu
    rcases e u hu with q | q | ⟨q1, q2, q3, q4, q5⟩
    · exact Or.inl q
    · exact Or.inr (Or.inl q)
    · refine Or.inr (Or.inr ⟨q1, q2, q3, q4, fun y hy o => ?_⟩)
      rcases List.mem_append.mp hy with z | z
      · exact q5 y z o
      · rw [List.mem_singleton] at z
        rw [z] at o ⊢
        exact h3 o u hu q1
theorem LI.pd {B : Nat} {cl : Cl} {r : List Int32} (h : LI B cl) (hr : ∀ N, LiT N (cl.2 4) (cl.2 5) (cl.2 6) (cl.2 7) (cl.2 8) → LiD N (cl.2 4) r ∧ (∀ a ∈ cl.2 6, LiO a r) ∧ (Ou2 r → ∀ u ∈ cl.2 7, g5 u 0 = 4 → ¬ g5 r 1 = g5 u 1)) : LI B (A_pd cl r) := by
  obtain ⟨N, h1, h2, h3⟩ := h
  unfold A_pd
  split
  · have z := hr N h3
    have w := h3.dn z.1 z.2.1 z.2.2
    refine ⟨N, h1, h2, ?_⟩
    rw [sT_ne (by omega), sT_ne (by omega), sT_eq, sT_ne (by omega), sT_ne (by omega)]
    exact w
  · exact ⟨N, h1, h2, h3⟩
theorem LI.sends {B i : Nat} {cl : Cl} (h : LI B cl) (hi : i < (cl.2 4).length) : LI B (A_sends cl i) := by
  have hm := gr_mem hi
  unfold A_sends
  generalize gr (cl.2 4) i = f at hm ⊢
  split
  · rename_i h5
    refine h.pd (fun N t => ⟨Or.inr ⟨rfl, (t.1.1 f hm).1, fun f' hf' e => ?_⟩, fun a ha _ o => ?_, fun o => ?_⟩)
    · have : f' = f := pw_eq t.1.2 f' hf' f hm e
      rw [this]
      exact h5
    · exact absurd o.1 (show ¬ (3 : Int32) = 0 by decide)
    · exact absurd o.1 (show ¬ (3 : Int32) = 0 by decide)
  · rename_i h5
    refine h.pd (fun N t => ⟨Or.inl ⟨rfl, ?_⟩, fun a ha a3 o q => ?_, fun o u hu u4 q => ?_⟩)
    · rcases (t.1.1 f hm).2.1 with e | e
      · exact Or.inr (Or.inl e)
      · exact Or.inr (Or.inr ⟨e, f, hm, rfl, e⟩)
    · rcases t.2.2.1 a ha with z | z
      · rw [z.1] at a3
        exact absurd a3 (by decide)
      · exact h5 (z.2.2 f hm q.symm)
    · rcases t.2.2.2.2.1 u hu with z | z | z
      · rw [z] at u4
        exact absurd u4 (by decide)
      · rw [z] at u4
        exact absurd u4 (by decide)
      · exact h5 (z.2.2.1 f hm q)
/-- a new one in flight -/
theorem LiT.fl {N : Nat} {fl qu dn up kn : List (List Int32)} {f : List Int32} (h : LiT N fl qu dn up kn) (hN : N < 2 ^ 31) (h0 : g5 f 0 = nI N) (h2 : g5 f 2 = 1 ∨ g5 f 2 = 2) (h5 : ¬ g5 f 5 = 1) : LiT (N + 1) (fl ++ [f]) qu dn up kn := by
  obtain ⟨⟨a1, a2⟩, b, c, d, e, k1, k2⟩ := h
  have old : ∀ x : Int32, Lo N x → ∀ f' ∈ fl ++ [f], g5 f' 0 = x → f' ∈ fl := by
    intro x hx f' hf' ex
    rcases List.mem_append.mp hf' with q | q
    · exact q
    · rw [List.mem_singleton] at q
      rw [q, h0] at ex
      exact absurd ex.symm (hx.ne hN)
  refine ⟨⟨fun x hx => ?_, ?_⟩, b, fun x hx => ?_, d, fun u hu => ?_, k1, fun k hk => ?_⟩
  · rcases List.mem_append.mp hx with q | q
    · exact ⟨(a1 x q).1.mono (by omega), (a1 x q).2⟩
    · rw [List.mem_singleton] at q
      rw [q]
      exact ⟨⟨N, by omega, h0⟩, h2, fun z => absurd z h5⟩
  · rw [List.pairwise_append]
    refine ⟨a2, by simp, fun x hx y hy => ?_⟩
    rw [List.mem_singleton] at hy
    rw [hy, h0]
    exact (a1 x hx).1.ne hN
  · rcases c x hx with ⟨q0, q⟩ | ⟨q0, q1, q2⟩
    · refine Or.inl ⟨q0, ?_⟩
      rcases q with q | q | ⟨q, f', hf', q'⟩
      · exact Or.inl q
      · exact Or.inr (Or.inl q)
      · exact Or.inr (Or.inr ⟨q, f', List.mem_append_left _ hf', q'⟩)
    · exact Or.inr ⟨q0, q1.mono (by omega), fun f' hf' ef => q2 f' (old _ q1 f' hf' ef) ef⟩
  · rcases e u hu with q | q | ⟨q1, q2, q3, q4, q5⟩
    · exact Or.inl q
    · exact Or.inr (Or.inl q)
    · exact Or.inr (Or.inr ⟨q1, q2.mono (by omega), fun f' hf' ef => q3 f' (old _ q2 f' hf' ef) ef, q4, q5⟩)
  · obtain ⟨f', hf', q⟩ := k2 k hk
    exact ⟨f', List.mem_append_left _ hf', q⟩
theorem LI.flies {B : Nat} {cl : Cl} (h : LI B cl) (hB : B < 2 ^ 31 - 1) (l p v k : Int32) (hp : p = 1 ∨ p = 2) : LI (B + 1) (A_flies cl l p v k) := by
  obtain ⟨N, h1, h2, h3⟩ := h
  unfold A_flies
  refine LI.sends ⟨N + 1, by omega, ?_, ?_⟩ ?_
  · rw [sS_eq, h2, li_1, nI_add]
  · rw [sS_2, sT_eq, sT_ne (by omega), sT_ne (by omega), sT_ne (by omega), sT_ne (by omega)]
    exact h3.fl (by omega) h2 hp (show ¬ (0 : Int32) = 1 by decide)
  · rw [sS_2, sT_eq]
    simp
theorem LI.qu {B : Nat} {cl : Cl} {qs : List (List Int32)} (h : LI B cl) (hq : ∀ q ∈ qs, g5 q 1 = 1 ∨ g5 q 1 = 2) : LI B (sT cl 5 qs) := by
  obtain ⟨N, h1, h2, h3⟩ := h
  refine ⟨N, h1, h2, ?_⟩
  rw [sT_eq, sT_ne (by omega), sT_ne (by omega), sT_ne (by omega), sT_ne (by omega)]
  exact ⟨h3.1, hq, h3.2.2⟩
theorem LI.q5 {B : Nat} {cl : Cl} (h : LI B cl) : ∀ q ∈ cl.2 5, g5 q 1 = 1 ∨ g5 q 1 = 2 := by
  obtain ⟨N, h1, h2, h3⟩ := h
  exact h3.2.1
theorem LI.qgoL : ∀ (qs : List (List Int32)) (B : Nat) (cl : Cl), LI B cl → (∀ q ∈ qs, g5 q 1 = 1 ∨ g5 q 1 = 2) → B + qs.length < 2 ^ 31 - 1 → LI (B + qs.length) (A_qgoL qs cl)
  | [], B, cl, h, _, _ => h
  | q :: qs, B, cl, h, hq, hB => by
    have hl : (q :: qs).length = qs.length + 1 := rfl
    rw [hl] at hB ⊢
    unfold A_qgoL
    split
    · have z := (h.qu (qs := qs) (fun x hx => hq x (List.mem_cons_of_mem _ hx))).flies (by omega) (g5 q 0) (g5 q 1) (g5 q 2) (g5 q 3) (hq q List.mem_cons_self)
      have w := LI.qgoL qs (B + 1) _ z (fun x hx => hq x (List.mem_cons_of_mem _ hx)) (by omega)
      rw [show B + (qs.length + 1) = B + 1 + qs.length by omega]
      exact w
    · exact h.mono (by omega)
theorem LI.goes {B : Nat} {cl : Cl} (h : LI B cl) (hB : B < 2 ^ 31 - 1) (l p v k : Int32) (hp : pOk p) : LI (B + 1) (A_goes cl l p v k) := by
  unfold A_goes
  have h1 : LI B (sS cl 50 (cl.1 50 + 1)) := h.cgr (sS_ne (by omega)) rfl rfl rfl rfl rfl
  generalize sS cl 50 (cl.1 50 + 1) = cl1 at h1 ⊢
  unfold A_goes1
  by_cases p0 : p = 0
  · rw [if_pos p0]
    split
    · refine (h1.pd (fun N t => ⟨Or.inl ⟨rfl, Or.inl rfl⟩, fun a ha _ o => ?_, fun o => ?_⟩)).mono (by omega)
      · exact absurd o.2 (show ¬ (0 : Int32) = 2 by decide)
      · exact absurd o.2 (show ¬ (0 : Int32) = 2 by decide)
    · exact (h1.cgr (sS_ne (by omega)) rfl rfl rfl rfl rfl).mono (by omega)
  · rw [if_neg p0]
    have p12 : p = 1 ∨ p = 2 := by
      rcases hp with q | q | q
      · exact absurd q p0
      · exact Or.inl q
      · exact Or.inr q
    split
    · exact h1.flies hB l p v k p12
    · split
      · refine (h1.qu (fun q hq => ?_)).mono (by omega)
        rcases List.mem_append.mp hq with z | z
        · exact h1.q5 q z
        · rw [List.mem_singleton] at z
          rw [z]
          exact p12
      · exact (h1.cgr (sS_ne (by omega)) rfl rfl rfl rfl rfl).mono (by omega)
theorem LI.snd {B : Nat} : ∀ (d i : Nat) (cl : Cl), LI B cl → i + d = (cl.2 4).length → LI B (A_snd d i cl)
  | 0, _, _, h, _ => h
  | d + 1, i, cl, h, e => by
    unfold A_snd
    exact LI.snd d (i + 1) _ (h.sends (by omega)) (by rw [A_sends_ne (by omega)]; omega)
theorem LI.lines {B : Nat} {cl : Cl} (h : LI B cl) : LI B (sT (sT cl 6 []) 7 []) := by
  obtain ⟨N, h1, h2, h3⟩ := h
  refine ⟨N, h1, h2, ?_⟩
  rw [sT_ne (by omega), sT_ne (by omega), sT_ne (by omega), sT_ne (by omega), sT_ne (by omega), sT_eq, sT_eq, sT_ne (by omega), sT_ne (by omega)]
  exact ⟨h3.1, h3.2.1, fun d hd => (by cases hd), List.Pairwise.nil, fun u hu => (by cases hu), h3.2.2.2.2.2⟩
theorem LI.empty {B : Nat} {cl : Cl} (hB : 1 ≤ B) (e9 : cl.1 9 = 1) (e4 : cl.2 4 = []) (e5 : cl.2 5 = []) (e6 : cl.2 6 = []) (e7 : cl.2 7 = []) (e8 : cl.2 8 = []) : LI B cl := by
  refine ⟨1, hB, e9, ?_⟩
  rw [e4, e5, e6, e7, e8]
  exact ⟨⟨fun x hx => (by cases hx), List.Pairwise.nil⟩, fun x hx => (by cases hx), fun x hx => (by cases hx), List.Pairwise.nil, fun x hx => (by cases hx), List.Pairwise.nil, fun x hx => (by cases hx)⟩
