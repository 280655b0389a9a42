/-! shares: what stays true of them -/
theorem ahF_irr (a : Nat → Int32) : ∀ d k, ahF a a d k = false
  | 0, _ => rfl
  | d + 1, k => by unfold ahF; rw [if_pos rfl]; exact ahF_irr a d (k + 1)
theorem ahF_tr {a b c : Nat → Int32} : ∀ d k, ahF a b d k = true → ahF b c d k = true → ahF a c d k = true
  | 0, _, h, _ => by cases h
  | d + 1, k, h1, h2 => by
    unfold ahF at h1 h2 ⊢
    by_cases e1 : a k = b k
    · rw [if_pos e1] at h1
      rw [e1]
      by_cases e2 : b k = c k
      · rw [if_pos e2] at h2 ⊢
        exact ahF_tr d (k + 1) h1 h2
      · rw [if_neg e2] at h2 ⊢
        exact h2
    · rw [if_neg e1] at h1
      have l1 := of_decide_eq_true h1
      by_cases e2 : b k = c k
      · rw [if_pos e2] at h2
        rw [← e2, if_neg e1]
        exact h1
      · rw [if_neg e2] at h2
        have l2 := of_decide_eq_true h2
        have l3 := Int32.lt_trans l1 l2
        rw [if_neg (fun z => by rw [z] at l3; exact absurd l3 (Int32.lt_irrefl))]
        exact decide_eq_true l3
/-- the subscriptions of those that have a session -/
def rws (cl : Cl) : List (List Int32) := if cl.1 0 = 0 then [] else cl.2 3
def arw (cls : Nat → Cl) : List (List Int32) := rws (cls 0) ++ rws (cls 1) ++ rws (cls 2) ++ rws (cls 3) ++ rws (cls 4) ++ rws (cls 5)
theorem arw_mem {cls : Nat → Cl} {r : List Int32} : r ∈ arw cls ↔ ∃ c, c < 6 ∧ ¬ (cls c).1 0 = 0 ∧ r ∈ (cls c).2 3 := by
  have hr : ∀ cl : Cl, r ∈ rws cl ↔ ¬ cl.1 0 = 0 ∧ r ∈ cl.2 3 := by
    intro cl
    unfold rws
    by_cases e : cl.1 0 = 0 <;> simp [e]
  unfold arw
  simp only [List.mem_append, hr]
  constructor
  · rintro (((((h | h) | h) | h) | h) | h)
    · exact ⟨0, by omega, h⟩
    · exact ⟨1, by omega, h⟩
    · exact ⟨2, by omega, h⟩
    · exact ⟨3, by omega, h⟩
    · exact ⟨4, by omega, h⟩
    · exact ⟨5, by omega, h⟩
  · rintro ⟨c, hc, h⟩
    rcases (show c = 0 ∨ c = 1 ∨ c = 2 ∨ c = 3 ∨ c = 4 ∨ c = 5 by omega) with rfl | rfl | rfl | rfl | rfl | rfl
    · exact Or.inl (Or.inl (Or.inl (Or.inl (Or.inl h))))
    · exact Or.inl (Or.inl (Or.inl (Or.inl (Or.inr h))))
    · exact Or.inl (Or.inl (Or.inl (Or.inr h)))
    · exact Or.inl (Or.inl (Or.inr h))
    · exact Or.inl (Or.inr h)
    · exact Or.inr h
theorem nsS_inv {beh : Nat → Int32} {X : List Int32 → Prop} : ∀ (rows : List (List Int32)) (s : Bool × (Nat → Int32)), (∀ r ∈ rows, X r) → (s.1 = true → ∃ r, X r ∧ s.2 = skey r ∧ 0 < g5 r 5 ∧ ahd beh (skey r) = true) → (rows.foldl (nsS beh) s).1 = true → ∃ r, X r ∧ (rows.foldl (nsS beh) s).2 = skey r ∧ 0 < g5 r 5 ∧ ahd beh (skey r) = true
  | [], s, _, h, h1 => h h1
  | r :: rows, s, hX, h, h1 => by
    rw [List.foldl_cons] at h1 ⊢
    refine nsS_inv rows _ (fun q hq => hX q (List.mem_cons_of_mem _ hq)) ?_ h1
    intro h2
    unfold nsS at h2 ⊢
    by_cases e : (decide (0 < g5 r 5) && ahd beh (skey r) && (!s.1 || ahd (skey r) s.2)) = true
    · rw [if_pos e]
      simp only [Bool.and_eq_true, decide_eq_true_eq] at e
      exact ⟨r, hX r List.mem_cons_self, rfl, e.1.1, e.1.2⟩
    · rw [if_neg e] at h2 ⊢
      exact h h2
theorem nsF_inv {beh : Nat → Int32} {cls : Nat → Cl} : ∀ (d c : Nat) (s : Bool × (Nat → Int32)), c + d = 6 → (s.1 = true → ∃ r, r ∈ arw cls ∧ s.2 = skey r ∧ 0 < g5 r 5 ∧ ahd beh (skey r) = true) → (nsF beh cls d c s).1 = true → ∃ r, r ∈ arw cls ∧ (nsF beh cls d c s).2 = skey r ∧ 0 < g5 r 5 ∧ ahd beh (skey r) = true
  | 0, c, s, _, h, h1 => h h1
  | d + 1, c, s, hc, h, h1 => by
    unfold nsF at h1 ⊢
    refine nsF_inv d (c + 1) _ (by omega) ?_ h1
    intro h2
    unfold nsC at h2 ⊢
    by_cases e : (cls c).1 0 = 0
    · rw [if_pos e] at h2 ⊢
      exact h h2
    · rw [if_neg e] at h2 ⊢
      exact nsS_inv (X := fun r => r ∈ arw cls) _ s (fun r hr => arw_mem.mpr ⟨c, by omega, e, hr⟩) h h2
theorem nsA_inv {cls : Nat → Cl} {sh : Nat → Int32} (h : (nsA cls sh).1 = true) : ∃ r, r ∈ arw cls ∧ (nsA cls sh).2 = skey r ∧ 0 < g5 r 5 ∧ ahd sh (skey r) = true := nsF_inv 6 0 (false, sh) rfl (fun z => by cases z) h
def cntS (cls : Nat → Cl) (sh : Nat → Int32) : Nat := (arw cls).countP (fun r => ahd sh (skey r))
theorem countP_lt {α : Type} {p q : α → Bool} : ∀ (l : List α) (x : α), x ∈ l → p x = true → q x = false → (∀ y, q y = true → p y = true) → l.countP q < l.countP p
  | [], x, hx, _, _, _ => by cases hx
  | y :: l, x, hx, h1, h2, h3 => by
    have hle : l.countP q ≤ l.countP p := List.countP_mono_left (fun z _ => h3 z)
    rcases List.mem_cons.mp hx with rfl | hx
    · rw [List.countP_cons_of_pos h1, List.countP_cons_of_neg (by rw [h2]; decide)]
      omega
    · have ih := countP_lt l x hx h1 h2 h3
      by_cases e : q y = true
      · rw [List.countP_cons_of_pos e, List.countP_cons_of_pos (h3 y e)]
        omega
      · rw [List.countP_cons_of_neg e]
        by_cases e2 : p y = true
        · rw [List.countP_cons_of_pos e2]; omega
        · rw [List.countP_cons_of_neg e2]; exact ih
theorem cntS_lt {cls : Nat → Cl} {sh : Nat → Int32} (h : (nsA cls sh).1 = true) : cntS cls (nsA cls sh).2 < cntS cls sh := by
  obtain ⟨r, h1, h2, h3, h4⟩ := nsA_inv h
  rw [h2]
  exact countP_lt _ r h1 h4 (ahF_irr _ 5 0) (fun y hy => ahF_tr 5 0 h4 hy)
/-- keys as five numbers -/
def k5 (k : Nat → Int32) : List Int32 := [k 0, k 1, k 2, k 3, k 4]
theorem k5_eq {a b : Nat → Int32} : k5 a = k5 b ↔ ∀ j, j < 5 → a j = b j := by
  unfold k5
  constructor
  · intro h j hj
    simp only [List.cons.injEq, and_true] at h
    rcases (show j = 0 ∨ j = 1 ∨ j = 2 ∨ j = 3 ∨ j = 4 by omega) with rfl | rfl | rfl | rfl | rfl
    · exact h.1
    · exact h.2.1
    · exact h.2.2.1
    · exact h.2.2.2.1
    · exact h.2.2.2.2
  · intro h
    rw [h 0 (by omega), h 1 (by omega), h 2 (by omega), h 3 (by omega), h 4 (by omega)]
theorem nd_len {α : Type} [DecidableEq α] : ∀ (l L : List α), l.Nodup → (∀ x ∈ l, x ∈ L) → l.length ≤ L.length
  | [], _, _, _ => Nat.zero_le _
  | x :: l, L, hn, hs => by
    have hx := hs x List.mem_cons_self
    obtain ⟨n1, n2⟩ := List.nodup_cons.mp hn
    have ih := nd_len l (L.erase x) n2 (fun y hy => (List.mem_erase_of_ne (show y ≠ x from fun e => n1 (by rw [← e]; exact hy))).mpr (hs y (List.mem_cons_of_mem _ hy)))
    have hl := List.length_erase_of_mem hx
    have : 0 < L.length := List.length_pos_of_mem hx
    rw [List.length_cons]
    omega
def ShOk (st : St) : Prop := HdOk (st.2.1 7) ∧ (∀ c, c < 6 → ((st.2.2 c).1 0 = 0 ∨ (st.2.2 c).1 0 = 1 ∨ (st.2.2 c).1 0 = 2) ∧ ((st.2.2 c).2 3).length ≤ 6) ∧ ((st.2.1 7).map (fun r => k5 (g5 r))).Nodup ∧ ∀ r ∈ st.2.1 7, k5 (g5 r) ∈ (arw st.2.2).map (fun r => k5 (skey r))
theorem arw_len {cls : Nat → Cl} (h : ∀ c, c < 6 → ((cls c).2 3).length ≤ 6) : (arw cls).length ≤ 36 := by
  have hr : ∀ c, c < 6 → (rws (cls c)).length ≤ 6 := by
    intro c hc
    unfold rws
    split
    · simp
    · exact h c hc
  have a0 := hr 0 (by omega)
  have a1 := hr 1 (by omega)
  have a2 := hr 2 (by omega)
  have a3 := hr 3 (by omega)
  have a4 := hr 4 (by omega)
  have a5 := hr 5 (by omega)
  unfold arw
  simp only [List.length_append]
  omega
theorem hdIx_none {rows : List (List Int32)} {key : Nat → Int32} (hl : rows.length < 2 ^ 31) (h : hdIx rows key = -4) : k5 key ∉ rows.map (fun r => k5 (g5 r)) := by
  intro hm
  obtain ⟨r, hr, e⟩ := List.mem_map.mp hm
  obtain ⟨i, hi, er⟩ := List.getElem_of_mem hr
  unfold hdIx at h
  rcases sIx_spec (-4) (hPt rows key) rows.length 0 with ⟨_, h2⟩ | ⟨j, h1, h2, h3, h4, h5⟩
  · have z := h2 i (by omega) (by omega)
    have eg : gr rows i = r := by rw [← er]; simp [gr, List.getD, List.getElem?_eq_getElem hi]
    have e5 := k5_eq.mp e
    unfold hPt at z
    rw [eg] at z
    simp only [smF, Nat.zero_add, Nat.reduceAdd, e5 0 (by omega), e5 1 (by omega), e5 2 (by omega), e5 3 (by omega), e5 4 (by omega)] at z
    simp at z
  · rw [h3] at h
    exact nI_ne4 (by omega) h
theorem ShOk.room {st : St} (S : ShOk st) {r : List Int32} (hr : r ∈ arw st.2.2) (h : hdIx (st.2.1 7) (skey r) = -4) : (st.2.1 7).length < 36 := by
  obtain ⟨s1, s2, s3, s4⟩ := S
  have hA : (arw st.2.2).length ≤ 36 := arw_len (fun c hc => (s2 c hc).2)
  have h0 : (st.2.1 7).length ≤ 36 := by
    have z := nd_len _ ((arw st.2.2).map (fun r => k5 (skey r))) s3 (fun x hx => by
      obtain ⟨q, hq, e⟩ := List.mem_map.mp hx
      rw [← e]
      exact s4 q hq)
    rw [List.length_map, List.length_map] at z
    omega
  have hn := hdIx_none (by omega) h
  have z := nd_len (k5 (skey r) :: (st.2.1 7).map (fun r => k5 (g5 r))) ((arw st.2.2).map (fun r => k5 (skey r))) (List.nodup_cons.mpr ⟨hn, s3⟩) (fun x hx => by
    rcases List.mem_cons.mp hx with rfl | hx
    · exact List.mem_map.mpr ⟨r, hr, rfl⟩
    · obtain ⟨q, hq, e⟩ := List.mem_map.mp hx
      rw [← e]
      exact s4 q hq)
  rw [List.length_cons, List.length_map, List.length_map] at z
  omega
theorem sP_self {rows : List (List Int32)} {i : Nat} : sP rows (fun k => skey (gr rows i) (1 + k)) (skey (gr rows i) 0) i = true := by
  unfold sP sm4 skey
  simp
theorem memIx_some {cl : Cl} {r : List Int32} (h0 : ¬ cl.1 0 = 0) (hr : r ∈ cl.2 3) (hl : (cl.2 3).length ≤ 6) : ¬ memIx cl (skey r) = -4 := by
  obtain ⟨i, hi, er⟩ := List.getElem_of_mem hr
  have eg : gr (cl.2 3) i = r := by rw [← er]; simp [gr, List.getD, List.getElem?_eq_getElem hi]
  unfold memIx
  rw [if_neg h0]
  unfold sbIx
  rcases sIx_spec (-4) (sP (cl.2 3) (fun k => skey r (1 + k)) (skey r 0)) (cl.2 3).length 0 with ⟨_, h2⟩ | ⟨j, h1, h2, h3, h4, h5⟩
  · have z := h2 i (by omega) (by omega)
    rw [← eg, sP_self] at z
    cases z
  · rw [h3]
    exact nI_ne4 (by omega)
theorem tuF_some {cls : Nat → Cl} {key : Nat → Int32} {fr : Nat} {s : Int32} : ∀ (d k j : Nat), k ≤ j → j < k + d → tPt cls key fr s j = true → ¬ tuF cls key fr s d k = -4
  | 0, k, j, h1, h2, _ => by omega
  | d + 1, k, j, h1, h2, h3 => by
    unfold tuF
    by_cases e : tPt cls key fr s k = true
    · rw [if_pos e]
      exact nI_ne4 (by omega)
    · rw [if_neg e]
      have hne : j ≠ k := fun z => e (z ▸ h3)
      exact tuF_some d (k + 1) j (by omega) (by omega) h3
theorem shC_some {st : St} {key : Nat → Int32} {c : Nat} (hc : c < 6) (h1 : (st.2.2 c).1 0 = 1 ∨ (st.2.2 c).1 0 = 2) (h2 : ¬ memIx (st.2.2 c) key = -4) : ¬ shC st key = -4 := by
  have hk : ∃ k, 1 ≤ k ∧ k < 7 ∧ (shFr (st.2.1 7) key + k) % 6 = c := by
    have := Nat.mod_lt (shFr (st.2.1 7) key) (show 0 < 6 by omega)
    by_cases e : shFr (st.2.1 7) key % 6 < c
    · exact ⟨c - shFr (st.2.1 7) key % 6, by omega, by omega, by omega⟩
    · exact ⟨c + 6 - shFr (st.2.1 7) key % 6, by omega, by omega, by omega⟩
  obtain ⟨k, k1, k2, k3⟩ := hk
  unfold shC
  by_cases e : tuA st.2.2 key (shFr (st.2.1 7) key) 1 = -4
  · rw [if_pos e]
    have hs : (st.2.2 c).1 0 = 2 := by
      rcases h1 with h1 | h1
      · exact absurd e (tuF_some 6 1 k k1 (by omega) (by unfold tPt; rw [k3]; simp [h1, h2]))
      · exact h1
    exact tuF_some 6 1 k k1 (by omega) (by unfold tPt; rw [k3]; simp [hs, h2])
  · rw [if_neg e]
    exact e
theorem ShOk.who {st : St} (S : ShOk st) {r : List Int32} (hr : r ∈ arw st.2.2) : ¬ shC st (skey r) = -4 := by
  obtain ⟨c, hc, h0, hm⟩ := arw_mem.mp hr
  have z := (S.2.1 c hc).1
  exact shC_some hc (z.resolve_left h0) (memIx_some h0 hm (S.2.1 c hc).2)
