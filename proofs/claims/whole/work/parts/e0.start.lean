/-! the law from its entry -/
theorem K_ini {s : State} {A : Array Value} (htl : ∀ w ∈ lw_tbl, w.before A s = true) : ∃ (D : va_G) (cA : Nat → ClassId), ∀ G : xG, G.2.1 = D → G.2.2.1 = cA → va_K G.2.1 vwCl (xtys G) s := by
  have htx : ∀ w ∈ xgt, w.before A s = true := fun w hw => htl w (List.mem_filter.mp hw).1
  obtain ⟨c0, i0, k0⟩ := u_known (C := RX0) (T := TX0) (N := 17) (n := 17) htx xin_0 (htl _ (List.mem_append_right _ (List.mem_append_left _ (List.mem_of_getElem? (i := 78) rfl))))
  obtain ⟨c1, i1, k1⟩ := u_known (C := RX2) (T := TX2) (N := 9) (n := 9) htx xin_1 (htl _ (List.mem_append_right _ (List.mem_append_left _ (List.mem_of_getElem? (i := 25) rfl))))
  obtain ⟨c2, i2, k2⟩ := u_known (C := RX3) (T := TX3) (N := 4) (n := 4) htx xin_2 (htl _ (List.mem_append_right _ (List.mem_append_left _ (List.mem_of_getElem? (i := 54) rfl))))
  obtain ⟨c3, i3, k3⟩ := u_known (C := RX4) (T := TX4) (N := 2) (n := 2) htx xin_3 (htl _ (List.mem_append_right _ (List.mem_append_left _ (List.mem_of_getElem? (i := 31) rfl))))
  obtain ⟨c4, i4, k4⟩ := u_known (C := RX5) (T := TX5) (N := 7) (n := 7) htx xin_4 (htl _ (List.mem_append_right _ (List.mem_append_left _ (List.mem_of_getElem? (i := 86) rfl))))
  obtain ⟨c5, i5, k5⟩ := u_known (C := RX6) (T := TX6) (N := 5) (n := 5) htx xin_5 (htl _ (List.mem_append_right _ (List.mem_append_left _ (List.mem_of_getElem? (i := 46) rfl))))
  obtain ⟨c6, i6, k6⟩ := u_known (C := RX7) (T := TX7) (N := 7) (n := 7) htx xin_6 (htl _ (List.mem_append_right _ (List.mem_append_left _ (List.mem_of_getElem? (i := 17) rfl))))
  obtain ⟨c7, i7, k7⟩ := u_known (C := RX8) (T := TX8) (N := 23) (n := 23) htx xin_7 (htl _ (List.mem_append_right _ (List.mem_append_right _ (List.mem_append_right _ (List.mem_append_right _ (List.mem_append_left _ (List.mem_of_getElem? (i := 107) rfl)))))))
  obtain ⟨aI, kI, pI, f1, f2, f3⟩ := Cond.arrayClass_spec ((htl _ (List.mem_append_right _ (List.mem_append_left _ (List.mem_of_getElem? (i := 44) rfl)))) : (Cond.arrayClass .int).before A s = true)
  obtain ⟨aZ, kZ, pZ, g1, g2, g3⟩ := Cond.arrayClass_spec ((htl _ (List.mem_append_right _ (List.mem_append_right _ (List.mem_append_left _ (List.mem_of_getElem? (i := 24) rfl))))) : (Cond.arrayClass .boolean).before A s = true)
  obtain ⟨pC, aC, kC, uC1, -, uC3, uC4, uC5⟩ := Cond.arrayOver_spec ((htl _ (List.mem_append_right _ (List.mem_append_left _ (List.mem_of_getElem? (i := 52) rfl)))) : (Cond.arrayOver (.object "WildLevels$Client")).before A s = true)
  obtain ⟨pW, aW, kW, uW1, -, uW3, uW4, uW5⟩ := Cond.arrayOver_spec ((htl _ (List.mem_append_right _ (List.mem_append_right _ (List.mem_append_left _ (List.mem_of_getElem? (i := 1) rfl))))) : (Cond.arrayOver (.object "WildLevels$World")).before A s = true)
  refine ⟨(fun k => match k with | 0 => c0 | 1 => c1 | 2 => c2 | 3 => c3 | 4 => c4 | 5 => c5 | 6 => c6 | _ => c7, fun k => match k with | 0 => i0 | 1 => i1 | 2 => i2 | 3 => i3 | 4 => i4 | 5 => i5 | 6 => i6 | _ => i7), fun k => match k with | 0 => aI | 1 => aZ | 2 => aC | _ => aW, fun G e1 e2 => ?_⟩
  unfold xtys
  rw [e1, e2]
  refine ⟨fun k q hq => ?_, fun k q hq => ?_⟩
  · match k, hq with
    | 0, hq => cases hq; exact k0
    | 1, hq => cases hq; exact k1
    | 2, hq => cases hq; exact k2
    | 3, hq => cases hq; exact k3
    | 4, hq => cases hq; exact k4
    | 5, hq => cases hq; exact k5
    | 6, hq => cases hq; exact k6
    | 7, hq => cases hq; exact k7
    | k + 8, hq => simp [vwCl] at hq
  · match k, hq with
    | 0, hq => cases hq; exact ⟨fun N z => ⟨(fun k h => by cases h), kI, f2, pI, f3⟩, f1⟩
    | 1, hq => cases hq; exact ⟨fun N z => ⟨(fun k h => by cases h), kZ, g2, pZ, g3⟩, g1⟩
    | 2, hq => cases hq; exact ⟨fun N z => ⟨(fun k h => by cases h), kC, uC3, pC, uC4⟩, kC, pC, uC3, uC4, uC1, uC5⟩
    | 3, hq => cases hq; exact ⟨fun N z => ⟨(fun k h => by cases h), kW, uW3, pW, uW4⟩, kW, pW, uW3, uW4, uW1, uW5⟩
    | k + 4, hq => simp at hq
theorem N_ini {s : State} {A : Array Value} (htl : ∀ w ∈ lw_tbl, w.before A s = true) : xNest s := by
  intro w hw
  have h1 := htl w (List.mem_append_right _ (List.mem_filter.mp hw).1)
  have h2 := (List.mem_filter.mp hw).2
  match w, h1, h2 with
  | .fieldLinkNest .., h1, _ => exact va_Nw.of rfl h1
  | .methodLinkNest .., h1, _ => exact va_Nw.of rfl h1
theorem S_ini {s : State} {b : Nat} (htl : ∀ w ∈ lw_tbl, w.before #[Value.ref b] s = true) (hgv : (Jvm.Cond.and given_1 narrow_1).before #[Value.ref b] s = true) : ∃ adK adV : Nat → Nat, ∀ G : xG, G.2.2.2.1 = adK → G.2.2.2.2 = adV → (∀ q, xA G q → s.heap.size ≤ q) → xStr G s := by
  have hs := flat_of_before _ hgv
  have h3 : ∀ i : Nat, i < 2 → i = 0 ∨ i = 1 := fun i hi => by omega
  obtain ⟨adK, adV, hS, hE⟩ := vk_Sof (N := 2) (tm := fun i => if i = 0 then .string "WildLevels$Reader" 47 else .string "WildLevels$Reader" 56) (len := xsl) (byt := xsb) (A := fun q : Nat => s.heap.size ≤ q) (args := #[Value.ref b]) (s := s)
    (fun i hi => by rcases h3 i hi with rfl | rfl <;> decide)
    (fun i hi => by rcases h3 i hi with rfl | rfl <;> exact hs _ (by decide +kernel))
    (fun i hi => by rcases h3 i hi with rfl | rfl <;> exact hs _ (by decide +kernel))
    (fun i hi => by rcases h3 i hi with rfl | rfl <;> exact hs _ (by decide +kernel))
    (fun i hi => by rcases h3 i hi with rfl | rfl <;> exact hs _ (by decide +kernel))
    (fun i hi j hj => by
      rcases h3 i hi with rfl | rfl
      · rcases (show j = 0 ∨ j = 1 ∨ j = 2 by (have : j < 3 := hj); omega) with rfl | rfl | rfl <;> exact hs _ (by decide +kernel)
      · rcases (show j = 0 ∨ j = 1 ∨ j = 2 ∨ j = 3 by (have : j < 4 := hj); omega) with rfl | rfl | rfl | rfl <;> exact hs _ (by decide +kernel))
    (fun i j hi hj hne => by
      rcases h3 i hi with rfl | rfl <;> rcases h3 j hj with rfl | rfl
      · exact absurd rfl hne
      · first | exact Or.inl (hs _ (by decide +kernel)) | exact Or.inr (hs _ (by decide +kernel))
      · first | exact Or.inl (hs _ (by decide +kernel)) | exact Or.inr (hs _ (by decide +kernel))
      · exact absurd rfl hne)
    (fun a h1 h2 => Nat.not_le.mpr h1 h2)
  refine ⟨adK, adV, fun G e1 e2 hA => ?_⟩
  have hA' : ∀ a : Nat, a < s.heap.size → ¬ xA G a := fun a h1 h2 => Nat.not_le.mpr h1 (hA a h2)
  unfold xStr
  rw [e1, e2]
  refine ⟨hS.narrow hA, vk_R.of (A := #[Value.ref b]) (htl _ (List.mem_append_right _ (List.mem_append_right _ (List.mem_append_left _ (List.mem_of_getElem? (i := 103) rfl))))) (hE 0 (by decide)), vk_R.of (A := #[Value.ref b]) (htl _ (List.mem_append_right _ (List.mem_append_right _ (List.mem_append_left _ (List.mem_of_getElem? (i := 221) rfl))))) (hE 1 (by decide)), va_Zof (htl _ (List.mem_append_right _ (List.mem_append_right _ (List.mem_append_left _ (List.mem_of_getElem? (i := 117) rfl))))) (htl _ (List.mem_append_right _ (List.mem_append_left _ (List.mem_of_getElem? (i := 10) rfl)))) (va_eqi (hs _ (by decide +kernel))) hA', va_Zqof (htl _ (List.mem_append_right _ (List.mem_append_right _ (List.mem_append_left _ (List.mem_of_getElem? (i := 133) rfl))))) (htl _ (List.mem_append_right _ (List.mem_append_left _ (List.mem_of_getElem? (i := 12) rfl)))) (hs _ (by decide +kernel)) hA'⟩
theorem lkL_9 : Cond.methodLink R_law 9 yX7_init ∈ xgt := xgt_of (w := Cond.methodLink R_law 9 yX7_init) (List.mem_append_left _ (List.mem_of_getElem? (i := 18) rfl)) rfl
theorem lkL_12 : Cond.methodLink R_law 12 yX8_init ∈ xgt := xgt_of (w := Cond.methodLink R_law 12 yX8_init) (List.mem_append_right _ (List.mem_append_right _ (List.mem_append_right _ (List.mem_append_left _ (List.mem_of_getElem? (i := 108) rfl))))) rfl
