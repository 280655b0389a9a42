/-! constructors: the reference -/
theorem kd_390 : xkd 390 = 7 := by decide +kernel
def MN (G : xG) (fs : List Value) : Nat → va_E := fun j => if j = 390 then .inr (7, fs) else xE G h0 j
theorem MN_eq {G : xG} {fs : List Value} : MN G fs 390 = .inr (7, fs) := if_pos rfl
theorem MN_hi {G : xG} {fs : List Value} {j : Nat} (h : j ≠ 390) : MN G fs j = xE G h0 j := if_neg h
theorem MN_put {G : xG} {n : Nat} {fs fs' fs'' : List Value} (e : fs' = fs) : ∀ k, k < n → MN G fs' k = fe (MN G fs'') 390 (.inr (7, fs)) k := by
  intro k _
  subst e
  unfold fe MN
  by_cases h : k = 390 <;> simp [h]
theorem xwl_of {G : xG} (hz : Gz G) {H : Heap} {h : Mem} (P : ∀ k, k < 405 → va_at G.2.1 vwCl (G.1 0 + k, xE G h k) H) : va_P G.2.1 vwCl (xwl G h) H := by
  intro k q hq
  by_cases hk : k < xNC
  · rw [xwl_get G h hk] at hq
    cases hq
    have := P k hk
    rw [← hz k] at this
    exact this
  · simp [xwl, hk] at hq
theorem of_xwl {G : xG} (hz : Gz G) {H : Heap} {h : Mem} (P : va_P G.2.1 vwCl (xwl G h) H) : ∀ k, k < 405 → va_at G.2.1 vwCl (G.1 0 + k, xE G h k) H := by
  intro k hk
  rw [← hz k]
  exact P k _ (xwl_get G h hk)
theorem Gz.inj {G : xG} (hz : Gz G) : xInj G := by
  intro i j _ _ e
  rw [hz i, hz j] at e
  omega
theorem lkE_53 : Cond.methodLink RX8 53 yX8_empties ∈ xgt := xgt_of (w := Cond.methodLink RX8 53 yX8_empties) (List.mem_append_right _ (List.mem_append_right _ (List.mem_append_right _ (List.mem_append_left _ (List.mem_of_getElem? (i := 112) rfl))))) rfl
theorem k_emp {G : xG} {d mc ms : Nat} {ls : List (Nat × Value)} {h' : Mem} (hd1 : 1 ≤ d) (he : f_X8_empties 391 h0 = some ((), h')) : Rk G d mc ms FX8_init 405 (fun j => xE G h' j) mc ms 115 ls [.ref (G.1 391)] 405 (fun j => xE G h0 j) := by
  intro p l e s m args below meth c H locs lsA C hP hS hv
  have hM := c_X8_empties (G := G) 391 ⟨by decide, by decide +kernel⟩ h0 _ he l
  obtain ⟨⟨w1, w2, w4⟩, hds, h21⟩ := m_X8_empties
  obtain ⟨hx, hcb, hrn, hml, hown, hts, hN, hlocks, hK, hSt, hO, hz, -, hlo, hhi⟩ := id C
  have hG : GoodIn xgt (Cond.code yX8_empties FX8_empties.2.1 FX8_empties.2.2.1 FX8_empties.2.2.2 :: xgt) := fun w hw => (List.mem_cons.mp hw).elim (fun q => by rw [q]; exact xgt_good _ w1) (fun q => xgt_good w q)
  have hR : (xrm 0).frames + 1 ≤ (xrk d mc ms).frames ∧ 8 + (FX8_empties.2.2.1 + 11) + (xrm 0).locals ≤ (xrk d mc ms).locals := ⟨hd1, by show _ + 40 * 0 ≤ 40 * d; omega⟩
  have hpre : PreS s H (xPx G [.ref (G.1 391)] h0) [.ref (G.1 391)] := ⟨xPx_blind, fun U hU hW => ⟨rfl, by rw [hU]; exact xwl_of hz hP.2, va_K.moved hW.alike hK, hN.warm hW, hSt.warm hW (fun a h1 h2 => by rw [hU]; exact hS.2.1 a h1 (fun z => h2 (xA_of hz z (by omega)))), hz.inj⟩⟩
  have R := va_runS (p := p) (l := l) (e := e) (R := xrk d mc ms) (below := below) (meth := meth) (locs := locs) (cells := mc) (slots := ms) (g := F0 m 115 lsA [.ref (G.1 391)]) (As := [.ref (G.1 391)]) (rest := []) ⟨hx, hcb, hml, hown, hts⟩ hM ⟨callB_of 1 hts hG rfl rfl rfl (hts _ w4) (hts _ lkE_53) hds hR, hts _ w2⟩ hpre rfl rfl hv.1 rfl (lv_room (Nat.zero_le _)) dX8_init_115 ⟨Nat.le_refl _, Nat.le_refl _⟩
  have xa : ∀ q, xA G q → zA G q := fun q ⟨k, hk, e⟩ => by show G.1 0 ≤ q; rw [e, hz k]; omega
  intro T hT X
  obtain ⟨v, st₀, t, T', L, q0, X', hL, e1, e2, ⟨hq1, hq2, hz1, hk⟩, go⟩ := R T hT X
  cases hq1
  rw [q0] at hz1 hk
  have hS' : va_S (zA G) s.heap T'.heap (locs ++ L) := by
    refine ⟨Nat.le_trans hS.1 (by rw [e1]; exact hz1), fun q h1 h2 => ?_, fun q hq => ?_⟩
    · rw [e1, hk q (Nat.lt_of_lt_of_le h1 hS.1) (fun z => h2 (xa q z))]
      exact hS.2.1 q h1 h2
    · rcases List.mem_append.mp hq with z | z
      · exact hS.2.2 q z
      · exact xa _ (hL q z)
  have K : W p l e (xrk d mc ms) s m args below meth c T'.heap (locs ++ L) mc ms (MQ below (Qk G 405 (fun j => xE G h' j)) args s mc ms (zA G)) (F0 m 118 lsA []) :=
    W.vret hx hcb hrn (fun u hu _ => ⟨rfl, by rw [hu]; exact ⟨fun h => absurd h (by omega), of_xwl hz (by rw [e1]; exact hq2)⟩, hS'.F hu⟩) hS'.2.2 dX8_init_118 hlocks
  obtain ⟨t2, a1, b1⟩ := K T' rfl X'
  exact ⟨t2, go t2 a1, b1⟩
theorem xe_mo {G : xG} : xE G h0 390 = .inr (7, [.ref (G.1 391), .ref (G.1 392), .ref (G.1 393), .ref (G.1 394), .ref (G.1 395), .int 0, .ref (G.1 396), .int 0, .int 0, .int 0, .int 0, .int 0, .int 0, .int 0, .ref (G.1 397), .int 0, .ref (G.1 398), .ref (G.1 399), .ref (G.1 400), .ref (G.1 401), .ref (G.1 402), .ref (G.1 403), .ref (G.1 404)]) := by
  unfold xE
  rw [kd_390, if_pos (by decide)]
  simp [xfs, xfsL, xfl, xrf, xrfM, h0_ne, kd_390]
set_option maxHeartbeats 4000000 in
theorem s_model {G : xG} {h' : Mem} (he : f_X8_empties 391 h0 = some ((), h')) : Sk G 2 14 24539 yX8_init FX8_init [.ref (G.1 390)] 391 (MN G bl_X8) 405 (fun j => xE G h' j) := by
  refine Sk.of pn_X8 rfl rfl rfl (Nat.le_of_ble_eq_true rfl) rfl (fun hz => ?_)
  refine k_al dX8_init_0 rfl (place := 0) rfl ?_
  refine k_obj dX8_init_1 ob_X8 (by decide) (Nat.zero_le _) ?_
  refine k_al dX8_init_4 rfl (place := 0) rfl ?_
  refine k_si dX8_init_5 (v := nI 6074) (by decide +kernel) ?_
  refine k_newaI (N := 6074) dX8_init_8 ac_I (by decide +kernel) (by decide +kernel) (by decide) (by decide) (by decide) ?_
  refine k_cgr (one_id (E0 := MN G (bl_X8)) ((MN_hi (by decide)).trans (xe_arr (by decide +kernel) (by decide +kernel)))) ?_
  refine k_putF dX8_init_10 fq_X8_7 (by decide) MN_eq (Nat.le_of_ble_eq_true rfl) rfl rfl ?_
  refine k_cgr (MN_put (fs' := [.ref (G.1 391), .null, .null, .null, .null, .int 0, .null, .int 0, .int 0, .int 0, .int 0, .int 0, .int 0, .int 0, .null, .int 0, .null, .null, .null, .null, .null, .null, .null]) rfl) ?_
  refine k_al dX8_init_13 rfl (place := 0) rfl ?_
  refine k_si dX8_init_14 (v := nI 6074) (by decide +kernel) ?_
  refine k_newaI (N := 6074) dX8_init_17 ac_I (by decide +kernel) (by decide +kernel) (by decide) (by decide) (by decide) ?_
  refine k_cgr (one_id (E0 := MN G ([.ref (G.1 391), .null, .null, .null, .null, .int 0, .null, .int 0, .int 0, .int 0, .int 0, .int 0, .int 0, .int 0, .null, .int 0, .null, .null, .null, .null, .null, .null, .null])) ((MN_hi (by decide)).trans (xe_arr (by decide +kernel) (by decide +kernel)))) ?_
  refine k_putF dX8_init_19 fq_X8_13 (by decide) MN_eq (Nat.le_of_ble_eq_true rfl) rfl rfl ?_
  refine k_cgr (MN_put (fs' := [.ref (G.1 391), .ref (G.1 392), .null, .null, .null, .int 0, .null, .int 0, .int 0, .int 0, .int 0, .int 0, .int 0, .int 0, .null, .int 0, .null, .null, .null, .null, .null, .null, .null]) rfl) ?_
  refine k_al dX8_init_22 rfl (place := 0) rfl ?_
  refine k_si dX8_init_23 (v := nI 12148) (by decide +kernel) ?_
  refine k_newaI (N := 12148) dX8_init_26 ac_I (by decide +kernel) (by decide +kernel) (by decide) (by decide) (by decide) ?_
  refine k_cgr (one_id (E0 := MN G ([.ref (G.1 391), .ref (G.1 392), .null, .null, .null, .int 0, .null, .int 0, .int 0, .int 0, .int 0, .int 0, .int 0, .int 0, .null, .int 0, .null, .null, .null, .null, .null, .null, .null])) ((MN_hi (by decide)).trans (xe_arr (by decide +kernel) (by decide +kernel)))) ?_
  refine k_putF dX8_init_28 fq_X8_16 (by decide) MN_eq (Nat.le_of_ble_eq_true rfl) rfl rfl ?_
  refine k_cgr (MN_put (fs' := [.ref (G.1 391), .ref (G.1 392), .ref (G.1 393), .null, .null, .int 0, .null, .int 0, .int 0, .int 0, .int 0, .int 0, .int 0, .int 0, .null, .int 0, .null, .null, .null, .null, .null, .null, .null]) rfl) ?_
  refine k_al dX8_init_31 rfl (place := 0) rfl ?_
  refine k_ic dX8_init_32 (v := nI 2) (by decide +kernel) ?_
  refine k_newaZ (N := 2) dX8_init_33 ac_Z (by decide +kernel) (by decide +kernel) (by decide) (by decide) (by decide) ?_
  refine k_cgr (one_id (E0 := MN G ([.ref (G.1 391), .ref (G.1 392), .ref (G.1 393), .null, .null, .int 0, .null, .int 0, .int 0, .int 0, .int 0, .int 0, .int 0, .int 0, .null, .int 0, .null, .null, .null, .null, .null, .null, .null])) ((MN_hi (by decide)).trans (xe_bo (by decide +kernel) (by decide +kernel)))) ?_
  refine k_putF dX8_init_35 fq_X8_19 (by decide) MN_eq (Nat.le_of_ble_eq_true rfl) rfl rfl ?_
  refine k_cgr (MN_put (fs' := [.ref (G.1 391), .ref (G.1 392), .ref (G.1 393), .ref (G.1 394), .null, .int 0, .null, .int 0, .int 0, .int 0, .int 0, .int 0, .int 0, .int 0, .null, .int 0, .null, .null, .null, .null, .null, .null, .null]) rfl) ?_
  refine k_al dX8_init_38 rfl (place := 0) rfl ?_
  refine k_ic dX8_init_39 (v := nI 4) (by decide +kernel) ?_
  refine k_newaI (N := 4) dX8_init_40 ac_I (by decide +kernel) (by decide +kernel) (by decide) (by decide) (by decide) ?_
  refine k_cgr (one_id (E0 := MN G ([.ref (G.1 391), .ref (G.1 392), .ref (G.1 393), .ref (G.1 394), .null, .int 0, .null, .int 0, .int 0, .int 0, .int 0, .int 0, .int 0, .int 0, .null, .int 0, .null, .null, .null, .null, .null, .null, .null])) ((MN_hi (by decide)).trans (xe_arr (by decide +kernel) (by decide +kernel)))) ?_
  refine k_putF dX8_init_42 fq_X8_23 (by decide) MN_eq (Nat.le_of_ble_eq_true rfl) rfl rfl ?_
  refine k_cgr (MN_put (fs' := [.ref (G.1 391), .ref (G.1 392), .ref (G.1 393), .ref (G.1 394), .ref (G.1 395), .int 0, .null, .int 0, .int 0, .int 0, .int 0, .int 0, .int 0, .int 0, .null, .int 0, .null, .null, .null, .null, .null, .null, .null]) rfl) ?_
  refine k_al dX8_init_45 rfl (place := 0) rfl ?_
  refine k_si dX8_init_46 (v := nI 200) (by decide +kernel) ?_
  refine k_newaI (N := 200) dX8_init_49 ac_I (by decide +kernel) (by decide +kernel) (by decide) (by decide) (by decide) ?_
  refine k_cgr (one_id (E0 := MN G ([.ref (G.1 391), .ref (G.1 392), .ref (G.1 393), .ref (G.1 394), .ref (G.1 395), .int 0, .null, .int 0, .int 0, .int 0, .int 0, .int 0, .int 0, .int 0, .null, .int 0, .null, .null, .null, .null, .null, .null, .null])) ((MN_hi (by decide)).trans (xe_arr (by decide +kernel) (by decide +kernel)))) ?_
  refine k_putF dX8_init_51 fq_X8_26 (by decide) MN_eq (Nat.le_of_ble_eq_true rfl) rfl rfl ?_
  refine k_cgr (MN_put (fs' := [.ref (G.1 391), .ref (G.1 392), .ref (G.1 393), .ref (G.1 394), .ref (G.1 395), .int 0, .ref (G.1 396), .int 0, .int 0, .int 0, .int 0, .int 0, .int 0, .int 0, .null, .int 0, .null, .null, .null, .null, .null, .null, .null]) rfl) ?_
  refine k_al dX8_init_54 rfl (place := 0) rfl ?_
  refine k_ic dX8_init_55 (v := nI 4) (by decide +kernel) ?_
  refine k_newaI (N := 4) dX8_init_56 ac_I (by decide +kernel) (by decide +kernel) (by decide) (by decide) (by decide) ?_
  refine k_cgr (one_id (E0 := MN G ([.ref (G.1 391), .ref (G.1 392), .ref (G.1 393), .ref (G.1 394), .ref (G.1 395), .int 0, .ref (G.1 396), .int 0, .int 0, .int 0, .int 0, .int 0, .int 0, .int 0, .null, .int 0, .null, .null, .null, .null, .null, .null, .null])) ((MN_hi (by decide)).trans (xe_arr (by decide +kernel) (by decide +kernel)))) ?_
  refine k_putF dX8_init_58 fq_X8_29 (by decide) MN_eq (Nat.le_of_ble_eq_true rfl) rfl rfl ?_
  refine k_cgr (MN_put (fs' := [.ref (G.1 391), .ref (G.1 392), .ref (G.1 393), .ref (G.1 394), .ref (G.1 395), .int 0, .ref (G.1 396), .int 0, .int 0, .int 0, .int 0, .int 0, .int 0, .int 0, .ref (G.1 397), .int 0, .null, .null, .null, .null, .null, .null, .null]) rfl) ?_
  refine k_al dX8_init_61 rfl (place := 0) rfl ?_
  refine k_ic dX8_init_62 (v := nI 5) (by decide +kernel) ?_
  refine k_newaI (N := 5) dX8_init_63 ac_I (by decide +kernel) (by decide +kernel) (by decide) (by decide) (by decide) ?_
  refine k_cgr (one_id (E0 := MN G ([.ref (G.1 391), .ref (G.1 392), .ref (G.1 393), .ref (G.1 394), .ref (G.1 395), .int 0, .ref (G.1 396), .int 0, .int 0, .int 0, .int 0, .int 0, .int 0, .int 0, .ref (G.1 397), .int 0, .null, .null, .null, .null, .null, .null, .null])) ((MN_hi (by decide)).trans (xe_arr (by decide +kernel) (by decide +kernel)))) ?_
  refine k_putF dX8_init_65 fq_X8_32 (by decide) MN_eq (Nat.le_of_ble_eq_true rfl) rfl rfl ?_
  refine k_cgr (MN_put (fs' := [.ref (G.1 391), .ref (G.1 392), .ref (G.1 393), .ref (G.1 394), .ref (G.1 395), .int 0, .ref (G.1 396), .int 0, .int 0, .int 0, .int 0, .int 0, .int 0, .int 0, .ref (G.1 397), .int 0, .ref (G.1 398), .null, .null, .null, .null, .null, .null]) rfl) ?_
  refine k_al dX8_init_68 rfl (place := 0) rfl ?_
  refine k_ic dX8_init_69 (v := nI 5) (by decide +kernel) ?_
  refine k_newaI (N := 5) dX8_init_70 ac_I (by decide +kernel) (by decide +kernel) (by decide) (by decide) (by decide) ?_
  refine k_cgr (one_id (E0 := MN G ([.ref (G.1 391), .ref (G.1 392), .ref (G.1 393), .ref (G.1 394), .ref (G.1 395), .int 0, .ref (G.1 396), .int 0, .int 0, .int 0, .int 0, .int 0, .int 0, .int 0, .ref (G.1 397), .int 0, .ref (G.1 398), .null, .null, .null, .null, .null, .null])) ((MN_hi (by decide)).trans (xe_arr (by decide +kernel) (by decide +kernel)))) ?_
  refine k_putF dX8_init_72 fq_X8_35 (by decide) MN_eq (Nat.le_of_ble_eq_true rfl) rfl rfl ?_
  refine k_cgr (MN_put (fs' := [.ref (G.1 391), .ref (G.1 392), .ref (G.1 393), .ref (G.1 394), .ref (G.1 395), .int 0, .ref (G.1 396), .int 0, .int 0, .int 0, .int 0, .int 0, .int 0, .int 0, .ref (G.1 397), .int 0, .ref (G.1 398), .ref (G.1 399), .null, .null, .null, .null, .null]) rfl) ?_
  refine k_al dX8_init_75 rfl (place := 0) rfl ?_
  refine k_ic dX8_init_76 (v := nI 5) (by decide +kernel) ?_
  refine k_newaI (N := 5) dX8_init_77 ac_I (by decide +kernel) (by decide +kernel) (by decide) (by decide) (by decide) ?_
  refine k_cgr (one_id (E0 := MN G ([.ref (G.1 391), .ref (G.1 392), .ref (G.1 393), .ref (G.1 394), .ref (G.1 395), .int 0, .ref (G.1 396), .int 0, .int 0, .int 0, .int 0, .int 0, .int 0, .int 0, .ref (G.1 397), .int 0, .ref (G.1 398), .ref (G.1 399), .null, .null, .null, .null, .null])) ((MN_hi (by decide)).trans (xe_arr (by decide +kernel) (by decide +kernel)))) ?_
  refine k_putF dX8_init_79 fq_X8_38 (by decide) MN_eq (Nat.le_of_ble_eq_true rfl) rfl rfl ?_
  refine k_cgr (MN_put (fs' := [.ref (G.1 391), .ref (G.1 392), .ref (G.1 393), .ref (G.1 394), .ref (G.1 395), .int 0, .ref (G.1 396), .int 0, .int 0, .int 0, .int 0, .int 0, .int 0, .int 0, .ref (G.1 397), .int 0, .ref (G.1 398), .ref (G.1 399), .ref (G.1 400), .null, .null, .null, .null]) rfl) ?_
  refine k_al dX8_init_82 rfl (place := 0) rfl ?_
  refine k_ic dX8_init_83 (v := nI 4) (by decide +kernel) ?_
  refine k_newaI (N := 4) dX8_init_84 ac_I (by decide +kernel) (by decide +kernel) (by decide) (by decide) (by decide) ?_
  refine k_cgr (one_id (E0 := MN G ([.ref (G.1 391), .ref (G.1 392), .ref (G.1 393), .ref (G.1 394), .ref (G.1 395), .int 0, .ref (G.1 396), .int 0, .int 0, .int 0, .int 0, .int 0, .int 0, .int 0, .ref (G.1 397), .int 0, .ref (G.1 398), .ref (G.1 399), .ref (G.1 400), .null, .null, .null, .null])) ((MN_hi (by decide)).trans (xe_arr (by decide +kernel) (by decide +kernel)))) ?_
  refine k_putF dX8_init_86 fq_X8_41 (by decide) MN_eq (Nat.le_of_ble_eq_true rfl) rfl rfl ?_
  refine k_cgr (MN_put (fs' := [.ref (G.1 391), .ref (G.1 392), .ref (G.1 393), .ref (G.1 394), .ref (G.1 395), .int 0, .ref (G.1 396), .int 0, .int 0, .int 0, .int 0, .int 0, .int 0, .int 0, .ref (G.1 397), .int 0, .ref (G.1 398), .ref (G.1 399), .ref (G.1 400), .ref (G.1 401), .null, .null, .null]) rfl) ?_
  refine k_al dX8_init_89 rfl (place := 0) rfl ?_
  refine k_ic dX8_init_90 (v := nI 4) (by decide +kernel) ?_
  refine k_newaI (N := 4) dX8_init_91 ac_I (by decide +kernel) (by decide +kernel) (by decide) (by decide) (by decide) ?_
  refine k_cgr (one_id (E0 := MN G ([.ref (G.1 391), .ref (G.1 392), .ref (G.1 393), .ref (G.1 394), .ref (G.1 395), .int 0, .ref (G.1 396), .int 0, .int 0, .int 0, .int 0, .int 0, .int 0, .int 0, .ref (G.1 397), .int 0, .ref (G.1 398), .ref (G.1 399), .ref (G.1 400), .ref (G.1 401), .null, .null, .null])) ((MN_hi (by decide)).trans (xe_arr (by decide +kernel) (by decide +kernel)))) ?_
  refine k_putF dX8_init_93 fq_X8_44 (by decide) MN_eq (Nat.le_of_ble_eq_true rfl) rfl rfl ?_
  refine k_cgr (MN_put (fs' := [.ref (G.1 391), .ref (G.1 392), .ref (G.1 393), .ref (G.1 394), .ref (G.1 395), .int 0, .ref (G.1 396), .int 0, .int 0, .int 0, .int 0, .int 0, .int 0, .int 0, .ref (G.1 397), .int 0, .ref (G.1 398), .ref (G.1 399), .ref (G.1 400), .ref (G.1 401), .ref (G.1 402), .null, .null]) rfl) ?_
  refine k_al dX8_init_96 rfl (place := 0) rfl ?_
  refine k_ic dX8_init_97 (v := nI 4) (by decide +kernel) ?_
  refine k_newaI (N := 4) dX8_init_98 ac_I (by decide +kernel) (by decide +kernel) (by decide) (by decide) (by decide) ?_
  refine k_cgr (one_id (E0 := MN G ([.ref (G.1 391), .ref (G.1 392), .ref (G.1 393), .ref (G.1 394), .ref (G.1 395), .int 0, .ref (G.1 396), .int 0, .int 0, .int 0, .int 0, .int 0, .int 0, .int 0, .ref (G.1 397), .int 0, .ref (G.1 398), .ref (G.1 399), .ref (G.1 400), .ref (G.1 401), .ref (G.1 402), .null, .null])) ((MN_hi (by decide)).trans (xe_arr (by decide +kernel) (by decide +kernel)))) ?_
  refine k_putF dX8_init_100 fq_X8_47 (by decide) MN_eq (Nat.le_of_ble_eq_true rfl) rfl rfl ?_
  refine k_cgr (MN_put (fs' := [.ref (G.1 391), .ref (G.1 392), .ref (G.1 393), .ref (G.1 394), .ref (G.1 395), .int 0, .ref (G.1 396), .int 0, .int 0, .int 0, .int 0, .int 0, .int 0, .int 0, .ref (G.1 397), .int 0, .ref (G.1 398), .ref (G.1 399), .ref (G.1 400), .ref (G.1 401), .ref (G.1 402), .ref (G.1 403), .null]) rfl) ?_
  refine k_al dX8_init_103 rfl (place := 0) rfl ?_
  refine k_bi dX8_init_104 (v := nI 6) (by decide +kernel) ?_
  refine k_newaI (N := 6) dX8_init_106 ac_I (by decide +kernel) (by decide +kernel) (by decide) (by decide) (by decide) ?_
  refine k_cgr (one_id (E0 := MN G ([.ref (G.1 391), .ref (G.1 392), .ref (G.1 393), .ref (G.1 394), .ref (G.1 395), .int 0, .ref (G.1 396), .int 0, .int 0, .int 0, .int 0, .int 0, .int 0, .int 0, .ref (G.1 397), .int 0, .ref (G.1 398), .ref (G.1 399), .ref (G.1 400), .ref (G.1 401), .ref (G.1 402), .ref (G.1 403), .null])) ((MN_hi (by decide)).trans (xe_arr (by decide +kernel) (by decide +kernel)))) ?_
  refine k_putF dX8_init_108 fq_X8_50 (by decide) MN_eq (Nat.le_of_ble_eq_true rfl) rfl rfl ?_
  refine k_cgr (MN_put (fs' := [.ref (G.1 391), .ref (G.1 392), .ref (G.1 393), .ref (G.1 394), .ref (G.1 395), .int 0, .ref (G.1 396), .int 0, .int 0, .int 0, .int 0, .int 0, .int 0, .int 0, .ref (G.1 397), .int 0, .ref (G.1 398), .ref (G.1 399), .ref (G.1 400), .ref (G.1 401), .ref (G.1 402), .ref (G.1 403), .ref (G.1 404)]) rfl) ?_
  refine k_al dX8_init_111 rfl (place := 0) rfl ?_
  refine k_get dX8_init_112 fg_X8_7 (by decide) MN_eq (v := .ref (G.1 391)) rfl ?_
  refine k_cgr (E' := fun j => xE G h0 j) (fun k hk => ?_) ?_
  · unfold MN
    by_cases h : k = 390
    · rw [if_pos h, h, xe_mo]
    · rw [if_neg h]
  · exact k_emp (by decide) he
