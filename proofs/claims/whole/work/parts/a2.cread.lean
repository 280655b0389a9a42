/-! the class: rule, client, had, keep, back -/
theorem out_ne {n : Int32} {b m : Nat} (h : inR n 0 (nI b) = false) (hm : m ≤ b) (hb : b < 2 ^ 31) : ¬ n = nI m := by
  intro e
  rw [e, show (0 : Int32) = nI 0 from rfl, inR_nI (by omega) (by omega) (by omega)] at h
  have z : (Nat.ble 0 m && Nat.ble m b) = true := by
    simp
    omega
  rw [z] at h
  cases h
theorem C_images {h : Mem} {T : Top} (R : RCo h T) : f_X7_countImages 0 h = some (bI (T.2.2.2.2 0).isSome + bI (T.2.2.2.2 1).isSome, h) := by
  have f1 : ∀ b : Bool, f_X7_flag (bI b) h = some (bI b, h) := by
    intro b
    cases b <;> rfl
  obtain ⟨n, hn⟩ := xFUs
  have i0 := (R.2.2.2.2.1 0 (by omega)).1
  have i1 := (R.2.2.2.2.1 1 (by omega)).1
  unfold f_X7_countImages
  rw [hn]
  unfold f_X7_countImages_4
  rw [if_neg (by decide), x0_4, show (0 : Int32) = nI 0 from rfl, ald_nI (by rw [l389]; omega) (by omega), i0, f1, b2_some]
  unfold f_X7_countImages_4
  rw [if_neg (by decide), x0_4, show nI 0 + 1 = nI 1 from rfl, ald_nI (by rw [l389]; omega) (by omega), i1, f1, b2_some]
  unfold f_X7_countImages_4
  rw [if_pos (by decide), show nI 0 = (0 : Int32) from rfl, Int32.zero_add]
theorem X_rule (T : Top) {B : Nat} (V : TV B T) (n : Int32) : CO (f_X7_rule 0 n) (O_rule T n) B T := by
  unfold O_rule
  cases hn : inR n 0 10 with
  | false =>
    rw [if_pos rfl]
    refine CO.same V (fun h R => ?_)
    have ne : ∀ m : Nat, m ≤ 10 → ¬ n = nI m := fun m hm => out_ne (b := 10) hn hm (by omega)
    unfold f_X7_rule
    rw [if_neg (show ¬ n = 0 from ne 0 (by omega)), if_neg (show ¬ n = 1 from ne 1 (by omega)), if_neg (show ¬ n = 2 from ne 2 (by omega)), if_neg (show ¬ n = 3 from ne 3 (by omega)), if_neg (show ¬ n = 4 from ne 4 (by omega)), if_neg (show ¬ n = 5 from ne 5 (by omega)), if_neg (show ¬ n = 6 from ne 6 (by omega)), if_neg (show ¬ n = 7 from ne 7 (by omega)), if_neg (show ¬ n = 8 from ne 8 (by omega)), if_neg (show ¬ n = 9 from ne 9 (by omega)), if_neg (show ¬ n = 10 from ne 10 (by omega))]
  | true =>
    rw [if_neg (by decide)]
    obtain ⟨m, hm, rfl⟩ := inR_ex (b := 10) (by omega) hn
    have eq : ∀ j : Nat, j ≤ 10 → (nI m = nI j ↔ m = j) := fun j hj => nI_eq (by omega) (by omega)
    have hd := W100.2.2.2.2
    rcases (show m = 0 ∨ m = 1 ∨ m = 2 ∨ m = 3 ∨ m = 4 ∨ m = 5 ∨ m = 6 ∨ m = 7 ∨ m = 8 ∨ m = 9 ∨ m = 10 by omega) with rfl | rfl | rfl | rfl | rfl | rfl | rfl | rfl | rfl | rfl | rfl
    · refine CO.same V (fun h R => ?_)
      show some (h (xrf 0 2) 3, h) = _
      rw [x0_2, R.1.1.1]
    · refine CO.same V (fun h R => ?_)
      show some (h (xrf 0 2) 4, h) = _
      rw [x0_2, R.1.1.2]
    · refine CO.same V (fun h R => ?_)
      show b2 (f_X6_total (xrf 0 2) 2 h) (fun v2 h1 => some (v2, h1)) = _
      rw [x0_2, C_tot4 (j := 13) (k := 50) W100 2 (by simp) R.1, b2_some]
    · refine CO.same V (fun h R => ?_)
      show b2 (f_X6_total (xrf 0 2) 3 h) (fun v2 h1 => some (v2, h1)) = _
      rw [x0_2, C_tot4 (j := 14) (k := 51) W100 3 (by simp) R.1, b2_some]
    · refine CO.same V (fun h R => ?_)
      show b2 (f_X6_total (xrf 0 2) 4 h) (fun v2 h1 => some (v2, h1)) = _
      rw [x0_2, C_tot4 (j := 15) (k := 10) W100 4 (by simp) R.1, b2_some]
    · refine CO.same V (fun h R => ?_)
      show b2 (f_X6_total (xrf 0 2) 5 h) (fun v2 h1 => some (v2, h1)) = _
      rw [x0_2, C_tot4 (j := 16) (k := 52) W100 5 (by simp) R.1, b2_some]
    · refine CO.same V (fun h R => ?_)
      show some (h (xrf (xrf 0 2) 1) 3, h) = _
      have z := R.1.2.1.2.2.1
      rw [List.length_map] at z
      rw [x0_2, W100.1.2.1, z]
    · refine CO.same V (fun h R => ?_)
      show b2 (f_X6_countShares (xrf 0 2) h) (fun v2 h1 => some (v2, h1)) = _
      rw [x0_2, C_countShares W100 R.1 V.1.1.sb, b2_some]
    · refine CO.same V (fun h R => ?_)
      show b2 (f_X1_count (h 0 5) h) (fun v2 h1 => some (v2, h1)) = _
      rw [R.2.1, C_count (V.2.1.pv.l5 (by omega)), b2_some, V.2.1.ln.1.cz]
    · refine CO.same V (fun h R => ?_)
      show some (h (xrf 0 0) 1, h) = _
      rw [x0_0, R.2.2.1.1]
    · refine CO.same V (fun h R => ?_)
      show b2 (f_X7_countImages 0 h) (fun v2 h1 => some (v2, h1)) = _
      rw [C_images R, b2_some]
theorem X_client (T : Top) {B : Nat} (V : TV B T) (c f : Int32) : CO (f_X7_client 0 c f) (O_client T c f) B T := by
  unfold O_client
  cases hc : inR c 0 5 with
  | false =>
    rw [if_pos (Or.inl rfl)]
    refine CO.same V (fun h R => ?_)
    unfold f_X7_client
    rw [C_noC, b2_some, hc, if_neg bI_f]
  | true =>
    obtain ⟨n, hn, rfl⟩ := in5 hc
    rw [nI_clamp (by omega)]
    cases hf : inR f 0 12 with
    | false =>
      rw [if_pos (Or.inr rfl)]
      refine CO.same V (fun h R => ?_)
      unfold f_X7_client
      rw [C_noC, b2_some, hc, if_pos bI_t, C_out, b2_some, hf, if_neg bI_f]
    | true =>
      rw [if_neg (by decide)]
      obtain ⟨m, hm, rfl⟩ := inR_ex (b := 12) (by omega) hf
      rw [nI_clamp (by omega)]
      have hcv := V.1.1.1 n hn
      have K := (W100.2.2.2.1 n hn).2.2
      have pre : ∀ h, RCo h T → f_X7_client 0 (nI n) (nI m) h = if nI m = 0 then some ((T.1.2.2 n).1 0, h) else if nI m = 11 then some ((T.1.2.2 n).1 21, h) else if nI m = 12 then some ((T.1.2.2 n).1 10, h) else if (T.1.2.2 n).1 0 = 0 then some (-4, h) else b2 (f_X0_sessionFact (100 + 6 + 15 * n) (nI m) h) fun v9 h8 => some (v9, h8) := by
        intro h R
        have Rc := R.1.2.2.2 n hn
        unfold f_X7_client
        rw [C_noC, b2_some, hc, if_pos bI_t, C_out, b2_some, hf, if_pos bI_t, x0_2, W100.1.1, wcl W100 hn, K.1.2.2.2.2.2.2.2, C_due Rc hcv.2.2.2.2.2.2.2.1, b2_some, Rc.1.1, Rc.1.2.2.2.2.2.2.2.1]
      have e110 : inR (nI m) 1 10 = true ↔ 1 ≤ m ∧ m ≤ 10 := by
        rw [show (1 : Int32) = nI 1 from rfl, show (10 : Int32) = nI 10 from rfl, inR_nI (by omega) (by omega) (by omega)]
        simp
      have eq : ∀ j : Nat, j ≤ 12 → (nI m = nI j ↔ m = j) := fun j hj => nI_eq (by omega) (by omega)
      by_cases h0 : m = 0
      · subst h0
        rw [if_neg (fun q => by have := e110.mp q.1; omega)]
        refine CO.same V (fun h R => ?_)
        rw [pre h R, if_pos (show nI 0 = 0 from rfl)]
        rfl
      by_cases h11 : m = 11
      · subst h11
        rw [if_neg (fun q => by have := e110.mp q.1; omega)]
        refine CO.same V (fun h R => ?_)
        rw [pre h R, if_neg (show ¬ nI 11 = 0 by decide), if_pos (show nI 11 = 11 from rfl)]
        rfl
      by_cases h12 : m = 12
      · subst h12
        rw [if_neg (fun q => by have := e110.mp q.1; omega)]
        refine CO.same V (fun h R => ?_)
        rw [pre h R, if_neg (show ¬ nI 12 = 0 by decide), if_neg (show ¬ nI 12 = 11 by decide), if_pos (show nI 12 = 12 from rfl)]
        rfl
      have p1 : ¬ nI m = 0 := fun z => h0 ((eq 0 (by omega)).mp z)
      have p2 : ¬ nI m = 11 := fun z => h11 ((eq 11 (by omega)).mp z)
      have p3 : ¬ nI m = 12 := fun z => h12 ((eq 12 (by omega)).mp z)
      by_cases s0 : (T.1.2.2 n).1 0 = 0
      · rw [if_pos ⟨e110.mpr (by omega), s0⟩]
        refine CO.same V (fun h R => ?_)
        rw [pre h R, if_neg p1, if_neg p2, if_neg p3, if_pos s0]
      · rw [if_neg (fun q => s0 q.2)]
        refine CO.same V (fun h R => ?_)
        rw [pre h R, if_neg p1, if_neg p2, if_neg p3, if_neg s0, C_fact K (R.1.2.2.2 n hn) hcv.2.2.2.2.2.2.1 hcv.2.2.2.2.2.2.2.1 (by omega) (by omega), b2_some]
theorem X_had (T : Top) {B : Nat} (V : TV B T) (g : Int32) : CO (f_X7_had 0 g) (O_had T g) B T := by
  unfold O_had
  cases hg : inR g 1 3 with
  | false =>
    rw [if_pos rfl]
    refine CO.same V (fun h R => ?_)
    unfold f_X7_had
    rw [C_out, b2_some, hg, if_neg bI_f]
  | true =>
    rw [if_neg (by decide)]
    obtain ⟨m, h1, h2, rfl⟩ := inR_ex1 (b := 3) (by omega) hg
    have pv := V.2.1.pv
    have kv : KV (hkey (nI m) T.2.1) := by
      refine ⟨⟨m, by omega, rfl⟩, pv.cgr (fun j hj => ?_)⟩
      unfold hkey
      rw [if_neg (by omega), show 1 + j - 1 = j by omega]
    have ek : f_X1_shareKey (nI m) (pth (lvO (g5 T.2.1))) = fun h => some (nI (keyN (hkey (nI m) T.2.1)), h) := by
      funext h
      obtain ⟨gg, hgg, eg, n, l⟩ := kv.n
      have e1 : gg = m := ((nI_eq (by omega) (by omega)).mp (show nI m = nI gg from eg)).symm
      have el : lvO (fun j => hkey (nI m) T.2.1 (1 + j)) = lvO (g5 T.2.1) := by
        funext j
        unfold lvO
        split
        · show (if 1 + j = 0 then _ else g5 T.2.1 (1 + j - 1)).toNatClampNeg = _
          rw [if_neg (by omega), show 1 + j - 1 = j by omega]
        · rfl
      rw [el] at n l
      unfold pth
      rw [C_shareKey (by omega) l, n, e1]
    have fin : ∀ h, RCo h T → f_X7_had 0 (nI m) h = some (if hdIx (T.1.2.1 7) (hkey (nI m) T.2.1) = -4 then -4 else g5 (gr (T.1.2.1 7) (hdIx (T.1.2.1 7) (hkey (nI m) T.2.1)).toNatClampNeg) 5, h) := by
      intro h R
      unfold f_X7_had
      rw [C_out, b2_some, hg, if_pos bI_t, R.2.1, ek, b2_some, x0_2, C_latest W100 R.1 V.1.1.2.2.1 kv, b2_some]
    split
    · rename_i q
      refine CO.same V (fun h R => ?_)
      rw [fin h R, if_pos q]
    · rename_i q
      refine CO.same V (fun h R => ?_)
      rw [fin h R, if_neg q]
theorem imx {k : Nat} (hk : k < 2) : xrf 196 k = imB k := by
  rcases (show k = 0 ∨ k = 1 by omega) with rfl | rfl
  · exact x196_0
  · exact x196_1
theorem im_ne {j k : Nat} (hj : j < 2) (hk : k < 2) (h : j ≠ k) : imB j + 96 ≤ imB k ∨ imB k + 96 ≤ imB j := by
  rcases (show j = 0 ∨ j = 1 by omega) with rfl | rfl
  · rcases (show k = 0 ∨ k = 1 by omega) with rfl | rfl
    · omega
    · exact Or.inl (by decide)
  · rcases (show k = 0 ∨ k = 1 by omega) with rfl | rfl
    · exact Or.inr (by decide)
    · omega
theorem X_keep (T : Top) {B : Nat} (V : TV B T) (k : Int32) : CO (f_X7_keep 0 k) (O_keep T k) B T := by
  unfold O_keep
  cases hk : inR k 0 1 with
  | false =>
    rw [if_pos rfl]
    refine CO.same V (fun h R => ?_)
    unfold f_X7_keep
    rw [C_out, b2_some, hk, if_neg bI_f]
  | true =>
    rw [if_neg (by decide)]
    obtain ⟨m, hm, rfl⟩ := inR_ex (b := 1) (by omega) hk
    have hm2 : m < 2 := by omega
    rw [nI_clamp (by omega)]
    intro h R
    obtain ⟨r1, r2, ⟨r3, r4, r5⟩, r6, r7, dr, r8, r9⟩ := R
    obtain ⟨q1, s, q2, q3⟩ := r7 m hm2
    have f1 : ∀ b : Bool, f_X7_flag (bI b) h = some (bI b, h) := by
      intro b
      cases b <;> rfl
    have il := im_lo m
    unfold f_X7_keep
    rw [C_out, b2_some, hk, if_pos bI_t, x0_4, ald_nI (by rw [l389]; omega) (by omega), q1, f1, b2_some, x0_3, aald_nI (by rw [l196]; omega) (by omega), imx hm2, x0_2]
    refine wB (C_wcopy W_im W100 (by omega) q2 r1) (fun _ g P => ?_)
    rw [ast_nI (by rw [l389]; omega) (by omega)]
    have e : ∀ a, a ≠ 389 → a < imB m ∨ imB m + 96 ≤ a → mu g 389 m 1 a = h a := fun a h1 h2 => by rw [mu_ne h1, P.2 a h2]
    refine wR ⟨rfl, ⟨r1.frm (fun a h1 h2 => e a (by omega) (by omega)), by rw [e 0 (by omega) (by omega)]; exact r2, ⟨by rw [e 2 (by omega) (by omega)]; exact r3, r4, fun j hj => by rw [e 3 (by omega) (by omega)]; exact r5 j hj⟩, by rw [e 0 (by omega) (by omega)]; exact r6, fun j hj => ?_, dr, r8.frm (fun a h1 h2 => e a (by omega) (by omega)), r9⟩, ?_, fun a ha => e a (by omega) (by omega)⟩
    · by_cases ej : j = m
      · subst ej
        refine ⟨by rw [mu_rde rfl]; show 1 = bI (ud T.2.2.2.2 j (some T.1) j).isSome; rw [ud_eq]; rfl, T.1, P.1.frm (fun a h1 h2 => mu_ne (by omega)), fun s' hs' => ?_⟩
        have hs'' : ud T.2.2.2.2 j (some T.1) j = some s' := hs'
        rw [ud_eq] at hs''
        injection hs'' with hs''
        exact hs''.symm
      · obtain ⟨w1, w, w2, w3⟩ := r7 j hj
        have iln := im_ne hj hm2 ej
        have ilj := im_lo j
        refine ⟨?_, w, w2.frm (fun a h1 h2 => e a (by omega) (by omega)), fun s' hs' => w3 s' ?_⟩
        · rw [mu_rdn ej, P.2 389 (by omega)]
          show _ = bI (ud T.2.2.2.2 m (some T.1) j).isSome
          rw [ud_ne ej]
          exact w1
        · have hs'' : ud T.2.2.2.2 m (some T.1) j = some s' := hs'
          rw [ud_ne ej] at hs''
          exact hs''
    · have V' := V.mono (C := B + 13000) (by omega)
      refine ⟨V'.1, V'.2.1, V'.2.2.1, fun j s' hs' => ?_⟩
      have hs'' : ud T.2.2.2.2 m (some T.1) j = some s' := hs'
      by_cases ej : j = m
      · subst ej
        rw [ud_eq] at hs''
        injection hs'' with hs''
        rw [← hs'']
        exact V'.1
      · rw [ud_ne ej] at hs''
        exact V'.2.2.2 j s' hs''
theorem X_back (T : Top) {B : Nat} (V : TV B T) (k : Int32) : CO (f_X7_back 0 k) (O_back T k) B T := by
  unfold O_back
  cases hk : inR k 0 1 with
  | false =>
    rw [if_pos rfl]
    refine CO.same V (fun h R => ?_)
    unfold f_X7_back
    rw [C_out, b2_some, hk, if_neg bI_f]
  | true =>
    rw [if_neg (by decide)]
    obtain ⟨m, hm, rfl⟩ := inR_ex (b := 1) (by omega) hk
    have hm2 : m < 2 := by omega
    rw [nI_clamp (by omega)]
    have pre : ∀ h, RCo h T → f_X7_back 0 (nI m) h = if bI (T.2.2.2.2 m).isSome = 0 then some (-2, h) else b2 (f_X6_copyFrom 100 (imB m) h) fun _ h5 => some (h5 100 3, h5) := by
      intro h R
      unfold f_X7_back
      rw [C_out, b2_some, hk, if_pos bI_t, x0_4, ald_nI (by rw [l389]; omega) (by omega), (R.2.2.2.2.1 m hm2).1, x0_3, aald_nI (by rw [l196]; omega) (by omega), imx hm2, x0_2]
    cases hs : T.2.2.2.2 m with
    | none =>
      refine CO.same V (fun h R => ?_)
      rw [pre h R, hs, if_pos (show bI (none : Option St).isSome = 0 from rfl)]
    | some s =>
      refine CO.world V (fun h R => ?_)
      obtain ⟨q1, s2, q2, q3⟩ := R.2.2.2.2.1 m hm2
      have es := q3 s hs
      rw [← es] at q2
      have il := im_lo m
      rw [pre h R, hs, if_neg (show ¬ bI (some s).isSome = 0 by rw [show (some s).isSome = true from rfl]; decide)]
      refine wB (C_wcopy W100 W_im (by omega) R.1 q2) (fun _ g P => wR ⟨P.1.1.1, P.1, ?_, P.2⟩)
      have z := (V.mono (C := B + 13000) (by omega)).2.2.2 m s hs
      exact z
