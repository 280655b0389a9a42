/-! pure reasoning about functions of the state -/
def Tr {β : Type} (o : Option (β × Mem)) (Q : β → Mem → Prop) : Prop := ∃ v h', o = some (v, h') ∧ Q v h'
theorem wB {γ β : Type} {o : Option (γ × Mem)} {k : γ → Mem → Option (β × Mem)} {P : γ → Mem → Prop} {Q : β → Mem → Prop} (h1 : Tr o P) (h2 : ∀ v h', P v h' → Tr (k v h') Q) : Tr (b2 o k) Q := by
  obtain ⟨v, h', e, p⟩ := h1
  rw [e]
  exact h2 v h' p
theorem wR {β : Type} {Q : β → Mem → Prop} {v : β} {h : Mem} (q : Q v h) : Tr (some (v, h)) Q := ⟨v, h, rfl, q⟩
theorem wE {β : Type} {o : Option (β × Mem)} {Q : β → Mem → Prop} {v : β} {h : Mem} (e : o = some (v, h)) (q : Q v h) : Tr o Q := ⟨v, h, e, q⟩
theorem wM {β : Type} {o : Option (β × Mem)} {P Q : β → Mem → Prop} (h1 : Tr o P) (h2 : ∀ v h', P v h' → Q v h') : Tr o Q := by
  obtain ⟨v, h', e, p⟩ := h1
  exact ⟨v, h', e, h2 v h' p⟩
theorem wIf {β : Type} {c : Prop} {dc : Decidable c} {o1 o2 : Option (β × Mem)} {Q : β → Mem → Prop} (h1 : c → Tr o1 Q) (h2 : ¬ c → Tr o2 Q) : Tr (@ite _ c dc o1 o2) Q := by
  by_cases q : c
  · rw [if_pos q]; exact h1 q
  · rw [if_neg q]; exact h2 q
theorem b2_some {γ β : Type} (v : γ) (h : Mem) (k : γ → Mem → Option β) : b2 (some (v, h)) k = k v h := Eq.trans (Eq.refl _) rfl
theorem mlet_eq {β : Type} (h : Mem) (k : Mem → Option β) : mlet h k = k h := Eq.trans (Eq.refl _) rfl
theorem zg_0 {β : Type} (k : Option β) : zg 0 k = k := by
  unfold zg
  rw [if_pos (Or.inl rfl)]
theorem zg_1 {β : Type} (k : Option β) : zg 1 k = k := by
  unfold zg
  rw [if_pos (Or.inr rfl)]
theorem nI_mul (a b : Nat) : nI a * nI b = nI (a * b) := (Int32.ofNat_mul a b).symm
theorem nI_subP {a b : Nat} (h : b ≤ a) : nI a - nI b = nI (a - b) := by
  have e : nI a = nI (a - b) + nI b := by rw [nI_add, Nat.sub_add_cancel h]
  rw [e]
  simp
theorem ald_nI {β : Type} {h : Mem} {a i : Nat} {k : Int32 → Option β} (hi : i < xln a) (hs : i < 2 ^ 31) : ald h a (nI i) k = k (h a i) := by
  unfold ald
  rw [nI_clamp hs, if_pos ⟨nI_pos' hs, hi⟩]
theorem ast_nI {β : Type} {h : Mem} {a i : Nat} {v : Int32} {k : Mem → Option β} (hi : i < xln a) (hs : i < 2 ^ 31) : ast h a (nI i) v k = k (mu h a i v) := by
  unfold ast
  rw [nI_clamp hs, if_pos ⟨nI_pos' hs, hi⟩]
theorem aald_nI {β : Type} {a i : Nat} {k : Nat → Option β} (hi : i < xln a) (hs : i < 2 ^ 31) : aald a (nI i) k = k (xrf a i) := by
  unfold aald
  rw [nI_clamp hs, if_pos ⟨nI_pos' hs, hi⟩]
theorem mu_rd (h : Mem) (k j : Nat) (v : Int32) (x : Nat) : mu h k j v k x = if x = j then v else h k x := by rw [mu_eq]; rfl
theorem mu_rde {h : Mem} {k j : Nat} {v : Int32} {x : Nat} (e : x = j) : mu h k j v k x = v := by rw [mu_rd, if_pos e]
theorem mu_rdn {h : Mem} {k j : Nat} {v : Int32} {x : Nat} (e : x ≠ j) : mu h k j v k x = h k x := by rw [mu_rd, if_neg e]
theorem mu_rdk {h : Mem} {k j : Nat} {v : Int32} {a : Nat} (e : a ≠ k) (x : Nat) : mu h k j v a x = h a x := by rw [mu_ne e]
theorem upd_eq {f : Nat → Int32} {k : Nat} {v : Int32} {x : Nat} (e : x = k) : upd f k v x = v := if_pos e
theorem upd_ne {f : Nat → Int32} {k : Nat} {v : Int32} {x : Nat} (e : x ≠ k) : upd f k v x = f x := if_neg e
/-! the reference's cells -/
theorem xr_0 : xrf 390 0 = 391 := by decide +kernel
theorem xr_1 : xrf 390 1 = 392 := by decide +kernel
theorem xr_2 : xrf 390 2 = 393 := by decide +kernel
theorem xr_3 : xrf 390 3 = 394 := by decide +kernel
theorem xr_4 : xrf 390 4 = 395 := by decide +kernel
theorem xr_6 : xrf 390 6 = 396 := by decide +kernel
theorem xr_14 : xrf 390 14 = 397 := by decide +kernel
theorem xr_16 : xrf 390 16 = 398 := by decide +kernel
theorem xr_17 : xrf 390 17 = 399 := by decide +kernel
theorem xr_18 : xrf 390 18 = 400 := by decide +kernel
theorem xr_19 : xrf 390 19 = 401 := by decide +kernel
theorem xr_20 : xrf 390 20 = 402 := by decide +kernel
theorem xr_21 : xrf 390 21 = 403 := by decide +kernel
theorem xr_22 : xrf 390 22 = 404 := by decide +kernel
theorem xl_391 : xln 391 = 6074 := by decide +kernel
theorem xl_392 : xln 392 = 6074 := by decide +kernel
theorem xl_393 : xln 393 = 12148 := by decide +kernel
theorem xl_394 : xln 394 = 2 := by decide +kernel
theorem xl_395 : xln 395 = 4 := by decide +kernel
theorem xl_396 : xln 396 = 200 := by decide +kernel
theorem xl_397 : xln 397 = 4 := by decide +kernel
theorem xl_398 : xln 398 = 5 := by decide +kernel
theorem xl_399 : xln 399 = 5 := by decide +kernel
theorem xl_400 : xln 400 = 5 := by decide +kernel
theorem xl_401 : xln 401 = 4 := by decide +kernel
theorem xl_402 : xln 402 = 4 := by decide +kernel
theorem xl_403 : xln 403 = 4 := by decide +kernel
theorem xl_404 : xln 404 = 6 := by decide +kernel
theorem al_391 {β : Type} {h : Mem} {i : Nat} {k : Int32 → Option β} (hi : i < 6074) : ald h 391 (nI i) k = k (h 391 i) := ald_nI (by rw [xl_391]; exact hi) (by omega)
theorem as_391 {β : Type} {h : Mem} {i : Nat} {v : Int32} {k : Mem → Option β} (hi : i < 6074) : ast h 391 (nI i) v k = k (mu h 391 i v) := ast_nI (by rw [xl_391]; exact hi) (by omega)
theorem al_392 {β : Type} {h : Mem} {i : Nat} {k : Int32 → Option β} (hi : i < 6074) : ald h 392 (nI i) k = k (h 392 i) := ald_nI (by rw [xl_392]; exact hi) (by omega)
theorem as_392 {β : Type} {h : Mem} {i : Nat} {v : Int32} {k : Mem → Option β} (hi : i < 6074) : ast h 392 (nI i) v k = k (mu h 392 i v) := ast_nI (by rw [xl_392]; exact hi) (by omega)
theorem al_393 {β : Type} {h : Mem} {i : Nat} {k : Int32 → Option β} (hi : i < 12148) : ald h 393 (nI i) k = k (h 393 i) := ald_nI (by rw [xl_393]; exact hi) (by omega)
theorem as_393 {β : Type} {h : Mem} {i : Nat} {v : Int32} {k : Mem → Option β} (hi : i < 12148) : ast h 393 (nI i) v k = k (mu h 393 i v) := ast_nI (by rw [xl_393]; exact hi) (by omega)
theorem al_394 {β : Type} {h : Mem} {i : Nat} {k : Int32 → Option β} (hi : i < 2) : ald h 394 (nI i) k = k (h 394 i) := ald_nI (by rw [xl_394]; exact hi) (by omega)
theorem as_394 {β : Type} {h : Mem} {i : Nat} {v : Int32} {k : Mem → Option β} (hi : i < 2) : ast h 394 (nI i) v k = k (mu h 394 i v) := ast_nI (by rw [xl_394]; exact hi) (by omega)
theorem al_395 {β : Type} {h : Mem} {i : Nat} {k : Int32 → Option β} (hi : i < 4) : ald h 395 (nI i) k = k (h 395 i) := ald_nI (by rw [xl_395]; exact hi) (by omega)
theorem as_395 {β : Type} {h : Mem} {i : Nat} {v : Int32} {k : Mem → Option β} (hi : i < 4) : ast h 395 (nI i) v k = k (mu h 395 i v) := ast_nI (by rw [xl_395]; exact hi) (by omega)
theorem al_396 {β : Type} {h : Mem} {i : Nat} {k : Int32 → Option β} (hi : i < 200) : ald h 396 (nI i) k = k (h 396 i) := ald_nI (by rw [xl_396]; exact hi) (by omega)
theorem as_396 {β : Type} {h : Mem} {i : Nat} {v : Int32} {k : Mem → Option β} (hi : i < 200) : ast h 396 (nI i) v k = k (mu h 396 i v) := ast_nI (by rw [xl_396]; exact hi) (by omega)
theorem al_397 {β : Type} {h : Mem} {i : Nat} {k : Int32 → Option β} (hi : i < 4) : ald h 397 (nI i) k = k (h 397 i) := ald_nI (by rw [xl_397]; exact hi) (by omega)
theorem as_397 {β : Type} {h : Mem} {i : Nat} {v : Int32} {k : Mem → Option β} (hi : i < 4) : ast h 397 (nI i) v k = k (mu h 397 i v) := ast_nI (by rw [xl_397]; exact hi) (by omega)
theorem al_398 {β : Type} {h : Mem} {i : Nat} {k : Int32 → Option β} (hi : i < 5) : ald h 398 (nI i) k = k (h 398 i) := ald_nI (by rw [xl_398]; exact hi) (by omega)
theorem as_398 {β : Type} {h : Mem} {i : Nat} {v : Int32} {k : Mem → Option β} (hi : i < 5) : ast h 398 (nI i) v k = k (mu h 398 i v) := ast_nI (by rw [xl_398]; exact hi) (by omega)
theorem al_399 {β : Type} {h : Mem} {i : Nat} {k : Int32 → Option β} (hi : i < 5) : ald h 399 (nI i) k = k (h 399 i) := ald_nI (by rw [xl_399]; exact hi) (by omega)
theorem as_399 {β : Type} {h : Mem} {i : Nat} {v : Int32} {k : Mem → Option β} (hi : i < 5) : ast h 399 (nI i) v k = k (mu h 399 i v) := ast_nI (by rw [xl_399]; exact hi) (by omega)
theorem al_400 {β : Type} {h : Mem} {i : Nat} {k : Int32 → Option β} (hi : i < 5) : ald h 400 (nI i) k = k (h 400 i) := ald_nI (by rw [xl_400]; exact hi) (by omega)
theorem as_400 {β : Type} {h : Mem} {i : Nat} {v : Int32} {k : Mem → Option β} (hi : i < 5) : ast h 400 (nI i) v k = k (mu h 400 i v) := ast_nI (by rw [xl_400]; exact hi) (by omega)
theorem al_401 {β : Type} {h : Mem} {i : Nat} {k : Int32 → Option β} (hi : i < 4) : ald h 401 (nI i) k = k (h 401 i) := ald_nI (by rw [xl_401]; exact hi) (by omega)
theorem as_401 {β : Type} {h : Mem} {i : Nat} {v : Int32} {k : Mem → Option β} (hi : i < 4) : ast h 401 (nI i) v k = k (mu h 401 i v) := ast_nI (by rw [xl_401]; exact hi) (by omega)
theorem al_402 {β : Type} {h : Mem} {i : Nat} {k : Int32 → Option β} (hi : i < 4) : ald h 402 (nI i) k = k (h 402 i) := ald_nI (by rw [xl_402]; exact hi) (by omega)
theorem as_402 {β : Type} {h : Mem} {i : Nat} {v : Int32} {k : Mem → Option β} (hi : i < 4) : ast h 402 (nI i) v k = k (mu h 402 i v) := ast_nI (by rw [xl_402]; exact hi) (by omega)
theorem al_403 {β : Type} {h : Mem} {i : Nat} {k : Int32 → Option β} (hi : i < 4) : ald h 403 (nI i) k = k (h 403 i) := ald_nI (by rw [xl_403]; exact hi) (by omega)
theorem as_403 {β : Type} {h : Mem} {i : Nat} {v : Int32} {k : Mem → Option β} (hi : i < 4) : ast h 403 (nI i) v k = k (mu h 403 i v) := ast_nI (by rw [xl_403]; exact hi) (by omega)
theorem al_404 {β : Type} {h : Mem} {i : Nat} {k : Int32 → Option β} (hi : i < 6) : ald h 404 (nI i) k = k (h 404 i) := ald_nI (by rw [xl_404]; exact hi) (by omega)
theorem as_404 {β : Type} {h : Mem} {i : Nat} {v : Int32} {k : Mem → Option β} (hi : i < 6) : ast h 404 (nI i) v k = k (mu h 404 i v) := ast_nI (by rw [xl_404]; exact hi) (by omega)
theorem li_0 : (0 : Int32) = nI 0 := by decide +kernel
theorem li_1 : (1 : Int32) = nI 1 := by decide +kernel
theorem li_2 : (2 : Int32) = nI 2 := by decide +kernel
theorem li_3 : (3 : Int32) = nI 3 := by decide +kernel
theorem li_4 : (4 : Int32) = nI 4 := by decide +kernel
theorem li_5 : (5 : Int32) = nI 5 := by decide +kernel
theorem li_6 : (6 : Int32) = nI 6 := by decide +kernel
theorem li_7 : (7 : Int32) = nI 7 := by decide +kernel
theorem li_8 : (8 : Int32) = nI 8 := by decide +kernel
theorem li_9 : (9 : Int32) = nI 9 := by decide +kernel
theorem li_10 : (10 : Int32) = nI 10 := by decide +kernel
theorem li_11 : (11 : Int32) = nI 11 := by decide +kernel
theorem li_12 : (12 : Int32) = nI 12 := by decide +kernel
theorem li_16 : (16 : Int32) = nI 16 := by decide +kernel
theorem li_21 : (21 : Int32) = nI 21 := by decide +kernel
theorem li_22 : (22 : Int32) = nI 22 := by decide +kernel
theorem li_29 : (29 : Int32) = nI 29 := by decide +kernel
theorem li_30 : (30 : Int32) = nI 30 := by decide +kernel
theorem li_45 : (45 : Int32) = nI 45 := by decide +kernel
theorem li_81 : (81 : Int32) = nI 81 := by decide +kernel
theorem li_92 : (92 : Int32) = nI 92 := by decide +kernel
theorem li_105 : (105 : Int32) = nI 105 := by decide +kernel
theorem li_153 : (153 : Int32) = nI 153 := by decide +kernel
theorem li_249 : (249 : Int32) = nI 249 := by decide +kernel
theorem li_281 : (281 : Int32) = nI 281 := by decide +kernel
theorem li_308 : (308 : Int32) = nI 308 := by decide +kernel
theorem li_401 : (401 : Int32) = nI 401 := by decide +kernel
theorem li_961 : (961 : Int32) = nI 961 := by decide +kernel
/-! the reference: small ones -/
theorem M_at (c w : Nat) (h : Mem) : f_X8_at (nI c) (nI w) h = some (nI (308 + 961 * c + w), h) := by
  simp only [f_X8_at, li_308, li_961, nI_mul, nI_add]
theorem M_of {c w : Nat} {h : Mem} (hc : c < 6) (hw : w < 961) : f_X8_of 390 (nI c) (nI w) h = some (h 391 (308 + 961 * c + w), h) := by
  simp (disch := omega) only [f_X8_of, M_at, b2_some, xr_0, al_391]
theorem test_pd {c n : Nat} {h : Mem} (hc : c < 6) (hn : n < 16) (hd : h 391 (308 + 961 * c + 6) = nI n) (r0 r1 r2 r3 r4 r5 : Int32) : ∃ h', f_X8_packetDown 390 (nI c) r0 r1 r2 r3 r4 r5 h = some ((), h') ∧ h' 391 (308 + 961 * c + 6) = nI (n + 1) ∧ h' 391 (308 + 961 * c + (153 + 6 * n + 3)) = r3 ∧ ∀ k, k < 961 → k ≠ 6 → ¬ (153 + 6 * n ≤ k ∧ k < 153 + 6 * n + 6) → h' 391 (308 + 961 * c + k) = h 391 (308 + 961 * c + k) := by
  simp (disch := omega) only [f_X8_packetDown, li_6, li_153, li_1, li_2, li_3, li_4, li_5, li_16, M_of, b2_some, hd, nI_leI, nI_mul, nI_add, M_at, xr_0, al_391, as_391, if_neg, mu_rde, mu_rdn]
  refine ⟨_, rfl, ?_, ?_, ?_⟩
  · simp (disch := omega) only [mu_rde, mu_rdn]
  · simp (disch := omega) only [mu_rde, mu_rdn]
  · intro k hk h1 h2
    simp (disch := omega) only [mu_rde, mu_rdn]
