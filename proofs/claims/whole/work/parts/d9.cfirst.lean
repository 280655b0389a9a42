/-! the two systems at the start -/
def T0 : Top := (st0, [], [], 0, fun _ => none)
theorem h0_row {h : Mem} {k a b : Nat} (e : h k = h0 k) (t : xkd k = 2) (l : hwd (xln (k + 1)) = (a, b)) : RR h k a b [] := by
  refine ⟨?_, ?_, ?_, Nat.zero_le _, fun i j hi _ => absurd hi (Nat.not_lt_zero _)⟩
  · rw [e]; simp [h0, t, l]
  · rw [e]; simp [h0, t, l]
  · rw [e]; simp [h0, t]; rfl
theorem h0_z {h : Mem} {k : Nat} (e : h k = h0 k) (t : xkd k ≠ 2) (j : Nat) : h k j = 0 := by
  rw [e, h0_ne t]
theorem pth_00 {f : Nat → Nat} (h : ∀ j, f j = 0) : pth f = 0 := by
  have : f = fun _ => 0 := funext h
  rw [this]
  decide +kernel
theorem RK_0 {h : Mem} {K : Nat} (c : ckc K = true) (e : ∀ k, K ≤ k → k < K + 15 → h k = h0 k) : RK h K cl0 := by
  have z : ∀ j, h K j = 0 := h0_z (e K (Nat.le_refl _) (by omega)) (by rw [show xkd K = 0 from ck_0 c]; decide)
  refine ⟨⟨z 8, z 9, z 10, z 11, ?_, z 13, z 14, z 15, z 16⟩, ?_, fun j hj => ?_, ?_, ?_, ?_, ⟨[], ?_, List.Perm.refl _⟩, ?_, ?_⟩
  · rw [z 12]; rfl
  · exact h0_row (e _ (by omega) (by omega)) (ck_1 c) (by rw [cl_2 c]; rfl)
  · rw [h0_z (e _ (by omega) (by omega)) (by rw [ck_3 c]; decide) j]
    refine (pth_00 (fun i => ?_)).symm
    unfold lvS
    split
    · have : cl0.1 (29 + 4 * j + i) = 0 := by
        show (if 29 + 4 * j + i = 21 then (-4 : Int32) else if 29 + 4 * j + i = 9 then 1 else 0) = 0
        rw [if_neg (by omega), if_neg (by omega)]
      rw [this]
      rfl
    · rfl
  · exact h0_row (e _ (by omega) (by omega)) (ck_4 c) (by rw [cl_5 c]; rfl)
  · exact h0_row (e _ (by omega) (by omega)) (ck_6 c) (by rw [cl_7 c]; rfl)
  · exact h0_row (e _ (by omega) (by omega)) (ck_8 c) (by rw [cl_9 c]; rfl)
  · exact h0_row (e _ (by omega) (by omega)) (ck_10 c) (by rw [cl_11 c]; rfl)
  · exact h0_row (e _ (by omega) (by omega)) (ck_12 c) (by rw [cl_13 c]; rfl)
  · have w : ∀ j, h (K + 14) j = 0 := h0_z (e _ (by omega) (by omega)) (by rw [ck_14 c]; decide)
    refine ⟨Or.inl (w 4), ?_⟩
    rw [if_neg (show ¬ cl0.1 12 = 1 from (by decide : ¬ (0 : Int32) = 1)), if_pos (show cl0.1 21 = -4 from rfl)]
    exact w 0
theorem RWd_0 {h : Mem} {b : Nat} (hb : isB b) (e : ∀ k, b ≤ k → k < b + 96 → h k = h0 k) : RWd h b st0 := by
  obtain ⟨t0, t1, t2, t3, t4, t5, l1, l3, l5, hl⟩ := wkc_all hb
  have z : ∀ j, h b j = 0 := h0_z (e b (Nat.le_refl _) (by omega)) (by rw [t0]; decide)
  refine ⟨⟨z 3, z 4⟩, h0_row (e _ (by omega) (by omega)) t2 (by rw [l3]; rfl), h0_row (e _ (by omega) (by omega)) t4 (by rw [l5]; rfl), fun c hc => RK_0 (ckc_of hb hc) (fun k h1 h2 => e k (by omega) (by omega))⟩
theorem ST_0 {h : Mem} (e : ∀ a, a ≠ 391 → h a = h0 a) (R : RM (h 391) st0) : ST 1 h T0 := by
  have z0 : ∀ j, h 0 j = 0 := h0_z (e 0 (by decide)) (by rw [kd_0]; decide)
  have z1 : ∀ j, h 2 j = 0 := h0_z (e 2 (by decide)) (by decide +kernel)
  have z389 : ∀ j, h 389 j = 0 := h0_z (e 389 (by decide)) (by rw [kd_389]; decide)
  have z390 : ∀ j, h 390 j = 0 := h0_z (e 390 (by decide)) (by rw [kd_390]; decide)
  have z394 : ∀ j, h 394 j = 0 := h0_z (e 394 (by decide)) (by decide +kernel)
  have W : ∀ b, isB b → RWd h b st0 := fun b hb => RWd_0 hb (fun k h1 h2 => e k (by have := (wkc_all hb).2.2.2.2.2.2.2.2.2; omega))
  refine ⟨⟨W 100 (Or.inr (Or.inl rfl)), ?_, ⟨z1 1, Nat.zero_le _, fun j hj => absurd hj (Nat.not_lt_zero _)⟩, z0 6, fun k hk => ⟨z389 k, st0, ?_, fun s' hs => (by cases hs)⟩, st0, W 4 (Or.inl rfl), fun c hc => (show ¬ (0 : Int32) = 1 by decide)⟩, ⟨R, ⟨z390 5, Nat.zero_le _, fun h => absurd h (Nat.lt_irrefl _)⟩, ⟨z390 7, Nat.zero_le _, fun j hj => absurd hj (Nat.not_lt_zero _)⟩, z390 8, fun k hk => ⟨z394 k, fun s hs => (by cases hs)⟩⟩, ?_⟩
  · rw [z0 5]
    refine (pth_00 (fun i => ?_)).symm
    unfold lvO
    split
    · rw [g5_out (by exact Nat.zero_le _)]
      rfl
    · rfl
  · unfold imB
    split
    · exact W 197 (Or.inr (Or.inr (Or.inl rfl)))
    · exact W 293 (Or.inr (Or.inr (Or.inr rfl)))
  · refine ⟨⟨⟨fun c hc => CV_cl0, ?_, ?_, ?_⟩, 0, by omega, rfl⟩, ⟨Nat.zero_le _, fun x hx => (by cases hx)⟩, fun x hx => (by cases hx), fun k s hs => (by cases hs)⟩
    · exact ⟨fun r hr => (by cases hr), fun c hc => ⟨Or.inl rfl, Nat.zero_le _⟩, List.nodup_nil, fun r hr => (by cases hr)⟩
    · exact fun r hr => (by cases hr)
    · exact fun r hr => (by cases hr)
