/-! the class: carryFirst, and the packet dropped -/
theorem sT_comm {cl : Cl} {t u : Nat} {a b : List (List Int32)} (e : t ≠ u) : sT (sT cl t a) u b = sT (sT cl u b) t a := by
  show (cl.1, ud (ud cl.2 t a) u b) = (cl.1, ud (ud cl.2 u b) t a)
  congr 1
  funext j
  by_cases e1 : j = t
  · subst e1
    rw [ud_ne e, ud_eq, ud_eq]
  · by_cases e2 : j = u
    · subst e2
      rw [ud_eq, ud_ne e1, ud_eq]
    · rw [ud_ne e2, ud_ne e1, ud_ne e1, ud_ne e2]
theorem sS_sT {cl : Cl} {k t : Nat} {v : Int32} {a : List (List Int32)} : sS (sT cl t a) k v = sT (sS cl k v) t a := rfl
theorem A_pu_t {cl : Cl} {t : Nat} {X : List (List Int32)} (e : t ≠ 7) (k n : Int32) : A_pu (sT cl t X) k n = sT (A_pu cl k n) t X := by
  rw [A_pu_eq, A_pu_eq, sT_ne (Ne.symm e), sT_comm e]
theorem A_pd_t {cl : Cl} {t : Nat} {X : List (List Int32)} (e : t ≠ 6) (r : List Int32) : A_pd (sT cl t X) r = sT (A_pd cl r) t X := by
  rw [A_pd_eq, A_pd_eq, sT_ne (Ne.symm e), sT_comm e]
theorem A_takes_t {cl : Cl} {t : Nat} {X : List (List Int32)} (e : t ≠ 11) (l p v k : Int32) : A_takes (sT cl t X) l p v k = sT (A_takes cl l p v k) t X := by
  unfold A_takes
  rw [sT_ne (Ne.symm e), sT_1, sS_sT, sT_comm e]
theorem A_kix_t {cl : Cl} {t : Nat} {X : List (List Int32)} (e : t ≠ 8) (x : Int32) : A_kix (sT cl t X) x = A_kix cl x := by
  unfold A_kix
  rw [sT_ne (Ne.symm e)]
theorem A_unk_t {cl : Cl} {t : Nat} {X : List (List Int32)} (e : t ≠ 8) (x : Int32) : A_unk (sT cl t X) x = sT (A_unk cl x) t X := by
  unfold A_unk
  rw [A_kix_t e, sT_ne (Ne.symm e)]
  split
  · rfl
  · rw [sT_comm e]
theorem A_carD_t {cl : Cl} {X : List (List Int32)} (kind num l p v k : Int32) : A_carD (sT cl 6 X) kind num l p v k = sT (A_carD cl kind num l p v k) 6 X := by
  unfold A_carD
  split
  · rw [A_unk_t (by omega), A_pu_t (by omega)]
  · split
    · rw [A_kix_t (by omega)]
      split
      · rw [A_takes_t (by omega), sT_ne (by omega), sT_comm (by omega), A_pu_t (by omega)]
      · rw [A_pu_t (by omega)]
    · split
      · rw [A_takes_t (by omega), A_pu_t (by omega)]
      · rw [A_takes_t (by omega)]
theorem A_sends_t {cl : Cl} {t : Nat} {X : List (List Int32)} (e : t ≠ 6) (e4 : t ≠ 4) (i : Nat) : A_sends (sT cl t X) i = sT (A_sends cl i) t X := by
  unfold A_sends
  rw [sT_ne (Ne.symm e4)]
  split
  · rw [A_pd_t e]
  · rw [A_pd_t e]
theorem A_flies_t {cl : Cl} {t : Nat} {X : List (List Int32)} (e : t ≠ 6) (e4 : t ≠ 4) (l p v k : Int32) : A_flies (sT cl t X) l p v k = sT (A_flies cl l p v k) t X := by
  unfold A_flies
  rw [sT_ne (Ne.symm e4), sT_1, sT_comm e4, sS_sT (t := t), A_sends_t e e4]
theorem A_qgoL_t {t : Nat} {X : List (List Int32)} (e : t ≠ 6) (e4 : t ≠ 4) (e5 : t ≠ 5) : ∀ (qs : List (List Int32)) (cl : Cl), A_qgoL qs (sT cl t X) = sT (A_qgoL qs cl) t X
  | [], cl => rfl
  | q :: qs, cl => by
    unfold A_qgoL
    rw [sT_1, sT_ne (Ne.symm e4)]
    split
    · rw [sT_comm e5, A_flies_t e e4, A_qgoL_t e e4 e5 qs]
    · rfl
theorem A_qgo_t {cl : Cl} {t : Nat} {X : List (List Int32)} (e : t ≠ 6) (e4 : t ≠ 4) (e5 : t ≠ 5) : A_qgo (sT cl t X) = sT (A_qgo cl) t X := by
  unfold A_qgo
  rw [sT_ne (Ne.symm e5), A_qgoL_t e e4 e5]
theorem A_carU_t {cl : Cl} {X : List (List Int32)} (kind num : Int32) : A_carU (sT cl 7 X) kind num = sT (A_carU cl kind num) 7 X := by
  have ef : ∀ x p, A_fix (sT cl 7 X) x p = A_fix cl x p := by
    intro x p
    unfold A_fix
    rw [sT_ne (by omega)]
  unfold A_carU
  rw [ef]
  generalize (if kind = 1 then (1 : Int32) else 2) = pp
  split
  · rfl
  · unfold A_carU1
    rw [sT_ne (by omega)]
    split
    · rw [sT_comm (by omega), A_pd_t (by omega)]
    · split
      · unfold A_off
        rw [sT_ne (by omega), sT_1, sS_sT, sT_comm (by omega), A_qgo_t (by omega) (by omega) (by omega)]
      · rfl
theorem A_unk_ne {cl : Cl} {x : Int32} {t : Nat} (e : t ≠ 8) : (A_unk cl x).2 t = cl.2 t := by
  unfold A_unk
  split
  · rfl
  · exact sT_ne e
theorem A_carD_6 (cl : Cl) (kind num l p v k : Int32) : (A_carD cl kind num l p v k).2 6 = cl.2 6 := by
  unfold A_carD
  split
  · rw [A_pu_ne (by omega), A_unk_ne (by omega)]
  · split
    · split
      · rw [A_pu_ne (by omega), sT_ne (by omega), A_takes_ne (by omega)]
      · rw [A_pu_ne (by omega)]
    · split
      · rw [A_pu_ne (by omega), A_takes_ne (by omega)]
      · rw [A_takes_ne (by omega)]
theorem A_qgoL_ne : ∀ (qs : List (List Int32)) (cl : Cl) {t : Nat}, t ≠ 6 → t ≠ 4 → t ≠ 5 → (A_qgoL qs cl).2 t = cl.2 t
  | [], cl, _, _, _, _ => rfl
  | q :: qs, cl, t, e, e4, e5 => by
    unfold A_qgoL
    split
    · rw [A_qgoL_ne qs _ e e4 e5, A_flies_ne e e4, sT_ne e5]
    · rfl
theorem A_carU_7 (cl : Cl) (kind num : Int32) : (A_carU cl kind num).2 7 = cl.2 7 := by
  unfold A_carU
  generalize (if kind = 1 then (1 : Int32) else 2) = pp
  split
  · rfl
  · unfold A_carU1
    split
    · rw [A_pd_ne (by omega), sT_ne (by omega)]
    · split
      · unfold A_off A_qgo
        rw [A_qgoL_ne _ _ (by omega) (by omega) (by omega), sT_ne (by omega), sS_2]
      · rfl
theorem tg_2 {β : Type} {k : Nat} {o : Option β} (h : xkd k = 2) (hk : k < 390) : tg 2 k o = o := by
  unfold tg
  have e : xNC = 405 := by decide +kernel
  rw [if_pos ⟨by omega, h⟩]
/-- what the head of the line down keeps to -/
def HdD (cl : Cl) : Prop := (g5 (gr (cl.2 6) 0) 0 = 0 ∧ (g5 (gr (cl.2 6) 0) 3 = 0 ∨ g5 (gr (cl.2 6) 0) 3 = 1 ∨ g5 (gr (cl.2 6) 0) 3 = 2) ∧ (A_kix cl (g5 (gr (cl.2 6) 0) 1) = -4 → g5 (gr (cl.2 6) 0) 3 = 2 → (cl.2 8).length < 4)) ∨ g5 (gr (cl.2 6) 0) 0 = 3
theorem C_firstD {h : Mem} {K : Nat} {cl : Cl} (c : CK K) (R : RK h K cl) (w : Wd cl) (hl : 0 < (cl.2 6).length) (hd : HdD cl) : Tr (f_X0_carryFirst K 0 h) (fun _ h' => RK h' K (A_carD cl (g5 (gr (cl.2 6) 0) 0) (g5 (gr (cl.2 6) 0) 1) (g5 (gr (cl.2 6) 0) 2) (g5 (gr (cl.2 6) 0) 3) (g5 (gr (cl.2 6) 0) 4) (g5 (gr (cl.2 6) 0) 5)) ∧ FrK K h h') := by
  have D := R.2.2.2.2.1
  have I6 := c.2.1.2.2.1
  have x3 := c.1.2.2.2.1
  have c0 : f_X3_cell (K + 6) 0 0 h = some (g5 (gr (cl.2 6) 0) 0, h) := C_cell (i := 0) (j := 0) I6 D hl (by omega)
  have c1 : f_X3_cell (K + 6) 0 1 h = some (g5 (gr (cl.2 6) 0) 1, h) := C_cell (i := 0) (j := 1) I6 D hl (by omega)
  have hK := c.2.2.2.2
  unfold f_X0_carryFirst f_X0_packets
  rw [if_pos rfl, b2_some, x3, tg_2 c.2.2.2.1.1 (by omega), c0, b2_some, c1, b2_some, if_pos rfl]
  rcases hd with ⟨k0, hp, h4⟩ | k3
  · rw [if_pos k0, k0]
    exact wB (C_letter c R hl _ hp h4) (fun _ g P => wR P)
  · rw [if_neg (by rw [k3]; decide), k3, c.1.2.2.2.2.2.1, c.1.2.2.2.2.1]
    unfold A_carD
    rw [if_pos rfl]
    have z := C_unk c R w (g5 (gr (cl.2 6) 0) 1)
    obtain ⟨v, g, e, P⟩ := z
    have e2 : (b2 (f_X3_find (K + 10) 0 (g5 (gr (cl.2 6) 0) 1) h) fun v8 h7 => b2 (f_X3_remove (K + 10) v8 h7) fun _ h9 => b2 (f_X0_sendBare K (K + 8) 4 (g5 (gr (cl.2 6) 0) 1) h9) fun _ h10 => some ((), h10)) = b2 (f_X0_sendBare K (K + 8) 4 (g5 (gr (cl.2 6) 0) 1) g) fun _ h10 => some ((), h10) := by
      cases hf : f_X3_find (K + 10) 0 (g5 (gr (cl.2 6) 0) 1) h with
      | none =>
        rw [hf] at e
        cases e
      | some r =>
        obtain ⟨r1, r2⟩ := r
        rw [hf] at e
        have e' : f_X3_remove (K + 10) r1 r2 = some (v, g) := e
        rw [b2_some, e', b2_some]
    rw [e2]
    exact wB (C_pu c P.1 4 _) (fun _ g2 Q => wR ⟨Q.1, P.2.tr Q.2⟩)
theorem C_firstU {h : Mem} {K : Nat} {cl : Cl} (c : CK K) (R : RK h K cl) (w : Wd cl) (ok : FlOk cl) (hl : 0 < (cl.2 7).length) (hk : g5 (gr (cl.2 7) 0) 0 = 1 ∨ g5 (gr (cl.2 7) 0) 0 = 2 ∨ g5 (gr (cl.2 7) 0) 0 = 4) : Tr (f_X0_carryFirst K 1 h) (fun _ h' => RK h' K (A_carU cl (g5 (gr (cl.2 7) 0) 0) (g5 (gr (cl.2 7) 0) 1)) ∧ FrK K h h') := by
  have D := R.2.2.2.2.2.1
  have I8 := c.2.1.2.2.2.1
  have x4 := c.1.2.2.2.2.1
  have e : gr ((cl.2 7).map umR) 0 = umR (gr (cl.2 7) 0) := by
    have z := gr_mapl (q := []) hl umR umR
    simpa using z
  have c0 : f_X3_cell (K + 8) 0 0 h = some (g5 (gr (cl.2 7) 0) 0, h) := by
    have z := C_cell (i := 0) (j := 0) I8 D (by simpa using hl) (by omega)
    rw [e] at z
    exact z
  have c1 : f_X3_cell (K + 8) 0 1 h = some (g5 (gr (cl.2 7) 0) 1, h) := by
    have z := C_cell (i := 0) (j := 1) I8 D (by simpa using hl) (by omega)
    rw [e] at z
    exact z
  have hK := c.2.2.2.2
  have n1 : ¬ (1 : Int32) = 0 := by decide
  unfold f_X0_carryFirst f_X0_packets
  rw [if_neg n1, b2_some, x4, tg_2 c.2.2.2.1.2 (by omega), c0, b2_some, c1, b2_some, if_neg n1]
  exact wB (C_carU c R w ok _ _ hk) (fun _ g P => wR P)
/-- the rest of carry, behind the packets that were found -/
theorem C_car {h : Mem} {K : Nat} {cl : Cl} (c : CK K) (R : RK h K cl) (w : Wd cl) (ok : FlOk cl) (y a : Int32) (hy : y = 0 ∨ y = 1) (ha : a = 0 ∨ a = 1 ∨ a = 2) (hl : 0 < (cl.2 (if y = 0 then 6 else 7)).length) (hD : y = 0 → HdD cl) (hU : y = 1 → g5 (gr (cl.2 7) 0) 0 = 1 ∨ g5 (gr (cl.2 7) 0) 0 = 2 ∨ g5 (gr (cl.2 7) 0) 0 = 4) : Tr (b2 (f_X3_cell (if y = 0 then K + 6 else K + 8) 0 0 h) fun v13 h12 => if a = 1 then f_X7_carry_88 a (if y = 0 then K + 6 else K + 8) v13 h12 else b2 (f_X0_carryFirst K y h12) fun _ h14 => f_X7_carry_88 a (if y = 0 then K + 6 else K + 8) v13 h14) (fun r h' => r = pkt cl y 0 ∧ RK h' K (A_car cl y a) ∧ FrK K h h') := by
  have n1 : ¬ (1 : Int32) = 0 := by decide
  rcases hy with rfl | rfl
  · rw [if_pos rfl] at hl ⊢
    have D := R.2.2.2.2.1
    have I6 := c.2.1.2.2.1
    have c0 : f_X3_cell (K + 6) 0 0 h = some (g5 (gr (cl.2 6) 0) 0, h) := C_cell (i := 0) (j := 0) I6 D hl (by omega)
    have first := C_firstD c R w hl (hD rfl)
    have ek : pkt cl 0 0 = g5 (gr (cl.2 6) 0) 0 := rfl
    unfold f_X7_carry_88
    rw [c0, b2_some, ek]
    rcases ha with rfl | rfl | rfl
    · rw [if_neg (by decide)]
      refine wB first (fun _ g P => ?_)
      have D2 := P.1.2.2.2.2.1
      rw [A_carD_6] at D2
      rw [if_neg (by decide)]
      refine wB (C_remove (i := 0) I6 D2 hl) (fun _ g2 Q => wR ⟨rfl, ?_, P.2.tr (Q.2.k (i := 6) (by omega))⟩)
      have z := P.1.dn c Q.1 Q.2
      rw [← A_carD_t] at z
      exact z
    · rw [if_pos rfl, if_neg (by decide)]
      refine wB (C_remove (i := 0) I6 D hl) (fun _ g2 Q => wR ⟨rfl, R.dn c Q.1 Q.2, Q.2.k (i := 6) (by omega)⟩)
    · rw [if_neg (by decide)]
      refine wB first (fun _ g P => ?_)
      rw [if_pos rfl]
      exact wR ⟨rfl, P.1, P.2⟩
  · rw [if_neg n1] at hl ⊢
    have D := R.2.2.2.2.2.1
    have I8 := c.2.1.2.2.2.1
    have e : gr ((cl.2 7).map umR) 0 = umR (gr (cl.2 7) 0) := by
      have z := gr_mapl (q := []) hl umR umR
      simpa using z
    have hl' : 0 < ((cl.2 7).map umR).length := by simpa using hl
    have c0 : f_X3_cell (K + 8) 0 0 h = some (g5 (gr (cl.2 7) 0) 0, h) := by
      have z := C_cell (i := 0) (j := 0) I8 D hl' (by omega)
      rw [e] at z
      exact z
    have first := C_firstU c R w ok hl (hU rfl)
    have ek : pkt cl 1 0 = g5 (gr (cl.2 7) 0) 0 := rfl
    unfold f_X7_carry_88
    rw [c0, b2_some, ek]
    rcases ha with rfl | rfl | rfl
    · rw [if_neg (by decide)]
      refine wB first (fun _ g P => ?_)
      have D2 := P.1.2.2.2.2.2.1
      rw [A_carU_7] at D2
      rw [if_neg (by decide)]
      refine wB (C_remove (i := 0) I8 D2 hl') (fun _ g2 Q => wR ⟨rfl, ?_, P.2.tr (Q.2.k (i := 8) (by omega))⟩)
      have q := Q.1
      rw [er_map] at q
      have z := P.1.up q Q.2
      rw [← A_carU_t] at z
      exact z
    · rw [if_pos rfl, if_neg (by decide)]
      refine wB (C_remove (i := 0) I8 D hl') (fun _ g2 Q => wR ⟨rfl, ?_, Q.2.k (i := 8) (by omega)⟩)
      have q := Q.1
      rw [er_map] at q
      exact R.up q Q.2
    · rw [if_neg (by decide)]
      refine wB first (fun _ g P => ?_)
      rw [if_pos rfl]
      exact wR ⟨rfl, P.1, P.2⟩
