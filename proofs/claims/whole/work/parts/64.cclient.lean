/-! the class: a client -/
def ckB (K : Nat) : Bool := xrf K 0 == K + 1 && xrf K 1 == K + 3 && xrf K 2 == K + 4 && xrf K 3 == K + 6 && xrf K 4 == K + 8 && xrf K 5 == K + 10 && xrf K 6 == K + 12 && xrf K 7 == K + 14 && xrf (K + 1) 2 == K + 2 && xln (K + 2) == 18 && xrf (K + 4) 2 == K + 5 && xln (K + 5) == 96 && xrf (K + 6) 2 == K + 7 && xln (K + 7) == 96 && xrf (K + 8) 2 == K + 9 && xln (K + 9) == 96 && xrf (K + 10) 2 == K + 11 && xln (K + 11) == 4 && xrf (K + 12) 2 == K + 13 && xln (K + 13) == 120 && xln (K + 3) == 4 && xkd (K + 6) == 2 && xkd (K + 8) == 2 && Nat.blt (K + 15) 390
theorem ckB_all : ∀ c, c < 6 → ckB (4 + 6 + 15 * c) = true ∧ ckB (100 + 6 + 15 * c) = true ∧ ckB (197 + 6 + 15 * c) = true ∧ ckB (293 + 6 + 15 * c) = true := by decide +kernel
def isB (b : Nat) : Prop := b = 4 ∨ b = 100 ∨ b = 197 ∨ b = 293
/-- the shape of a client at K -/
def CK (K : Nat) : Prop := (xrf K 0 = K + 1 ∧ xrf K 1 = K + 3 ∧ xrf K 2 = K + 4 ∧ xrf K 3 = K + 6 ∧ xrf K 4 = K + 8 ∧ xrf K 5 = K + 10 ∧ xrf K 6 = K + 12 ∧ xrf K 7 = K + 14) ∧ (IsR (K + 1) 6 3 ∧ IsR (K + 4) 16 6 ∧ IsR (K + 6) 16 6 ∧ IsR (K + 8) 16 6 ∧ IsR (K + 10) 4 1 ∧ IsR (K + 12) 30 4) ∧ xln (K + 3) = 4 ∧ (xkd (K + 6) = 2 ∧ xkd (K + 8) = 2) ∧ K + 15 < 390
theorem CK_of {b c : Nat} (hb : isB b) (hc : c < 6) : CK (b + 6 + 15 * c) := by
  have key : ∀ K, ckB K = true → CK K := by
    intro K h
    unfold ckB at h
    simp only [Bool.and_eq_true, beq_iff_eq, Nat.blt_eq] at h
    obtain ⟨⟨⟨⟨⟨⟨⟨⟨⟨⟨⟨⟨⟨⟨⟨⟨⟨⟨⟨⟨⟨⟨⟨a1, a2⟩, a3⟩, a4⟩, a5⟩, a6⟩, a7⟩, a8⟩, b1⟩, b2⟩, b3⟩, b4⟩, b5⟩, b6⟩, b7⟩, b8⟩, b9⟩, b10⟩, b11⟩, b12⟩, c1⟩, c2⟩, c3⟩, c4⟩ := h
    exact ⟨⟨a1, a2, a3, a4, a5, a6, a7, a8⟩, ⟨⟨b1, b2, by omega, by omega, by omega, by omega⟩, ⟨b3, b4, by omega, by omega, by omega, by omega⟩, ⟨b5, b6, by omega, by omega, by omega, by omega⟩, ⟨b7, b8, by omega, by omega, by omega, by omega⟩, ⟨b9, b10, by omega, by omega, by omega, by omega⟩, ⟨b11, b12, by omega, by omega, by omega, by omega⟩⟩, c1, ⟨c2, c3⟩, c4⟩
  have z := ckB_all c hc
  rcases hb with rfl | rfl | rfl | rfl
  · exact key _ z.1
  · exact key _ z.2.1
  · exact key _ z.2.2.1
  · exact key _ z.2.2.2
/-- the levels of a row, of four scalars -/
def lvR (r : List Int32) : Nat → Nat := fun j => if j < 4 then (g5 r j).toNatClampNeg else 0
def lvS (f : Nat → Int32) (k : Nat) : Nat → Nat := fun j => if j < 4 then (f (k + j)).toNatClampNeg else 0
def fmR (r : List Int32) : List Int32 := [g5 r 0, g5 r 1, g5 r 2, g5 r 3, g5 r 5, g5 r 4]
def qmR (r : List Int32) : List Int32 := [0, g5 r 0, g5 r 1, g5 r 2, 0, g5 r 3]
def umR (r : List Int32) : List Int32 := [g5 r 0, g5 r 1, -4, -4, -4, 0]
def smR (r : List Int32) : List Int32 := [pth (lvR r), g5 r 4, g5 r 5]
/-- the will's object -/
def RW (h : Mem) (W : Nat) (s : Nat → Int32) : Prop :=
  (h W 4 = 0 ∨ h W 4 = 1) ∧ if s 12 = 1 then h W 0 = 1 ∧ h W 1 = pth (lvS s 13) ∧ h W 2 = s 17 ∧ h W 3 = s 18 ∧ h W 4 = s 19 ∧ h W 5 = s 20
  else if s 21 = -4 then h W 0 = 0
  else h W 0 = 2 ∧ h W 1 = pth (lvS s 22) ∧ h W 2 = s 26 ∧ h W 3 = s 27 ∧ h W 4 = s 28 ∧ h W 6 = s 21
/-- the client at K -/
def RK (h : Mem) (K : Nat) (cl : Cl) : Prop :=
  (h K 8 = cl.1 0 ∧ h K 9 = cl.1 1 ∧ h K 10 = cl.1 2 ∧ h K 11 = nI (cl.2 4).length ∧ h K 12 + 1 = cl.1 9 ∧ h K 13 = cl.1 50 ∧ h K 14 = cl.1 51 ∧ h K 15 = cl.1 10 ∧ h K 16 = cl.1 52) ∧
  RR h (K + 1) 6 3 ((cl.2 3).map smR) ∧ (∀ j, j < 4 → h (K + 3) j = pth (lvS cl.1 (29 + 4 * j))) ∧
  RR h (K + 4) 16 6 ((cl.2 4).map fmR ++ (cl.2 5).map qmR) ∧ RR h (K + 6) 16 6 (cl.2 6) ∧ RR h (K + 8) 16 6 ((cl.2 7).map umR) ∧
  (∃ kn, RR h (K + 10) 4 1 kn ∧ kn.Perm (cl.2 8)) ∧ RR h (K + 12) 30 4 (cl.2 11) ∧ RW h (K + 14) cl.1
/-- a step of one client touches that client's cells alone -/
def FrK (K : Nat) (h h' : Mem) : Prop := ∀ a, a < K ∨ K + 15 ≤ a → h' a = h a
theorem FrK.rf {K : Nat} {h : Mem} : FrK K h h := fun _ _ => rfl
theorem FrK.tr {K : Nat} {h h1 h2 : Mem} (a : FrK K h h1) (b : FrK K h1 h2) : FrK K h h2 := fun z hz => (b z hz).trans (a z hz)
theorem FrR.k {K i : Nat} {h h' : Mem} (hi : i ≤ 13) (f : FrR (K + i) h h') : FrK K h h' := fun a ha => f.1 a (by omega) (by omega)
/-- a bare packet is appended, if there is room -/
theorem C_sendBare {h : Mem} {K k : Nat} {rows : List (List Int32)} (I : IsR k 16 6) (R : RR h k 16 6 rows) (kd nm : Int32) : Tr (f_X0_sendBare K k kd nm h) (fun _ h' => RR h' k 16 6 (if rows.length < 16 then rows ++ [[kd, nm, -4, -4, -4, 0]] else rows) ∧ FrR k h h') := by
  unfold f_X0_sendBare
  by_cases hl : rows.length < 16
  · rw [if_pos hl]
    refine wB (C_open I R hl) (fun r g0 P0 => ?_)
    rw [P0.1]
    refine wB (C_putL (j := 0) I P0.2.1 (by omega) rfl kd) (fun _ g1 P1 => ?_)
    refine wB (C_putL (j := 1) I P1.1 (by omega) rfl nm) (fun _ g2 P2 => ?_)
    refine wB (C_putL (j := 2) I P2.1 (by omega) rfl (-4)) (fun _ g3 P3 => ?_)
    refine wB (C_putL (j := 3) I P3.1 (by omega) rfl (-4)) (fun _ g4 P4 => ?_)
    refine wB (C_putL (j := 4) I P4.1 (by omega) rfl (-4)) (fun _ g5' P5 => ?_)
    exact wR ⟨P5.1, ((((P0.2.2.tr P1.2).tr P2.2).tr P3.2).tr P4.2).tr P5.2⟩
  · rw [if_neg hl, C_openN I R hl, b2_some, C_putN, b2_some, C_putN, b2_some, C_putN, b2_some, C_putN, b2_some, C_putN, b2_some]
    exact wR ⟨R, FrR.rf⟩
