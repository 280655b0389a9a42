/-! both systems side by side: a call of each from states that agree -/
def ST (B : Nat) (h : Mem) (T : Top) : Prop := RCo h T ∧ RMo h T ∧ TV B T
def PR (f g : Mem → Option (Int32 × Mem)) : Prop := ∀ (B : Nat), 1 ≤ B → B + 20000 < 2 ^ 30 → ∀ (T : Top) (h : Mem), ST B h T → ∃ r h1 h2 T', f h = some (r, h1) ∧ g h1 = some (r, h2) ∧ ST (B + 13000) h2 T'
theorem RCo.hi {h h' : Mem} {T : Top} (R : RCo h T) (e : ∀ a, a < 390 → h' a = h a) : RCo h' T := by
  obtain ⟨r1, r2, ⟨r3, r4, r5⟩, r6, r7, dr, r8, r9⟩ := R
  refine ⟨r1.frm (fun a h1 h2 => e a (by omega)), by rw [e 0 (by omega)]; exact r2, ⟨by rw [e 2 (by omega)]; exact r3, r4, fun j hj => by rw [e 3 (by omega)]; exact r5 j hj⟩, by rw [e 0 (by omega)]; exact r6, fun k hk => ?_, dr, r8.frm (fun a h1 h2 => e a (by omega)), r9⟩
  obtain ⟨q1, s, q2, q3⟩ := r7 k hk
  have il := im_lo k
  exact ⟨by rw [e 389 (by omega)]; exact q1, s, q2.frm (fun a h1 h2 => e a (by omega)), q3⟩
theorem PR.of {f g : Mem → Option (Int32 × Mem)} {o : Top → Int32 × Top} (X : ∀ (B : Nat), 1 ≤ B → B + 20000 < 2 ^ 30 → ∀ T, TV B T → CO f (o T) B T) (M : ∀ (B : Nat) T, TV B T → MO g o T) : PR f g := by
  intro B b1 b2 T h S
  obtain ⟨R, Q, V⟩ := S
  obtain ⟨r, h1, e1, er, R1, V1, k1⟩ := X B b1 b2 T V h R
  have Q1 : RMo h1 T := Q.fr (fun a h1 h2 => k1 a h1)
  obtain ⟨r2, h2, e2, er2, Q2, k2⟩ := M B T V h1 Q1
  exact ⟨r, h1, h2, (o T).2, e1, by rw [e2, er2, er], R1.hi k2, Q2, V1⟩
theorem TV.sh {B : Nat} {T : Top} (V : TV B T) : ShOk T.1 := V.1.1.2.1
theorem TV.wd {B : Nat} {T : Top} (V : TV B T) : ∀ c, c < 6 → Wd (T.1.2.2 c) ∧ ((T.1.2.2 c).2 8).length < 560 := fun c hc => by
  have C := V.1.1.1 c hc
  have a := C.2.2.2.2.1.kn4
  have b := C.2.2.1.1
  exact ⟨C.2.1, by omega⟩
theorem P_feed (x : Int32) : PR (f_X7_feed 0 x) (f_X8_feed 390 x) := PR.of (o := fun T => O_feed T x) (fun B b1 b2 T V => X_feed T V x) (fun B T V => M_feed T x)
theorem P_end (x : Int32) : PR (f_X7_end 0 x) (f_X8_end 390 x) := PR.of (o := fun T => O_end T x) (fun B b1 b2 T V => X_end T V x) (fun B T V => M_end T x)
theorem P_text : PR (f_X7_text 0) (f_X8_text 390) := PR.of (o := O_text) (fun B b1 b2 T V => X_text T V) (fun B T V => M_text T)
theorem P_fault : PR (f_X7_fault 0) (f_X8_fault 390) := PR.of (o := O_fault) (fun B b1 b2 T V => X_fault T V) (fun B T V => M_fault T)
theorem P_top : PR (f_X7_top 0) (f_X8_top 390) := PR.of (o := O_top) (fun B b1 b2 T V => X_top T V) (fun B T V => M_top T)
theorem P_level (x : Int32) : PR (f_X7_level 0 x) (f_X8_level 390 x) := PR.of (o := fun T => O_level T x) (fun B b1 b2 T V => X_level T V x) (fun B T V => M_level T x)
theorem P_again (x : Int32) : PR (f_X7_again 0 x) (f_X8_again 390 x) := PR.of (o := fun T => O_again T x) (fun B b1 b2 T V => X_again T V x) (fun B T V => M_again T x)
theorem P_wake (x y z : Int32) : PR (f_X7_wake 0 x y z) (f_X8_wake 390 x y z) := PR.of (o := fun T => O_wake T x y z) (fun B b1 b2 T V => X_wake T V b1 (by omega) x y z) (fun B T V => M_wake T x y z)
theorem P_sleep (x y : Int32) : PR (f_X7_sleep 0 x y) (f_X8_sleep 390 x y) := PR.of (o := fun T => O_sleep T x y) (fun B b1 b2 T V => X_sleep T V b1 (by omega) x y) (fun B T V => M_sleep T V.sh x y)
theorem P_tick (x : Int32) : PR (f_X7_tick 0 x) (f_X8_tick 390 x) := PR.of (o := fun T => O_tick T x) (fun B b1 b2 T V => X_tick T V b1 b2 x) (fun B T V => M_tick T V.sh x)
theorem P_carry (x y z : Int32) : PR (f_X7_carry 0 x y z) (f_X8_carry 390 x y z) := PR.of (o := fun T => O_carry T x y z) (fun B b1 b2 T V => X_carry T V (by omega) x y z) (fun B T V => M_carry T V.wd x y z)
theorem P_will (a b c d e : Int32) : PR (f_X7_will 0 a b c d e) (f_X8_will 390 a b c d e) := PR.of (o := fun T => O_will T a b c d e) (fun B b1 b2 T V => X_will T V a b c d e) (fun B T V => M_will T a b c d e)
theorem P_alias (x y : Int32) : PR (f_X7_alias 0 x y) (f_X8_alias 390 x y) := PR.of (o := fun T => O_alias T x y) (fun B b1 b2 T V => X_alias T V x y) (fun B T V => M_alias T x y)
theorem P_say (a b c d e : Int32) : PR (f_X7_say 0 a b c d e) (f_X8_say 390 a b c d e) := PR.of (o := fun T => O_say T a b c d e) (fun B b1 b2 T V => X_say T V (by omega) a b c d e) (fun B T V => M_say T V.sh a b c d e)
theorem P_leave (x y : Int32) : PR (f_X7_leave 0 x y) (f_X8_leave 390 x y) := PR.of (o := fun T => O_leave T x y) (fun B b1 b2 T V => X_leave T V x y) (fun B T V => M_leave T x y)
theorem P_subscribe (x y z : Int32) : PR (f_X7_subscribe 0 x y z) (f_X8_subscribe 390 x y z) := PR.of (o := fun T => O_subscribe T x y z) (fun B b1 b2 T V => X_subscribe T V (by omega) x y z) (fun B T V => M_subscribe T (fun c hc => (V.wd c hc).1) x y z)
theorem P_rule (x : Int32) : PR (f_X7_rule 0 x) (f_X8_rule 390 x) := PR.of (o := fun T => O_rule T x) (fun B b1 b2 T V => X_rule T V x) (fun B T V => M_rule T V.sh x)
theorem P_client (x y : Int32) : PR (f_X7_client 0 x y) (f_X8_client 390 x y) := PR.of (o := fun T => O_client T x y) (fun B b1 b2 T V => X_client T V x y) (fun B T V => M_client T x y)
theorem P_had (x : Int32) : PR (f_X7_had 0 x) (f_X8_had 390 x) := PR.of (o := fun T => O_had T x) (fun B b1 b2 T V => X_had T V x) (fun B T V => M_had T x)
theorem P_keep (x : Int32) : PR (f_X7_keep 0 x) (f_X8_keep 390 x) := PR.of (o := fun T => O_keep T x) (fun B b1 b2 T V => X_keep T V x) (fun B T V => M_keep T x)
theorem P_back (x : Int32) : PR (f_X7_back 0 x) (f_X8_back 390 x) := PR.of (o := fun T => O_back T x) (fun B b1 b2 T V => X_back T V x) (fun B T V => M_back T x)
theorem P_kept (x y : Int32) : PR (f_X7_kept 0 x y) (f_X8_kept 390 x y) := PR.of (o := fun T => O_kept T x y) (fun B b1 b2 T V => X_kept T V x y) (fun B T V => M_kept T x y)
theorem P_subscription (x y z : Int32) : PR (f_X7_subscription 0 x y z) (f_X8_subscription 390 x y z) := PR.of (o := fun T => O_subscription T x y z) (fun B b1 b2 T V => X_subscription T V x y z) (fun B T V => M_subscription T x y z)
theorem P_took (x y z : Int32) : PR (f_X7_took 0 x y z) (f_X8_took 390 x y z) := PR.of (o := fun T => O_took T x y z) (fun B b1 b2 T V => X_took T V x y z) (fun B T V => M_took T x y z)
theorem P_flight (x y z : Int32) : PR (f_X7_flight 0 x y z) (f_X8_flight 390 x y z) := PR.of (o := fun T => O_flight T x y z) (fun B b1 b2 T V => X_flight T V x y z) (fun B T V => M_flight T x y z)
theorem P_line (x y z w : Int32) : PR (f_X7_line 0 x y z w) (f_X8_line 390 x y z w) := PR.of (o := fun T => O_line T x y z w) (fun B b1 b2 T V => X_line T V x y z w) (fun B T V => M_line T x y z w)
