/-! the law: from its loop's head on -/
def LC (G : xG) (p : Program) (s : State) (m : MethodId) (meth : Method) (c : Code) (b L : Nat) (xs : Nat → Int32) : Prop := lw_At p s m meth c b L xs ∧ xInj G ∧ (∀ k, k < xNC → s.heap.size ≤ G.1 k) ∧ va_K G.2.1 vwCl (xtys G) s ∧ xNest s ∧ xStr G s
def LW (G : xG) (p : Program) (l : Launch) (e : Env) (s : State) (m : MethodId) (below : List Frame) (meth : Method) (c : Code) (b ce sl pc : Nat) (ls : List (Nat × Value)) (st : List Value) (h : Mem) : Prop :=
  ∀ (H : Heap) (locs : List Loc) (lsA : Array Slot), va_P G.2.1 vwCl (xwl G h) H → va_S (fun q : Nat => s.heap.size ≤ q) s.heap H locs → lv_has lsA 4 ls → W p l e room_1 s m #[Value.ref b] below meth c H locs ce sl (lw_Z below #[Value.ref b] s) (F0 m pc lsA st)
abbrev lwl (G : xG) (b i : Nat) : List (Nat × Value) := [(0, .ref b), (1, .ref (G.1 0)), (2, .ref (G.1 390)), (3, .int (nI i))]
theorem t_c0 : xTy 0 6 := ⟨by decide +kernel, by decide +kernel⟩
theorem t_c390 : xTy 390 7 := ⟨by decide +kernel, by decide +kernel⟩
section LAW
variable {G : xG} {p : Program} {l : Launch} {e : Env} {s : State} {m : MethodId} {below : List Frame} {meth : Method} {c : Code} {b L : Nat} {xs : Nat → Int32} {ce sl pc i : Nat} {st : List Value} {h : Mem}
theorem q_al1 (C : LC G p s m meth c b L xs) (hd : decode code pc = .ok (.aload_n 1, 1)) (K : LW G p l e s m below meth c b ce sl (pc + 1) (lwl G b i) (.ref (G.1 0) :: st) h) : LW G p l e s m below meth c b ce sl pc (lwl G b i) st h :=
  fun H locs lsA hP hS hl => lv_aload_n C.1.1 C.1.2.1 hd rfl (lv_at hl 1 rfl) (K H locs lsA hP hS hl)
theorem q_al2 (C : LC G p s m meth c b L xs) (hd : decode code pc = .ok (.aload_n 2, 1)) (K : LW G p l e s m below meth c b ce sl (pc + 1) (lwl G b i) (.ref (G.1 390) :: st) h) : LW G p l e s m below meth c b ce sl pc (lwl G b i) st h :=
  fun H locs lsA hP hS hl => lv_aload_n C.1.1 C.1.2.1 hd rfl (lv_at hl 2 rfl) (K H locs lsA hP hS hl)
theorem q_sld (C : LC G p s m meth c b L xs) (hL : L ≤ 3072) {k : Nat} (hk : k < L) (hd : decode code pc = .ok (.iaload, 1)) (K : LW G p l e s m below meth c b ce sl (pc + 1) (lwl G b i) (.int (xs k) :: st) h) : LW G p l e s m below meth c b ce sl pc (lwl G b i) (.int (nI k) :: .ref b :: st) h := by
  intro H locs lsA hP hS hl
  obtain ⟨hx, hb, hr, hml, hown, hts, hX, hbl, hlocks, hgv⟩ := C.1
  have K' := K H locs lsA hP hS hl
  have hbA : ¬ (fun q : Nat => s.heap.size ≤ q) b := Nat.not_le.mpr hbl
  refine va_sld hx hb hX hbl hbA hS (vp_in_nI hk (by omega)) hd ?_
  rw [nI_clamp (by omega)]
  exact K'
theorem q_arg (C : LC G p s m meth c b L xs) (hL : L ≤ 3072) {k : Nat} {kk : Int} (hi : i + k < L) (d0 : decode code pc = .ok (.aload_n 0, 1)) (d1 : decode code (pc + 1) = .ok (.iload_n 3, 1)) (d2 : decode code (pc + 2) = .ok (.iconst kk, 1)) (hk : Int32.ofInt kk = nI k) (d3 : decode code (pc + 3) = .ok (.iadd, 1)) (d4 : decode code (pc + 4) = .ok (.iaload, 1)) (K : LW G p l e s m below meth c b ce sl (pc + 5) (lwl G b i) (.int (xs (i + k)) :: st) h) : LW G p l e s m below meth c b ce sl pc (lwl G b i) st h := by
  intro H locs lsA hP hS hl
  obtain ⟨hx, hb, hr, hml, hown, hts, hX, hbl, hlocks, hgv⟩ := id C.1
  refine lv_aload_n hx hb d0 rfl (lv_at hl 0 rfl) ?_
  refine lv_iload_n hx hb d1 rfl (lv_at hl 3 rfl) ?_
  refine lv_iconst hx hb d2 hk ?_
  refine lv_iadd hx hb d3 ?_
  rw [nI_add]
  exact q_sld C hL hi d4 K H locs lsA hP hS hl
theorem q_eq (C : LC G p s m meth c b L xs) {off : Int} {tgt : Nat} {r : Int32} (hd : decode code pc = .ok (.if_icmp .eq off, 3)) (ht : (pc : Int) + off = (tgt : Int)) (K : LW G p l e s m below meth c b ce sl tgt (lwl G b i) st h) : LW G p l e s m below meth c b ce sl pc (lwl G b i) (.int r :: .int r :: st) h :=
  fun H locs lsA hP hS hl => lv_icmp_eq C.1.1 C.1.2.1 hd ht (fun _ => K H locs lsA hP hS hl) (fun q => absurd rfl q)
theorem LC.hts (C : LC G p s m meth c b L xs) : ∀ w ∈ xgt, w.before #[Value.ref b] s = true := fun w hw => C.1.2.2.2.2.2.1 w (List.mem_filter.mp hw).1
theorem q_call (C : LC G p s m meth c b L xs) {d' idx n k ci N : Nat} {T : u_T} {y : MethodName} {Fy : xF} {ls : List (Nat × Value)} {st rest As : List Value} {oy : Option (Int32 × Mem)} {r : Int32} {h1 : Mem}
    (hd : decode code pc = .ok (.invokevirtual idx, 3)) (hm : xMI y Fy n) (hl : Cond.methodLink R_law idx y ∈ xgt) (hc : vwCl[ci]? = some (y.cls, T, N)) (hci : ci < 8) (ht : xTy k ci) (S : Sm G d' y Fy xcI (.ref (G.1 k) :: As) h oy) (hdd : d' ≤ 9) (hn : As.length = n) (hst : st = As.reverse ++ .ref (G.1 k) :: rest) (hW : (rest.map fun v => v.category).sum ≤ 8) (ho : oy = some (r, h1))
    (K : LW G p l e s m below meth c b ce sl (pc + 3) ls (.int r :: rest) h1) (hce : ce ≤ 600000 := by assumption) (hsl : sl ≤ 7302250 := by assumption) : LW G p l e s m below meth c b ce sl pc ls st h := by
  intro H locs lsA hP hS hv
  have hM := S _ ho l
  have hts := C.hts
  obtain ⟨⟨w1, w2, w3, w4⟩, hds, h21⟩ := hm
  obtain ⟨⟨hx, hb, hr, hml, hown, -, hX, hbl, hlocks, hgv⟩, hI, hge, hK, hN, hSt⟩ := id C
  have hG : GoodIn xgt (Cond.code y Fy.2.1 Fy.2.2.1 Fy.2.2.2 :: xgt) := fun w hw => (List.mem_cons.mp hw).elim (fun q => by rw [q]; exact xgt_good _ w1) (fun q => xgt_good w q)
  have hR : (xrm d').frames + 1 ≤ room_1.frames ∧ 8 + (Fy.2.2.1 + 11) + (xrm d').locals ≤ room_1.locals := ⟨by show d' + 1 ≤ 12; omega, by show _ + 40 * d' ≤ 512; omega⟩
  have he : (xwl G h)[k]? = some (G.1 k, .inr (ci, xfl G.1 h k (xfs ci) 0)) := by rw [xwl_get G h ht.1, xE_obj ht hci]
  have hpre : PreV s H y.cls (G.1 k) (xPx G (.ref (G.1 k) :: As) h) As := ⟨xPx_blind, va_recv hK hP hc he, fun U hU hW => ⟨rfl, by rw [hU]; exact hP, va_K.moved hW.alike hK, hN.warm hW, hSt.warm hW (fun a h1 h2 => by rw [hU]; exact hS.2.1 a h1 (Nat.not_le.mpr h1)), hI⟩⟩
  subst hst
  have R := va_runV (p := p) (l := l) (e := e) (R := room_1) (below := below) (meth := meth) (locs := locs) (cells := ce) (slots := sl) (g := F0 m pc lsA (As.reverse ++ .ref (G.1 k) :: rest)) (As := As) (rest := rest) ⟨hx, hb, hml, hown, hts⟩ hM ⟨callB_of n hts hG rfl rfl rfl (hts _ w4) (hts _ hl) hds hR, hts _ w2, hts _ w3⟩ hpre rfl hn hv.1 rfl (lv_room hW) hd ⟨hce, hsl⟩
  intro T hT X
  obtain ⟨v, st₀, t, T', L', h0, X', hL, e1, e2, ⟨hq1, hq2, hz, hk⟩, go⟩ := R T hT X
  cases hq1
  rw [h0] at hz hk
  have xa : ∀ q, xA G q → s.heap.size ≤ q := fun q ⟨k, hk, e⟩ => by rw [e]; exact hge k hk
  have hS' : va_S (fun q : Nat => s.heap.size ≤ q) s.heap T'.heap (locs ++ L') := by
    refine ⟨Nat.le_trans hS.1 (by rw [e1]; exact hz), fun q h1 h2 => ?_, fun q hq => ?_⟩
    · rw [e1, hk q (Nat.lt_of_lt_of_le h1 hS.1) (fun z => h2 (xa q z))]
      exact hS.2.1 q h1 h2
    · rcases List.mem_append.mp hq with z | z
      · exact hS.2.2 q z
      · exact xa _ (hL q z)
  obtain ⟨t2, a1, b1⟩ := K T'.heap (locs ++ L') lsA (by rw [e1]; exact hq2) hS' hv T' rfl X'
  exact ⟨t2, go t2 a1, b1⟩
theorem q_out (C : LC G p s m meth c b L xs) {x : Int32} (hx : x.toInt < 0 ∨ 25 < x.toInt) (K : LW G p l e s m below meth c b ce sl 1000 (lwl G b i) st h) : LW G p l e s m below meth c b ce sl 33 (lwl G b i) (.int x :: st) h :=
  fun H locs lsA hP hS hl => lv_tableOut (tgt := 1000) C.1.1 C.1.2.1 d_law_33 hx (by decide) (K H locs lsA hP hS hl)
theorem q_in (C : LC G p s m meth c b L xs) {k tgt : Nat} {off : Int} (hk : k < 26) (ho : (#[119, 142, 165, 178, 191, 214, 227, 270, 303, 366, 409, 442, 475, 538, 581, 604, 627, 650, 683, 726, 759, 782, 835, 878, 921, 944] : Array Int)[k]? = some off) (ht : ((33 : Nat) : Int) + off = (tgt : Int)) (K : LW G p l e s m below meth c b ce sl tgt (lwl G b i) st h) : LW G p l e s m below meth c b ce sl 33 (lwl G b i) (.int (nI k) :: st) h :=
  fun H locs lsA hP hS hl => lv_tableIn C.1.1 C.1.2.1 d_law_33 (by rw [nI_toInt (by omega)]; omega) (by rw [nI_toInt (by omega)]; omega) (by rw [nI_toInt (by omega)]; simpa using ho) ht (K H locs lsA hP hS hl)
theorem q_nat {x : Int32} (hx : ¬ (x.toInt < 0 ∨ 25 < x.toInt)) : ∃ n, n < 26 ∧ x = nI n := by
  refine ⟨x.toInt.toNat, by omega, ?_⟩
  apply Int32.toInt_inj.mp
  rw [nI_toInt (by omega)]
  omega
end LAW
set_option maxHeartbeats 4000000 in
theorem lc_feed {G : xG} {p : Program} {l : Launch} {e : Env} {s : State} {m : MethodId} {below : List Frame} {meth : Method} {c : Code} {b L : Nat} {xs : Nat → Int32} {ce sl : Nat} {h : Mem} (hce : ce ≤ 600000) (hsl : sl ≤ 7302250) (C : LC G p s m meth c b L xs) (hL : L ≤ 3072) {i : Nat} (hi : i + 6 ≤ L) {B : Nat} {T : Top} (S : ST B h T) (b1 : 1 ≤ B) (b2 : B + 20000 < 2 ^ 30) (nxt : ∀ (T' : Top) (h' : Mem), ST (B + 13000) h' T' → LW G p l e s m below meth c b ce sl 1000 (lwl G b i) [] h') : LW G p l e s m below meth c b ce sl 152 (lwl G b i) [] h := by
  obtain ⟨r, h1, h2, T', e1, e2, S'⟩ := P_feed (xs (i + 1)) B b1 b2 T h S
  refine q_al1 C d_law_152 ?_
  refine q_arg C hL (k := 1) (by omega) d_law_153 d_law_154 d_law_155 (by decide) d_law_156 d_law_157 ?_
  refine q_call C d_law_158 m_X7_feed lkL_13 rfl (by decide) t_c0 (c_X7_feed 0 t_c0 (xs (i + 1)) h) (by decide) rfl rfl (Nat.le_of_ble_eq_true rfl) e1 ?_
  refine q_al2 C d_law_161 ?_
  refine q_arg C hL (k := 1) (by omega) d_law_162 d_law_163 d_law_164 (by decide) d_law_165 d_law_166 ?_
  refine q_call C d_law_167 m_X8_feed lkL_17 rfl (by decide) t_c390 (c_X8_feed 390 t_c390 (xs (i + 1)) h1) (by decide) rfl rfl (Nat.le_of_ble_eq_true rfl) e2 ?_
  exact q_eq C d_law_170 (by decide) (nxt T' h2 S')
set_option maxHeartbeats 4000000 in
theorem lc_end {G : xG} {p : Program} {l : Launch} {e : Env} {s : State} {m : MethodId} {below : List Frame} {meth : Method} {c : Code} {b L : Nat} {xs : Nat → Int32} {ce sl : Nat} {h : Mem} (hce : ce ≤ 600000) (hsl : sl ≤ 7302250) (C : LC G p s m meth c b L xs) (hL : L ≤ 3072) {i : Nat} (hi : i + 6 ≤ L) {B : Nat} {T : Top} (S : ST B h T) (b1 : 1 ≤ B) (b2 : B + 20000 < 2 ^ 30) (nxt : ∀ (T' : Top) (h' : Mem), ST (B + 13000) h' T' → LW G p l e s m below meth c b ce sl 1000 (lwl G b i) [] h') : LW G p l e s m below meth c b ce sl 175 (lwl G b i) [] h := by
  obtain ⟨r, h1, h2, T', e1, e2, S'⟩ := P_end (xs (i + 1)) B b1 b2 T h S
  refine q_al1 C d_law_175 ?_
  refine q_arg C hL (k := 1) (by omega) d_law_176 d_law_177 d_law_178 (by decide) d_law_179 d_law_180 ?_
  refine q_call C d_law_181 m_X7_end lkL_18 rfl (by decide) t_c0 (c_X7_end 0 t_c0 (xs (i + 1)) h) (by decide) rfl rfl (Nat.le_of_ble_eq_true rfl) e1 ?_
  refine q_al2 C d_law_184 ?_
  refine q_arg C hL (k := 1) (by omega) d_law_185 d_law_186 d_law_187 (by decide) d_law_188 d_law_189 ?_
  refine q_call C d_law_190 m_X8_end lkL_21 rfl (by decide) t_c390 (c_X8_end 390 t_c390 (xs (i + 1)) h1) (by decide) rfl rfl (Nat.le_of_ble_eq_true rfl) e2 ?_
  exact q_eq C d_law_193 (by decide) (nxt T' h2 S')
set_option maxHeartbeats 4000000 in
theorem lc_text {G : xG} {p : Program} {l : Launch} {e : Env} {s : State} {m : MethodId} {below : List Frame} {meth : Method} {c : Code} {b L : Nat} {xs : Nat → Int32} {ce sl : Nat} {h : Mem} (hce : ce ≤ 600000) (hsl : sl ≤ 7302250) (C : LC G p s m meth c b L xs) (hL : L ≤ 3072) {i : Nat} (hi : i + 6 ≤ L) {B : Nat} {T : Top} (S : ST B h T) (b1 : 1 ≤ B) (b2 : B + 20000 < 2 ^ 30) (nxt : ∀ (T' : Top) (h' : Mem), ST (B + 13000) h' T' → LW G p l e s m below meth c b ce sl 1000 (lwl G b i) [] h') : LW G p l e s m below meth c b ce sl 198 (lwl G b i) [] h := by
  obtain ⟨r, h1, h2, T', e1, e2, S'⟩ := P_text  B b1 b2 T h S
  refine q_al1 C d_law_198 ?_
  refine q_call C d_law_199 m_X7_text lkL_22 rfl (by decide) t_c0 (c_X7_text 0 t_c0  h) (by decide) rfl rfl (Nat.le_of_ble_eq_true rfl) e1 ?_
  refine q_al2 C d_law_202 ?_
  refine q_call C d_law_203 m_X8_text lkL_26 rfl (by decide) t_c390 (c_X8_text 390 t_c390  h1) (by decide) rfl rfl (Nat.le_of_ble_eq_true rfl) e2 ?_
  exact q_eq C d_law_206 (by decide) (nxt T' h2 S')
set_option maxHeartbeats 4000000 in
theorem lc_fault {G : xG} {p : Program} {l : Launch} {e : Env} {s : State} {m : MethodId} {below : List Frame} {meth : Method} {c : Code} {b L : Nat} {xs : Nat → Int32} {ce sl : Nat} {h : Mem} (hce : ce ≤ 600000) (hsl : sl ≤ 7302250) (C : LC G p s m meth c b L xs) (hL : L ≤ 3072) {i : Nat} (hi : i + 6 ≤ L) {B : Nat} {T : Top} (S : ST B h T) (b1 : 1 ≤ B) (b2 : B + 20000 < 2 ^ 30) (nxt : ∀ (T' : Top) (h' : Mem), ST (B + 13000) h' T' → LW G p l e s m below meth c b ce sl 1000 (lwl G b i) [] h') : LW G p l e s m below meth c b ce sl 211 (lwl G b i) [] h := by
  obtain ⟨r, h1, h2, T', e1, e2, S'⟩ := P_fault  B b1 b2 T h S
  refine q_al1 C d_law_211 ?_
  refine q_call C d_law_212 m_X7_fault lkL_27 rfl (by decide) t_c0 (c_X7_fault 0 t_c0  h) (by decide) rfl rfl (Nat.le_of_ble_eq_true rfl) e1 ?_
  refine q_al2 C d_law_215 ?_
  refine q_call C d_law_216 m_X8_fault lkL_30 rfl (by decide) t_c390 (c_X8_fault 390 t_c390  h1) (by decide) rfl rfl (Nat.le_of_ble_eq_true rfl) e2 ?_
  exact q_eq C d_law_219 (by decide) (nxt T' h2 S')
set_option maxHeartbeats 4000000 in
theorem lc_level {G : xG} {p : Program} {l : Launch} {e : Env} {s : State} {m : MethodId} {below : List Frame} {meth : Method} {c : Code} {b L : Nat} {xs : Nat → Int32} {ce sl : Nat} {h : Mem} (hce : ce ≤ 600000) (hsl : sl ≤ 7302250) (C : LC G p s m meth c b L xs) (hL : L ≤ 3072) {i : Nat} (hi : i + 6 ≤ L) {B : Nat} {T : Top} (S : ST B h T) (b1 : 1 ≤ B) (b2 : B + 20000 < 2 ^ 30) (nxt : ∀ (T' : Top) (h' : Mem), ST (B + 13000) h' T' → LW G p l e s m below meth c b ce sl 1000 (lwl G b i) [] h') : LW G p l e s m below meth c b ce sl 224 (lwl G b i) [] h := by
  obtain ⟨r, h1, h2, T', e1, e2, S'⟩ := P_level (xs (i + 1)) B b1 b2 T h S
  refine q_al1 C d_law_224 ?_
  refine q_arg C hL (k := 1) (by omega) d_law_225 d_law_226 d_law_227 (by decide) d_law_228 d_law_229 ?_
  refine q_call C d_law_230 m_X7_level lkL_31 rfl (by decide) t_c0 (c_X7_level 0 t_c0 (xs (i + 1)) h) (by decide) rfl rfl (Nat.le_of_ble_eq_true rfl) e1 ?_
  refine q_al2 C d_law_233 ?_
  refine q_arg C hL (k := 1) (by omega) d_law_234 d_law_235 d_law_236 (by decide) d_law_237 d_law_238 ?_
  refine q_call C d_law_239 m_X8_level lkL_34 rfl (by decide) t_c390 (c_X8_level 390 t_c390 (xs (i + 1)) h1) (by decide) rfl rfl (Nat.le_of_ble_eq_true rfl) e2 ?_
  exact q_eq C d_law_242 (by decide) (nxt T' h2 S')
set_option maxHeartbeats 4000000 in
theorem lc_top {G : xG} {p : Program} {l : Launch} {e : Env} {s : State} {m : MethodId} {below : List Frame} {meth : Method} {c : Code} {b L : Nat} {xs : Nat → Int32} {ce sl : Nat} {h : Mem} (hce : ce ≤ 600000) (hsl : sl ≤ 7302250) (C : LC G p s m meth c b L xs) (hL : L ≤ 3072) {i : Nat} (hi : i + 6 ≤ L) {B : Nat} {T : Top} (S : ST B h T) (b1 : 1 ≤ B) (b2 : B + 20000 < 2 ^ 30) (nxt : ∀ (T' : Top) (h' : Mem), ST (B + 13000) h' T' → LW G p l e s m below meth c b ce sl 1000 (lwl G b i) [] h') : LW G p l e s m below meth c b ce sl 247 (lwl G b i) [] h := by
  obtain ⟨r, h1, h2, T', e1, e2, S'⟩ := P_top  B b1 b2 T h S
  refine q_al1 C d_law_247 ?_
  refine q_call C d_law_248 m_X7_top lkL_35 rfl (by decide) t_c0 (c_X7_top 0 t_c0  h) (by decide) rfl rfl (Nat.le_of_ble_eq_true rfl) e1 ?_
  refine q_al2 C d_law_251 ?_
  refine q_call C d_law_252 m_X8_top lkL_38 rfl (by decide) t_c390 (c_X8_top 390 t_c390  h1) (by decide) rfl rfl (Nat.le_of_ble_eq_true rfl) e2 ?_
  exact q_eq C d_law_255 (by decide) (nxt T' h2 S')
set_option maxHeartbeats 4000000 in
theorem lc_wake {G : xG} {p : Program} {l : Launch} {e : Env} {s : State} {m : MethodId} {below : List Frame} {meth : Method} {c : Code} {b L : Nat} {xs : Nat → Int32} {ce sl : Nat} {h : Mem} (hce : ce ≤ 600000) (hsl : sl ≤ 7302250) (C : LC G p s m meth c b L xs) (hL : L ≤ 3072) {i : Nat} (hi : i + 6 ≤ L) {B : Nat} {T : Top} (S : ST B h T) (b1 : 1 ≤ B) (b2 : B + 20000 < 2 ^ 30) (nxt : ∀ (T' : Top) (h' : Mem), ST (B + 13000) h' T' → LW G p l e s m below meth c b ce sl 1000 (lwl G b i) [] h') : LW G p l e s m below meth c b ce sl 260 (lwl G b i) [] h := by
  obtain ⟨r, h1, h2, T', e1, e2, S'⟩ := P_wake (xs (i + 1)) (xs (i + 2)) (xs (i + 3)) B b1 b2 T h S
  refine q_al1 C d_law_260 ?_
  refine q_arg C hL (k := 1) (by omega) d_law_261 d_law_262 d_law_263 (by decide) d_law_264 d_law_265 ?_
  refine q_arg C hL (k := 2) (by omega) d_law_266 d_law_267 d_law_268 (by decide) d_law_269 d_law_270 ?_
  refine q_arg C hL (k := 3) (by omega) d_law_271 d_law_272 d_law_273 (by decide) d_law_274 d_law_275 ?_
  refine q_call C d_law_276 m_X7_wake lkL_39 rfl (by decide) t_c0 (c_X7_wake 0 t_c0 (xs (i + 1)) (xs (i + 2)) (xs (i + 3)) h) (by decide) rfl rfl (Nat.le_of_ble_eq_true rfl) e1 ?_
  refine q_al2 C d_law_279 ?_
  refine q_arg C hL (k := 1) (by omega) d_law_280 d_law_281 d_law_282 (by decide) d_law_283 d_law_284 ?_
  refine q_arg C hL (k := 2) (by omega) d_law_285 d_law_286 d_law_287 (by decide) d_law_288 d_law_289 ?_
  refine q_arg C hL (k := 3) (by omega) d_law_290 d_law_291 d_law_292 (by decide) d_law_293 d_law_294 ?_
  refine q_call C d_law_295 m_X8_wake lkL_43 rfl (by decide) t_c390 (c_X8_wake 390 t_c390 (xs (i + 1)) (xs (i + 2)) (xs (i + 3)) h1) (by decide) rfl rfl (Nat.le_of_ble_eq_true rfl) e2 ?_
  exact q_eq C d_law_298 (by decide) (nxt T' h2 S')
set_option maxHeartbeats 4000000 in
theorem lc_sleep {G : xG} {p : Program} {l : Launch} {e : Env} {s : State} {m : MethodId} {below : List Frame} {meth : Method} {c : Code} {b L : Nat} {xs : Nat → Int32} {ce sl : Nat} {h : Mem} (hce : ce ≤ 600000) (hsl : sl ≤ 7302250) (C : LC G p s m meth c b L xs) (hL : L ≤ 3072) {i : Nat} (hi : i + 6 ≤ L) {B : Nat} {T : Top} (S : ST B h T) (b1 : 1 ≤ B) (b2 : B + 20000 < 2 ^ 30) (nxt : ∀ (T' : Top) (h' : Mem), ST (B + 13000) h' T' → LW G p l e s m below meth c b ce sl 1000 (lwl G b i) [] h') : LW G p l e s m below meth c b ce sl 303 (lwl G b i) [] h := by
  obtain ⟨r, h1, h2, T', e1, e2, S'⟩ := P_sleep (xs (i + 1)) (xs (i + 2)) B b1 b2 T h S
  refine q_al1 C d_law_303 ?_
  refine q_arg C hL (k := 1) (by omega) d_law_304 d_law_305 d_law_306 (by decide) d_law_307 d_law_308 ?_
  refine q_arg C hL (k := 2) (by omega) d_law_309 d_law_310 d_law_311 (by decide) d_law_312 d_law_313 ?_
  refine q_call C d_law_314 m_X7_sleep lkL_44 rfl (by decide) t_c0 (c_X7_sleep 0 t_c0 (xs (i + 1)) (xs (i + 2)) h) (by decide) rfl rfl (Nat.le_of_ble_eq_true rfl) e1 ?_
  refine q_al2 C d_law_317 ?_
  refine q_arg C hL (k := 1) (by omega) d_law_318 d_law_319 d_law_320 (by decide) d_law_321 d_law_322 ?_
  refine q_arg C hL (k := 2) (by omega) d_law_323 d_law_324 d_law_325 (by decide) d_law_326 d_law_327 ?_
  refine q_call C d_law_328 m_X8_sleep lkL_48 rfl (by decide) t_c390 (c_X8_sleep 390 t_c390 (xs (i + 1)) (xs (i + 2)) h1) (by decide) rfl rfl (Nat.le_of_ble_eq_true rfl) e2 ?_
  exact q_eq C d_law_331 (by decide) (nxt T' h2 S')
set_option maxHeartbeats 4000000 in
theorem lc_will {G : xG} {p : Program} {l : Launch} {e : Env} {s : State} {m : MethodId} {below : List Frame} {meth : Method} {c : Code} {b L : Nat} {xs : Nat → Int32} {ce sl : Nat} {h : Mem} (hce : ce ≤ 600000) (hsl : sl ≤ 7302250) (C : LC G p s m meth c b L xs) (hL : L ≤ 3072) {i : Nat} (hi : i + 6 ≤ L) {B : Nat} {T : Top} (S : ST B h T) (b1 : 1 ≤ B) (b2 : B + 20000 < 2 ^ 30) (nxt : ∀ (T' : Top) (h' : Mem), ST (B + 13000) h' T' → LW G p l e s m below meth c b ce sl 1000 (lwl G b i) [] h') : LW G p l e s m below meth c b ce sl 336 (lwl G b i) [] h := by
  obtain ⟨r, h1, h2, T', e1, e2, S'⟩ := P_will (xs (i + 1)) (xs (i + 2)) (xs (i + 3)) (xs (i + 4)) (xs (i + 5)) B b1 b2 T h S
  refine q_al1 C d_law_336 ?_
  refine q_arg C hL (k := 1) (by omega) d_law_337 d_law_338 d_law_339 (by decide) d_law_340 d_law_341 ?_
  refine q_arg C hL (k := 2) (by omega) d_law_342 d_law_343 d_law_344 (by decide) d_law_345 d_law_346 ?_
  refine q_arg C hL (k := 3) (by omega) d_law_347 d_law_348 d_law_349 (by decide) d_law_350 d_law_351 ?_
  refine q_arg C hL (k := 4) (by omega) d_law_352 d_law_353 d_law_354 (by decide) d_law_355 d_law_356 ?_
  refine q_arg C hL (k := 5) (by omega) d_law_357 d_law_358 d_law_359 (by decide) d_law_360 d_law_361 ?_
  refine q_call C d_law_362 m_X7_will lkL_49 rfl (by decide) t_c0 (c_X7_will 0 t_c0 (xs (i + 1)) (xs (i + 2)) (xs (i + 3)) (xs (i + 4)) (xs (i + 5)) h) (by decide) rfl rfl (Nat.le_of_ble_eq_true rfl) e1 ?_
  refine q_al2 C d_law_365 ?_
  refine q_arg C hL (k := 1) (by omega) d_law_366 d_law_367 d_law_368 (by decide) d_law_369 d_law_370 ?_
  refine q_arg C hL (k := 2) (by omega) d_law_371 d_law_372 d_law_373 (by decide) d_law_374 d_law_375 ?_
  refine q_arg C hL (k := 3) (by omega) d_law_376 d_law_377 d_law_378 (by decide) d_law_379 d_law_380 ?_
  refine q_arg C hL (k := 4) (by omega) d_law_381 d_law_382 d_law_383 (by decide) d_law_384 d_law_385 ?_
  refine q_arg C hL (k := 5) (by omega) d_law_386 d_law_387 d_law_388 (by decide) d_law_389 d_law_390 ?_
  refine q_call C d_law_391 m_X8_will lkL_53 rfl (by decide) t_c390 (c_X8_will 390 t_c390 (xs (i + 1)) (xs (i + 2)) (xs (i + 3)) (xs (i + 4)) (xs (i + 5)) h1) (by decide) rfl rfl (Nat.le_of_ble_eq_true rfl) e2 ?_
  exact q_eq C d_law_394 (by decide) (nxt T' h2 S')
set_option maxHeartbeats 4000000 in
theorem lc_subscribe {G : xG} {p : Program} {l : Launch} {e : Env} {s : State} {m : MethodId} {below : List Frame} {meth : Method} {c : Code} {b L : Nat} {xs : Nat → Int32} {ce sl : Nat} {h : Mem} (hce : ce ≤ 600000) (hsl : sl ≤ 7302250) (C : LC G p s m meth c b L xs) (hL : L ≤ 3072) {i : Nat} (hi : i + 6 ≤ L) {B : Nat} {T : Top} (S : ST B h T) (b1 : 1 ≤ B) (b2 : B + 20000 < 2 ^ 30) (nxt : ∀ (T' : Top) (h' : Mem), ST (B + 13000) h' T' → LW G p l e s m below meth c b ce sl 1000 (lwl G b i) [] h') : LW G p l e s m below meth c b ce sl 399 (lwl G b i) [] h := by
  obtain ⟨r, h1, h2, T', e1, e2, S'⟩ := P_subscribe (xs (i + 1)) (xs (i + 2)) (xs (i + 3)) B b1 b2 T h S
  refine q_al1 C d_law_399 ?_
  refine q_arg C hL (k := 1) (by omega) d_law_400 d_law_401 d_law_402 (by decide) d_law_403 d_law_404 ?_
  refine q_arg C hL (k := 2) (by omega) d_law_405 d_law_406 d_law_407 (by decide) d_law_408 d_law_409 ?_
  refine q_arg C hL (k := 3) (by omega) d_law_410 d_law_411 d_law_412 (by decide) d_law_413 d_law_414 ?_
  refine q_call C d_law_415 m_X7_subscribe lkL_54 rfl (by decide) t_c0 (c_X7_subscribe 0 t_c0 (xs (i + 1)) (xs (i + 2)) (xs (i + 3)) h) (by decide) rfl rfl (Nat.le_of_ble_eq_true rfl) e1 ?_
  refine q_al2 C d_law_418 ?_
  refine q_arg C hL (k := 1) (by omega) d_law_419 d_law_420 d_law_421 (by decide) d_law_422 d_law_423 ?_
  refine q_arg C hL (k := 2) (by omega) d_law_424 d_law_425 d_law_426 (by decide) d_law_427 d_law_428 ?_
  refine q_arg C hL (k := 3) (by omega) d_law_429 d_law_430 d_law_431 (by decide) d_law_432 d_law_433 ?_
  refine q_call C d_law_434 m_X8_subscribe lkL_57 rfl (by decide) t_c390 (c_X8_subscribe 390 t_c390 (xs (i + 1)) (xs (i + 2)) (xs (i + 3)) h1) (by decide) rfl rfl (Nat.le_of_ble_eq_true rfl) e2 ?_
  exact q_eq C d_law_437 (by decide) (nxt T' h2 S')
set_option maxHeartbeats 4000000 in
theorem lc_leave {G : xG} {p : Program} {l : Launch} {e : Env} {s : State} {m : MethodId} {below : List Frame} {meth : Method} {c : Code} {b L : Nat} {xs : Nat → Int32} {ce sl : Nat} {h : Mem} (hce : ce ≤ 600000) (hsl : sl ≤ 7302250) (C : LC G p s m meth c b L xs) (hL : L ≤ 3072) {i : Nat} (hi : i + 6 ≤ L) {B : Nat} {T : Top} (S : ST B h T) (b1 : 1 ≤ B) (b2 : B + 20000 < 2 ^ 30) (nxt : ∀ (T' : Top) (h' : Mem), ST (B + 13000) h' T' → LW G p l e s m below meth c b ce sl 1000 (lwl G b i) [] h') : LW G p l e s m below meth c b ce sl 442 (lwl G b i) [] h := by
  obtain ⟨r, h1, h2, T', e1, e2, S'⟩ := P_leave (xs (i + 1)) (xs (i + 2)) B b1 b2 T h S
  refine q_al1 C d_law_442 ?_
  refine q_arg C hL (k := 1) (by omega) d_law_443 d_law_444 d_law_445 (by decide) d_law_446 d_law_447 ?_
  refine q_arg C hL (k := 2) (by omega) d_law_448 d_law_449 d_law_450 (by decide) d_law_451 d_law_452 ?_
  refine q_call C d_law_453 m_X7_leave lkL_58 rfl (by decide) t_c0 (c_X7_leave 0 t_c0 (xs (i + 1)) (xs (i + 2)) h) (by decide) rfl rfl (Nat.le_of_ble_eq_true rfl) e1 ?_
  refine q_al2 C d_law_456 ?_
  refine q_arg C hL (k := 1) (by omega) d_law_457 d_law_458 d_law_459 (by decide) d_law_460 d_law_461 ?_
  refine q_arg C hL (k := 2) (by omega) d_law_462 d_law_463 d_law_464 (by decide) d_law_465 d_law_466 ?_
  refine q_call C d_law_467 m_X8_leave lkL_61 rfl (by decide) t_c390 (c_X8_leave 390 t_c390 (xs (i + 1)) (xs (i + 2)) h1) (by decide) rfl rfl (Nat.le_of_ble_eq_true rfl) e2 ?_
  exact q_eq C d_law_470 (by decide) (nxt T' h2 S')
set_option maxHeartbeats 4000000 in
theorem lc_alias {G : xG} {p : Program} {l : Launch} {e : Env} {s : State} {m : MethodId} {below : List Frame} {meth : Method} {c : Code} {b L : Nat} {xs : Nat → Int32} {ce sl : Nat} {h : Mem} (hce : ce ≤ 600000) (hsl : sl ≤ 7302250) (C : LC G p s m meth c b L xs) (hL : L ≤ 3072) {i : Nat} (hi : i + 6 ≤ L) {B : Nat} {T : Top} (S : ST B h T) (b1 : 1 ≤ B) (b2 : B + 20000 < 2 ^ 30) (nxt : ∀ (T' : Top) (h' : Mem), ST (B + 13000) h' T' → LW G p l e s m below meth c b ce sl 1000 (lwl G b i) [] h') : LW G p l e s m below meth c b ce sl 475 (lwl G b i) [] h := by
  obtain ⟨r, h1, h2, T', e1, e2, S'⟩ := P_alias (xs (i + 1)) (xs (i + 2)) B b1 b2 T h S
  refine q_al1 C d_law_475 ?_
  refine q_arg C hL (k := 1) (by omega) d_law_476 d_law_477 d_law_478 (by decide) d_law_479 d_law_480 ?_
  refine q_arg C hL (k := 2) (by omega) d_law_481 d_law_482 d_law_483 (by decide) d_law_484 d_law_485 ?_
  refine q_call C d_law_486 m_X7_alias lkL_62 rfl (by decide) t_c0 (c_X7_alias 0 t_c0 (xs (i + 1)) (xs (i + 2)) h) (by decide) rfl rfl (Nat.le_of_ble_eq_true rfl) e1 ?_
  refine q_al2 C d_law_489 ?_
  refine q_arg C hL (k := 1) (by omega) d_law_490 d_law_491 d_law_492 (by decide) d_law_493 d_law_494 ?_
  refine q_arg C hL (k := 2) (by omega) d_law_495 d_law_496 d_law_497 (by decide) d_law_498 d_law_499 ?_
  refine q_call C d_law_500 m_X8_alias lkL_65 rfl (by decide) t_c390 (c_X8_alias 390 t_c390 (xs (i + 1)) (xs (i + 2)) h1) (by decide) rfl rfl (Nat.le_of_ble_eq_true rfl) e2 ?_
  exact q_eq C d_law_503 (by decide) (nxt T' h2 S')
set_option maxHeartbeats 4000000 in
theorem lc_say {G : xG} {p : Program} {l : Launch} {e : Env} {s : State} {m : MethodId} {below : List Frame} {meth : Method} {c : Code} {b L : Nat} {xs : Nat → Int32} {ce sl : Nat} {h : Mem} (hce : ce ≤ 600000) (hsl : sl ≤ 7302250) (C : LC G p s m meth c b L xs) (hL : L ≤ 3072) {i : Nat} (hi : i + 6 ≤ L) {B : Nat} {T : Top} (S : ST B h T) (b1 : 1 ≤ B) (b2 : B + 20000 < 2 ^ 30) (nxt : ∀ (T' : Top) (h' : Mem), ST (B + 13000) h' T' → LW G p l e s m below meth c b ce sl 1000 (lwl G b i) [] h') : LW G p l e s m below meth c b ce sl 508 (lwl G b i) [] h := by
  obtain ⟨r, h1, h2, T', e1, e2, S'⟩ := P_say (xs (i + 1)) (xs (i + 2)) (xs (i + 3)) (xs (i + 4)) (xs (i + 5)) B b1 b2 T h S
  refine q_al1 C d_law_508 ?_
  refine q_arg C hL (k := 1) (by omega) d_law_509 d_law_510 d_law_511 (by decide) d_law_512 d_law_513 ?_
  refine q_arg C hL (k := 2) (by omega) d_law_514 d_law_515 d_law_516 (by decide) d_law_517 d_law_518 ?_
  refine q_arg C hL (k := 3) (by omega) d_law_519 d_law_520 d_law_521 (by decide) d_law_522 d_law_523 ?_
  refine q_arg C hL (k := 4) (by omega) d_law_524 d_law_525 d_law_526 (by decide) d_law_527 d_law_528 ?_
  refine q_arg C hL (k := 5) (by omega) d_law_529 d_law_530 d_law_531 (by decide) d_law_532 d_law_533 ?_
  refine q_call C d_law_534 m_X7_say lkL_66 rfl (by decide) t_c0 (c_X7_say 0 t_c0 (xs (i + 1)) (xs (i + 2)) (xs (i + 3)) (xs (i + 4)) (xs (i + 5)) h) (by decide) rfl rfl (Nat.le_of_ble_eq_true rfl) e1 ?_
  refine q_al2 C d_law_537 ?_
  refine q_arg C hL (k := 1) (by omega) d_law_538 d_law_539 d_law_540 (by decide) d_law_541 d_law_542 ?_
  refine q_arg C hL (k := 2) (by omega) d_law_543 d_law_544 d_law_545 (by decide) d_law_546 d_law_547 ?_
  refine q_arg C hL (k := 3) (by omega) d_law_548 d_law_549 d_law_550 (by decide) d_law_551 d_law_552 ?_
  refine q_arg C hL (k := 4) (by omega) d_law_553 d_law_554 d_law_555 (by decide) d_law_556 d_law_557 ?_
  refine q_arg C hL (k := 5) (by omega) d_law_558 d_law_559 d_law_560 (by decide) d_law_561 d_law_562 ?_
  refine q_call C d_law_563 m_X8_say lkL_69 rfl (by decide) t_c390 (c_X8_say 390 t_c390 (xs (i + 1)) (xs (i + 2)) (xs (i + 3)) (xs (i + 4)) (xs (i + 5)) h1) (by decide) rfl rfl (Nat.le_of_ble_eq_true rfl) e2 ?_
  exact q_eq C d_law_566 (by decide) (nxt T' h2 S')
set_option maxHeartbeats 4000000 in
theorem lc_carry {G : xG} {p : Program} {l : Launch} {e : Env} {s : State} {m : MethodId} {below : List Frame} {meth : Method} {c : Code} {b L : Nat} {xs : Nat → Int32} {ce sl : Nat} {h : Mem} (hce : ce ≤ 600000) (hsl : sl ≤ 7302250) (C : LC G p s m meth c b L xs) (hL : L ≤ 3072) {i : Nat} (hi : i + 6 ≤ L) {B : Nat} {T : Top} (S : ST B h T) (b1 : 1 ≤ B) (b2 : B + 20000 < 2 ^ 30) (nxt : ∀ (T' : Top) (h' : Mem), ST (B + 13000) h' T' → LW G p l e s m below meth c b ce sl 1000 (lwl G b i) [] h') : LW G p l e s m below meth c b ce sl 571 (lwl G b i) [] h := by
  obtain ⟨r, h1, h2, T', e1, e2, S'⟩ := P_carry (xs (i + 1)) (xs (i + 2)) (xs (i + 3)) B b1 b2 T h S
  refine q_al1 C d_law_571 ?_
  refine q_arg C hL (k := 1) (by omega) d_law_572 d_law_573 d_law_574 (by decide) d_law_575 d_law_576 ?_
  refine q_arg C hL (k := 2) (by omega) d_law_577 d_law_578 d_law_579 (by decide) d_law_580 d_law_581 ?_
  refine q_arg C hL (k := 3) (by omega) d_law_582 d_law_583 d_law_584 (by decide) d_law_585 d_law_586 ?_
  refine q_call C d_law_587 m_X7_carry lkL_70 rfl (by decide) t_c0 (c_X7_carry 0 t_c0 (xs (i + 1)) (xs (i + 2)) (xs (i + 3)) h) (by decide) rfl rfl (Nat.le_of_ble_eq_true rfl) e1 ?_
  refine q_al2 C d_law_590 ?_
  refine q_arg C hL (k := 1) (by omega) d_law_591 d_law_592 d_law_593 (by decide) d_law_594 d_law_595 ?_
  refine q_arg C hL (k := 2) (by omega) d_law_596 d_law_597 d_law_598 (by decide) d_law_599 d_law_600 ?_
  refine q_arg C hL (k := 3) (by omega) d_law_601 d_law_602 d_law_603 (by decide) d_law_604 d_law_605 ?_
  refine q_call C d_law_606 m_X8_carry lkL_73 rfl (by decide) t_c390 (c_X8_carry 390 t_c390 (xs (i + 1)) (xs (i + 2)) (xs (i + 3)) h1) (by decide) rfl rfl (Nat.le_of_ble_eq_true rfl) e2 ?_
  exact q_eq C d_law_609 (by decide) (nxt T' h2 S')
set_option maxHeartbeats 4000000 in
theorem lc_again {G : xG} {p : Program} {l : Launch} {e : Env} {s : State} {m : MethodId} {below : List Frame} {meth : Method} {c : Code} {b L : Nat} {xs : Nat → Int32} {ce sl : Nat} {h : Mem} (hce : ce ≤ 600000) (hsl : sl ≤ 7302250) (C : LC G p s m meth c b L xs) (hL : L ≤ 3072) {i : Nat} (hi : i + 6 ≤ L) {B : Nat} {T : Top} (S : ST B h T) (b1 : 1 ≤ B) (b2 : B + 20000 < 2 ^ 30) (nxt : ∀ (T' : Top) (h' : Mem), ST (B + 13000) h' T' → LW G p l e s m below meth c b ce sl 1000 (lwl G b i) [] h') : LW G p l e s m below meth c b ce sl 614 (lwl G b i) [] h := by
  obtain ⟨r, h1, h2, T', e1, e2, S'⟩ := P_again (xs (i + 1)) B b1 b2 T h S
  refine q_al1 C d_law_614 ?_
  refine q_arg C hL (k := 1) (by omega) d_law_615 d_law_616 d_law_617 (by decide) d_law_618 d_law_619 ?_
  refine q_call C d_law_620 m_X7_again lkL_74 rfl (by decide) t_c0 (c_X7_again 0 t_c0 (xs (i + 1)) h) (by decide) rfl rfl (Nat.le_of_ble_eq_true rfl) e1 ?_
  refine q_al2 C d_law_623 ?_
  refine q_arg C hL (k := 1) (by omega) d_law_624 d_law_625 d_law_626 (by decide) d_law_627 d_law_628 ?_
  refine q_call C d_law_629 m_X8_again lkL_77 rfl (by decide) t_c390 (c_X8_again 390 t_c390 (xs (i + 1)) h1) (by decide) rfl rfl (Nat.le_of_ble_eq_true rfl) e2 ?_
  exact q_eq C d_law_632 (by decide) (nxt T' h2 S')
set_option maxHeartbeats 4000000 in
theorem lc_tick {G : xG} {p : Program} {l : Launch} {e : Env} {s : State} {m : MethodId} {below : List Frame} {meth : Method} {c : Code} {b L : Nat} {xs : Nat → Int32} {ce sl : Nat} {h : Mem} (hce : ce ≤ 600000) (hsl : sl ≤ 7302250) (C : LC G p s m meth c b L xs) (hL : L ≤ 3072) {i : Nat} (hi : i + 6 ≤ L) {B : Nat} {T : Top} (S : ST B h T) (b1 : 1 ≤ B) (b2 : B + 20000 < 2 ^ 30) (nxt : ∀ (T' : Top) (h' : Mem), ST (B + 13000) h' T' → LW G p l e s m below meth c b ce sl 1000 (lwl G b i) [] h') : LW G p l e s m below meth c b ce sl 637 (lwl G b i) [] h := by
  obtain ⟨r, h1, h2, T', e1, e2, S'⟩ := P_tick (xs (i + 1)) B b1 b2 T h S
  refine q_al1 C d_law_637 ?_
  refine q_arg C hL (k := 1) (by omega) d_law_638 d_law_639 d_law_640 (by decide) d_law_641 d_law_642 ?_
  refine q_call C d_law_643 m_X7_tick lkL_78 rfl (by decide) t_c0 (c_X7_tick 0 t_c0 (xs (i + 1)) h) (by decide) rfl rfl (Nat.le_of_ble_eq_true rfl) e1 ?_
  refine q_al2 C d_law_646 ?_
  refine q_arg C hL (k := 1) (by omega) d_law_647 d_law_648 d_law_649 (by decide) d_law_650 d_law_651 ?_
  refine q_call C d_law_652 m_X8_tick lkL_81 rfl (by decide) t_c390 (c_X8_tick 390 t_c390 (xs (i + 1)) h1) (by decide) rfl rfl (Nat.le_of_ble_eq_true rfl) e2 ?_
  exact q_eq C d_law_655 (by decide) (nxt T' h2 S')
set_option maxHeartbeats 4000000 in
theorem lc_rule {G : xG} {p : Program} {l : Launch} {e : Env} {s : State} {m : MethodId} {below : List Frame} {meth : Method} {c : Code} {b L : Nat} {xs : Nat → Int32} {ce sl : Nat} {h : Mem} (hce : ce ≤ 600000) (hsl : sl ≤ 7302250) (C : LC G p s m meth c b L xs) (hL : L ≤ 3072) {i : Nat} (hi : i + 6 ≤ L) {B : Nat} {T : Top} (S : ST B h T) (b1 : 1 ≤ B) (b2 : B + 20000 < 2 ^ 30) (nxt : ∀ (T' : Top) (h' : Mem), ST (B + 13000) h' T' → LW G p l e s m below meth c b ce sl 1000 (lwl G b i) [] h') : LW G p l e s m below meth c b ce sl 660 (lwl G b i) [] h := by
  obtain ⟨r, h1, h2, T', e1, e2, S'⟩ := P_rule (xs (i + 1)) B b1 b2 T h S
  refine q_al1 C d_law_660 ?_
  refine q_arg C hL (k := 1) (by omega) d_law_661 d_law_662 d_law_663 (by decide) d_law_664 d_law_665 ?_
  refine q_call C d_law_666 m_X7_rule lkL_82 rfl (by decide) t_c0 (c_X7_rule 0 t_c0 (xs (i + 1)) h) (by decide) rfl rfl (Nat.le_of_ble_eq_true rfl) e1 ?_
  refine q_al2 C d_law_669 ?_
  refine q_arg C hL (k := 1) (by omega) d_law_670 d_law_671 d_law_672 (by decide) d_law_673 d_law_674 ?_
  refine q_call C d_law_675 m_X8_rule lkL_85 rfl (by decide) t_c390 (c_X8_rule 390 t_c390 (xs (i + 1)) h1) (by decide) rfl rfl (Nat.le_of_ble_eq_true rfl) e2 ?_
  exact q_eq C d_law_678 (by decide) (nxt T' h2 S')
set_option maxHeartbeats 4000000 in
theorem lc_client {G : xG} {p : Program} {l : Launch} {e : Env} {s : State} {m : MethodId} {below : List Frame} {meth : Method} {c : Code} {b L : Nat} {xs : Nat → Int32} {ce sl : Nat} {h : Mem} (hce : ce ≤ 600000) (hsl : sl ≤ 7302250) (C : LC G p s m meth c b L xs) (hL : L ≤ 3072) {i : Nat} (hi : i + 6 ≤ L) {B : Nat} {T : Top} (S : ST B h T) (b1 : 1 ≤ B) (b2 : B + 20000 < 2 ^ 30) (nxt : ∀ (T' : Top) (h' : Mem), ST (B + 13000) h' T' → LW G p l e s m below meth c b ce sl 1000 (lwl G b i) [] h') : LW G p l e s m below meth c b ce sl 683 (lwl G b i) [] h := by
  obtain ⟨r, h1, h2, T', e1, e2, S'⟩ := P_client (xs (i + 1)) (xs (i + 2)) B b1 b2 T h S
  refine q_al1 C d_law_683 ?_
  refine q_arg C hL (k := 1) (by omega) d_law_684 d_law_685 d_law_686 (by decide) d_law_687 d_law_688 ?_
  refine q_arg C hL (k := 2) (by omega) d_law_689 d_law_690 d_law_691 (by decide) d_law_692 d_law_693 ?_
  refine q_call C d_law_694 m_X7_client lkL_86 rfl (by decide) t_c0 (c_X7_client 0 t_c0 (xs (i + 1)) (xs (i + 2)) h) (by decide) rfl rfl (Nat.le_of_ble_eq_true rfl) e1 ?_
  refine q_al2 C d_law_697 ?_
  refine q_arg C hL (k := 1) (by omega) d_law_698 d_law_699 d_law_700 (by decide) d_law_701 d_law_702 ?_
  refine q_arg C hL (k := 2) (by omega) d_law_703 d_law_704 d_law_705 (by decide) d_law_706 d_law_707 ?_
  refine q_call C d_law_708 m_X8_client lkL_89 rfl (by decide) t_c390 (c_X8_client 390 t_c390 (xs (i + 1)) (xs (i + 2)) h1) (by decide) rfl rfl (Nat.le_of_ble_eq_true rfl) e2 ?_
  exact q_eq C d_law_711 (by decide) (nxt T' h2 S')
set_option maxHeartbeats 4000000 in
theorem lc_subscription {G : xG} {p : Program} {l : Launch} {e : Env} {s : State} {m : MethodId} {below : List Frame} {meth : Method} {c : Code} {b L : Nat} {xs : Nat → Int32} {ce sl : Nat} {h : Mem} (hce : ce ≤ 600000) (hsl : sl ≤ 7302250) (C : LC G p s m meth c b L xs) (hL : L ≤ 3072) {i : Nat} (hi : i + 6 ≤ L) {B : Nat} {T : Top} (S : ST B h T) (b1 : 1 ≤ B) (b2 : B + 20000 < 2 ^ 30) (nxt : ∀ (T' : Top) (h' : Mem), ST (B + 13000) h' T' → LW G p l e s m below meth c b ce sl 1000 (lwl G b i) [] h') : LW G p l e s m below meth c b ce sl 716 (lwl G b i) [] h := by
  obtain ⟨r, h1, h2, T', e1, e2, S'⟩ := P_subscription (xs (i + 1)) (xs (i + 2)) (xs (i + 3)) B b1 b2 T h S
  refine q_al1 C d_law_716 ?_
  refine q_arg C hL (k := 1) (by omega) d_law_717 d_law_718 d_law_719 (by decide) d_law_720 d_law_721 ?_
  refine q_arg C hL (k := 2) (by omega) d_law_722 d_law_723 d_law_724 (by decide) d_law_725 d_law_726 ?_
  refine q_arg C hL (k := 3) (by omega) d_law_727 d_law_728 d_law_729 (by decide) d_law_730 d_law_731 ?_
  refine q_call C d_law_732 m_X7_subscription lkL_90 rfl (by decide) t_c0 (c_X7_subscription 0 t_c0 (xs (i + 1)) (xs (i + 2)) (xs (i + 3)) h) (by decide) rfl rfl (Nat.le_of_ble_eq_true rfl) e1 ?_
  refine q_al2 C d_law_735 ?_
  refine q_arg C hL (k := 1) (by omega) d_law_736 d_law_737 d_law_738 (by decide) d_law_739 d_law_740 ?_
  refine q_arg C hL (k := 2) (by omega) d_law_741 d_law_742 d_law_743 (by decide) d_law_744 d_law_745 ?_
  refine q_arg C hL (k := 3) (by omega) d_law_746 d_law_747 d_law_748 (by decide) d_law_749 d_law_750 ?_
  refine q_call C d_law_751 m_X8_subscription lkL_93 rfl (by decide) t_c390 (c_X8_subscription 390 t_c390 (xs (i + 1)) (xs (i + 2)) (xs (i + 3)) h1) (by decide) rfl rfl (Nat.le_of_ble_eq_true rfl) e2 ?_
  exact q_eq C d_law_754 (by decide) (nxt T' h2 S')
set_option maxHeartbeats 4000000 in
theorem lc_kept {G : xG} {p : Program} {l : Launch} {e : Env} {s : State} {m : MethodId} {below : List Frame} {meth : Method} {c : Code} {b L : Nat} {xs : Nat → Int32} {ce sl : Nat} {h : Mem} (hce : ce ≤ 600000) (hsl : sl ≤ 7302250) (C : LC G p s m meth c b L xs) (hL : L ≤ 3072) {i : Nat} (hi : i + 6 ≤ L) {B : Nat} {T : Top} (S : ST B h T) (b1 : 1 ≤ B) (b2 : B + 20000 < 2 ^ 30) (nxt : ∀ (T' : Top) (h' : Mem), ST (B + 13000) h' T' → LW G p l e s m below meth c b ce sl 1000 (lwl G b i) [] h') : LW G p l e s m below meth c b ce sl 759 (lwl G b i) [] h := by
  obtain ⟨r, h1, h2, T', e1, e2, S'⟩ := P_kept (xs (i + 1)) (xs (i + 2)) B b1 b2 T h S
  refine q_al1 C d_law_759 ?_
  refine q_arg C hL (k := 1) (by omega) d_law_760 d_law_761 d_law_762 (by decide) d_law_763 d_law_764 ?_
  refine q_arg C hL (k := 2) (by omega) d_law_765 d_law_766 d_law_767 (by decide) d_law_768 d_law_769 ?_
  refine q_call C d_law_770 m_X7_kept lkL_94 rfl (by decide) t_c0 (c_X7_kept 0 t_c0 (xs (i + 1)) (xs (i + 2)) h) (by decide) rfl rfl (Nat.le_of_ble_eq_true rfl) e1 ?_
  refine q_al2 C d_law_773 ?_
  refine q_arg C hL (k := 1) (by omega) d_law_774 d_law_775 d_law_776 (by decide) d_law_777 d_law_778 ?_
  refine q_arg C hL (k := 2) (by omega) d_law_779 d_law_780 d_law_781 (by decide) d_law_782 d_law_783 ?_
  refine q_call C d_law_784 m_X8_kept lkL_97 rfl (by decide) t_c390 (c_X8_kept 390 t_c390 (xs (i + 1)) (xs (i + 2)) h1) (by decide) rfl rfl (Nat.le_of_ble_eq_true rfl) e2 ?_
  exact q_eq C d_law_787 (by decide) (nxt T' h2 S')
set_option maxHeartbeats 4000000 in
theorem lc_had {G : xG} {p : Program} {l : Launch} {e : Env} {s : State} {m : MethodId} {below : List Frame} {meth : Method} {c : Code} {b L : Nat} {xs : Nat → Int32} {ce sl : Nat} {h : Mem} (hce : ce ≤ 600000) (hsl : sl ≤ 7302250) (C : LC G p s m meth c b L xs) (hL : L ≤ 3072) {i : Nat} (hi : i + 6 ≤ L) {B : Nat} {T : Top} (S : ST B h T) (b1 : 1 ≤ B) (b2 : B + 20000 < 2 ^ 30) (nxt : ∀ (T' : Top) (h' : Mem), ST (B + 13000) h' T' → LW G p l e s m below meth c b ce sl 1000 (lwl G b i) [] h') : LW G p l e s m below meth c b ce sl 792 (lwl G b i) [] h := by
  obtain ⟨r, h1, h2, T', e1, e2, S'⟩ := P_had (xs (i + 1)) B b1 b2 T h S
  refine q_al1 C d_law_792 ?_
  refine q_arg C hL (k := 1) (by omega) d_law_793 d_law_794 d_law_795 (by decide) d_law_796 d_law_797 ?_
  refine q_call C d_law_798 m_X7_had lkL_98 rfl (by decide) t_c0 (c_X7_had 0 t_c0 (xs (i + 1)) h) (by decide) rfl rfl (Nat.le_of_ble_eq_true rfl) e1 ?_
  refine q_al2 C d_law_801 ?_
  refine q_arg C hL (k := 1) (by omega) d_law_802 d_law_803 d_law_804 (by decide) d_law_805 d_law_806 ?_
  refine q_call C d_law_807 m_X8_had lkL_101 rfl (by decide) t_c390 (c_X8_had 390 t_c390 (xs (i + 1)) h1) (by decide) rfl rfl (Nat.le_of_ble_eq_true rfl) e2 ?_
  exact q_eq C d_law_810 (by decide) (nxt T' h2 S')
set_option maxHeartbeats 4000000 in
theorem lc_line {G : xG} {p : Program} {l : Launch} {e : Env} {s : State} {m : MethodId} {below : List Frame} {meth : Method} {c : Code} {b L : Nat} {xs : Nat → Int32} {ce sl : Nat} {h : Mem} (hce : ce ≤ 600000) (hsl : sl ≤ 7302250) (C : LC G p s m meth c b L xs) (hL : L ≤ 3072) {i : Nat} (hi : i + 6 ≤ L) {B : Nat} {T : Top} (S : ST B h T) (b1 : 1 ≤ B) (b2 : B + 20000 < 2 ^ 30) (nxt : ∀ (T' : Top) (h' : Mem), ST (B + 13000) h' T' → LW G p l e s m below meth c b ce sl 1000 (lwl G b i) [] h') : LW G p l e s m below meth c b ce sl 815 (lwl G b i) [] h := by
  obtain ⟨r, h1, h2, T', e1, e2, S'⟩ := P_line (xs (i + 1)) (xs (i + 2)) (xs (i + 3)) (xs (i + 4)) B b1 b2 T h S
  refine q_al1 C d_law_815 ?_
  refine q_arg C hL (k := 1) (by omega) d_law_816 d_law_817 d_law_818 (by decide) d_law_819 d_law_820 ?_
  refine q_arg C hL (k := 2) (by omega) d_law_821 d_law_822 d_law_823 (by decide) d_law_824 d_law_825 ?_
  refine q_arg C hL (k := 3) (by omega) d_law_826 d_law_827 d_law_828 (by decide) d_law_829 d_law_830 ?_
  refine q_arg C hL (k := 4) (by omega) d_law_831 d_law_832 d_law_833 (by decide) d_law_834 d_law_835 ?_
  refine q_call C d_law_836 m_X7_line lkL_102 rfl (by decide) t_c0 (c_X7_line 0 t_c0 (xs (i + 1)) (xs (i + 2)) (xs (i + 3)) (xs (i + 4)) h) (by decide) rfl rfl (Nat.le_of_ble_eq_true rfl) e1 ?_
  refine q_al2 C d_law_839 ?_
  refine q_arg C hL (k := 1) (by omega) d_law_840 d_law_841 d_law_842 (by decide) d_law_843 d_law_844 ?_
  refine q_arg C hL (k := 2) (by omega) d_law_845 d_law_846 d_law_847 (by decide) d_law_848 d_law_849 ?_
  refine q_arg C hL (k := 3) (by omega) d_law_850 d_law_851 d_law_852 (by decide) d_law_853 d_law_854 ?_
  refine q_arg C hL (k := 4) (by omega) d_law_855 d_law_856 d_law_857 (by decide) d_law_858 d_law_859 ?_
  refine q_call C d_law_860 m_X8_line lkL_106 rfl (by decide) t_c390 (c_X8_line 390 t_c390 (xs (i + 1)) (xs (i + 2)) (xs (i + 3)) (xs (i + 4)) h1) (by decide) rfl rfl (Nat.le_of_ble_eq_true rfl) e2 ?_
  exact q_eq C d_law_863 (by decide) (nxt T' h2 S')
set_option maxHeartbeats 4000000 in
theorem lc_flight {G : xG} {p : Program} {l : Launch} {e : Env} {s : State} {m : MethodId} {below : List Frame} {meth : Method} {c : Code} {b L : Nat} {xs : Nat → Int32} {ce sl : Nat} {h : Mem} (hce : ce ≤ 600000) (hsl : sl ≤ 7302250) (C : LC G p s m meth c b L xs) (hL : L ≤ 3072) {i : Nat} (hi : i + 6 ≤ L) {B : Nat} {T : Top} (S : ST B h T) (b1 : 1 ≤ B) (b2 : B + 20000 < 2 ^ 30) (nxt : ∀ (T' : Top) (h' : Mem), ST (B + 13000) h' T' → LW G p l e s m below meth c b ce sl 1000 (lwl G b i) [] h') : LW G p l e s m below meth c b ce sl 868 (lwl G b i) [] h := by
  obtain ⟨r, h1, h2, T', e1, e2, S'⟩ := P_flight (xs (i + 1)) (xs (i + 2)) (xs (i + 3)) B b1 b2 T h S
  refine q_al1 C d_law_868 ?_
  refine q_arg C hL (k := 1) (by omega) d_law_869 d_law_870 d_law_871 (by decide) d_law_872 d_law_873 ?_
  refine q_arg C hL (k := 2) (by omega) d_law_874 d_law_875 d_law_876 (by decide) d_law_877 d_law_878 ?_
  refine q_arg C hL (k := 3) (by omega) d_law_879 d_law_880 d_law_881 (by decide) d_law_882 d_law_883 ?_
  refine q_call C d_law_884 m_X7_flight lkL_107 rfl (by decide) t_c0 (c_X7_flight 0 t_c0 (xs (i + 1)) (xs (i + 2)) (xs (i + 3)) h) (by decide) rfl rfl (Nat.le_of_ble_eq_true rfl) e1 ?_
  refine q_al2 C d_law_887 ?_
  refine q_arg C hL (k := 1) (by omega) d_law_888 d_law_889 d_law_890 (by decide) d_law_891 d_law_892 ?_
  refine q_arg C hL (k := 2) (by omega) d_law_893 d_law_894 d_law_895 (by decide) d_law_896 d_law_897 ?_
  refine q_arg C hL (k := 3) (by omega) d_law_898 d_law_899 d_law_900 (by decide) d_law_901 d_law_902 ?_
  refine q_call C d_law_903 m_X8_flight lkL_110 rfl (by decide) t_c390 (c_X8_flight 390 t_c390 (xs (i + 1)) (xs (i + 2)) (xs (i + 3)) h1) (by decide) rfl rfl (Nat.le_of_ble_eq_true rfl) e2 ?_
  exact q_eq C d_law_906 (by decide) (nxt T' h2 S')
set_option maxHeartbeats 4000000 in
theorem lc_took {G : xG} {p : Program} {l : Launch} {e : Env} {s : State} {m : MethodId} {below : List Frame} {meth : Method} {c : Code} {b L : Nat} {xs : Nat → Int32} {ce sl : Nat} {h : Mem} (hce : ce ≤ 600000) (hsl : sl ≤ 7302250) (C : LC G p s m meth c b L xs) (hL : L ≤ 3072) {i : Nat} (hi : i + 6 ≤ L) {B : Nat} {T : Top} (S : ST B h T) (b1 : 1 ≤ B) (b2 : B + 20000 < 2 ^ 30) (nxt : ∀ (T' : Top) (h' : Mem), ST (B + 13000) h' T' → LW G p l e s m below meth c b ce sl 1000 (lwl G b i) [] h') : LW G p l e s m below meth c b ce sl 911 (lwl G b i) [] h := by
  obtain ⟨r, h1, h2, T', e1, e2, S'⟩ := P_took (xs (i + 1)) (xs (i + 2)) (xs (i + 3)) B b1 b2 T h S
  refine q_al1 C d_law_911 ?_
  refine q_arg C hL (k := 1) (by omega) d_law_912 d_law_913 d_law_914 (by decide) d_law_915 d_law_916 ?_
  refine q_arg C hL (k := 2) (by omega) d_law_917 d_law_918 d_law_919 (by decide) d_law_920 d_law_921 ?_
  refine q_arg C hL (k := 3) (by omega) d_law_922 d_law_923 d_law_924 (by decide) d_law_925 d_law_926 ?_
  refine q_call C d_law_927 m_X7_took lkL_111 rfl (by decide) t_c0 (c_X7_took 0 t_c0 (xs (i + 1)) (xs (i + 2)) (xs (i + 3)) h) (by decide) rfl rfl (Nat.le_of_ble_eq_true rfl) e1 ?_
  refine q_al2 C d_law_930 ?_
  refine q_arg C hL (k := 1) (by omega) d_law_931 d_law_932 d_law_933 (by decide) d_law_934 d_law_935 ?_
  refine q_arg C hL (k := 2) (by omega) d_law_936 d_law_937 d_law_938 (by decide) d_law_939 d_law_940 ?_
  refine q_arg C hL (k := 3) (by omega) d_law_941 d_law_942 d_law_943 (by decide) d_law_944 d_law_945 ?_
  refine q_call C d_law_946 m_X8_took lkL_114 rfl (by decide) t_c390 (c_X8_took 390 t_c390 (xs (i + 1)) (xs (i + 2)) (xs (i + 3)) h1) (by decide) rfl rfl (Nat.le_of_ble_eq_true rfl) e2 ?_
  exact q_eq C d_law_949 (by decide) (nxt T' h2 S')
set_option maxHeartbeats 4000000 in
theorem lc_keep {G : xG} {p : Program} {l : Launch} {e : Env} {s : State} {m : MethodId} {below : List Frame} {meth : Method} {c : Code} {b L : Nat} {xs : Nat → Int32} {ce sl : Nat} {h : Mem} (hce : ce ≤ 600000) (hsl : sl ≤ 7302250) (C : LC G p s m meth c b L xs) (hL : L ≤ 3072) {i : Nat} (hi : i + 6 ≤ L) {B : Nat} {T : Top} (S : ST B h T) (b1 : 1 ≤ B) (b2 : B + 20000 < 2 ^ 30) (nxt : ∀ (T' : Top) (h' : Mem), ST (B + 13000) h' T' → LW G p l e s m below meth c b ce sl 1000 (lwl G b i) [] h') : LW G p l e s m below meth c b ce sl 954 (lwl G b i) [] h := by
  obtain ⟨r, h1, h2, T', e1, e2, S'⟩ := P_keep (xs (i + 1)) B b1 b2 T h S
  refine q_al1 C d_law_954 ?_
  refine q_arg C hL (k := 1) (by omega) d_law_955 d_law_956 d_law_957 (by decide) d_law_958 d_law_959 ?_
  refine q_call C d_law_960 m_X7_keep lkL_115 rfl (by decide) t_c0 (c_X7_keep 0 t_c0 (xs (i + 1)) h) (by decide) rfl rfl (Nat.le_of_ble_eq_true rfl) e1 ?_
  refine q_al2 C d_law_963 ?_
  refine q_arg C hL (k := 1) (by omega) d_law_964 d_law_965 d_law_966 (by decide) d_law_967 d_law_968 ?_
  refine q_call C d_law_969 m_X8_keep lkL_118 rfl (by decide) t_c390 (c_X8_keep 390 t_c390 (xs (i + 1)) h1) (by decide) rfl rfl (Nat.le_of_ble_eq_true rfl) e2 ?_
  exact q_eq C d_law_972 (by decide) (nxt T' h2 S')
set_option maxHeartbeats 4000000 in
theorem lc_back {G : xG} {p : Program} {l : Launch} {e : Env} {s : State} {m : MethodId} {below : List Frame} {meth : Method} {c : Code} {b L : Nat} {xs : Nat → Int32} {ce sl : Nat} {h : Mem} (hce : ce ≤ 600000) (hsl : sl ≤ 7302250) (C : LC G p s m meth c b L xs) (hL : L ≤ 3072) {i : Nat} (hi : i + 6 ≤ L) {B : Nat} {T : Top} (S : ST B h T) (b1 : 1 ≤ B) (b2 : B + 20000 < 2 ^ 30) (nxt : ∀ (T' : Top) (h' : Mem), ST (B + 13000) h' T' → LW G p l e s m below meth c b ce sl 1000 (lwl G b i) [] h') : LW G p l e s m below meth c b ce sl 977 (lwl G b i) [] h := by
  obtain ⟨r, h1, h2, T', e1, e2, S'⟩ := P_back (xs (i + 1)) B b1 b2 T h S
  refine q_al1 C d_law_977 ?_
  refine q_arg C hL (k := 1) (by omega) d_law_978 d_law_979 d_law_980 (by decide) d_law_981 d_law_982 ?_
  refine q_call C d_law_983 m_X7_back lkL_119 rfl (by decide) t_c0 (c_X7_back 0 t_c0 (xs (i + 1)) h) (by decide) rfl rfl (Nat.le_of_ble_eq_true rfl) e1 ?_
  refine q_al2 C d_law_986 ?_
  refine q_arg C hL (k := 1) (by omega) d_law_987 d_law_988 d_law_989 (by decide) d_law_990 d_law_991 ?_
  refine q_call C d_law_992 m_X8_back lkL_122 rfl (by decide) t_c390 (c_X8_back 390 t_c390 (xs (i + 1)) h1) (by decide) rfl rfl (Nat.le_of_ble_eq_true rfl) e2 ?_
  exact q_eq C d_law_995 (by decide) (nxt T' h2 S')
set_option maxHeartbeats 8000000 in
theorem law_sw {G : xG} {p : Program} {l : Launch} {e : Env} {s : State} {m : MethodId} {below : List Frame} {meth : Method} {c : Code} {b L : Nat} {xs : Nat → Int32} {ce sl : Nat} {h : Mem} (hce : ce ≤ 600000) (hsl : sl ≤ 7302250) (C : LC G p s m meth c b L xs) (hL : L ≤ 3072) {i : Nat} (hi : i + 6 ≤ L) {B : Nat} {T : Top} (S : ST B h T) (b1 : 1 ≤ B) (b2 : B + 20000 < 2 ^ 30) (nxt : ∀ (T' : Top) (h' : Mem), ST (B + 13000) h' T' → LW G p l e s m below meth c b ce sl 1000 (lwl G b i) [] h') (x : Int32) : LW G p l e s m below meth c b ce sl 33 (lwl G b i) [.int x] h := by
  by_cases hx : x.toInt < 0 ∨ 25 < x.toInt
  · exact q_out C hx (nxt T h ⟨S.1, S.2.1, S.2.2.mono (by omega)⟩)
  · obtain ⟨n, hn, rfl⟩ : ∃ n, n < 26 ∧ x = nI n := q_nat hx
    rcases (show n = 0 ∨ n = 1 ∨ n = 2 ∨ n = 3 ∨ n = 4 ∨ n = 5 ∨ n = 6 ∨ n = 7 ∨ n = 8 ∨ n = 9 ∨ n = 10 ∨ n = 11 ∨ n = 12 ∨ n = 13 ∨ n = 14 ∨ n = 15 ∨ n = 16 ∨ n = 17 ∨ n = 18 ∨ n = 19 ∨ n = 20 ∨ n = 21 ∨ n = 22 ∨ n = 23 ∨ n = 24 ∨ n = 25 by omega) with rfl | rfl | rfl | rfl | rfl | rfl | rfl | rfl | rfl | rfl | rfl | rfl | rfl | rfl | rfl | rfl | rfl | rfl | rfl | rfl | rfl | rfl | rfl | rfl | rfl | rfl
    · exact q_in C (k := 0) (off := 119) (tgt := 152) (by decide) rfl (by decide) (lc_feed hce hsl C hL hi S b1 b2 nxt)
    · exact q_in C (k := 1) (off := 142) (tgt := 175) (by decide) rfl (by decide) (lc_end hce hsl C hL hi S b1 b2 nxt)
    · exact q_in C (k := 2) (off := 165) (tgt := 198) (by decide) rfl (by decide) (lc_text hce hsl C hL hi S b1 b2 nxt)
    · exact q_in C (k := 3) (off := 178) (tgt := 211) (by decide) rfl (by decide) (lc_fault hce hsl C hL hi S b1 b2 nxt)
    · exact q_in C (k := 4) (off := 191) (tgt := 224) (by decide) rfl (by decide) (lc_level hce hsl C hL hi S b1 b2 nxt)
    · exact q_in C (k := 5) (off := 214) (tgt := 247) (by decide) rfl (by decide) (lc_top hce hsl C hL hi S b1 b2 nxt)
    · exact q_in C (k := 6) (off := 227) (tgt := 260) (by decide) rfl (by decide) (lc_wake hce hsl C hL hi S b1 b2 nxt)
    · exact q_in C (k := 7) (off := 270) (tgt := 303) (by decide) rfl (by decide) (lc_sleep hce hsl C hL hi S b1 b2 nxt)
    · exact q_in C (k := 8) (off := 303) (tgt := 336) (by decide) rfl (by decide) (lc_will hce hsl C hL hi S b1 b2 nxt)
    · exact q_in C (k := 9) (off := 366) (tgt := 399) (by decide) rfl (by decide) (lc_subscribe hce hsl C hL hi S b1 b2 nxt)
    · exact q_in C (k := 10) (off := 409) (tgt := 442) (by decide) rfl (by decide) (lc_leave hce hsl C hL hi S b1 b2 nxt)
    · exact q_in C (k := 11) (off := 442) (tgt := 475) (by decide) rfl (by decide) (lc_alias hce hsl C hL hi S b1 b2 nxt)
    · exact q_in C (k := 12) (off := 475) (tgt := 508) (by decide) rfl (by decide) (lc_say hce hsl C hL hi S b1 b2 nxt)
    · exact q_in C (k := 13) (off := 538) (tgt := 571) (by decide) rfl (by decide) (lc_carry hce hsl C hL hi S b1 b2 nxt)
    · exact q_in C (k := 14) (off := 581) (tgt := 614) (by decide) rfl (by decide) (lc_again hce hsl C hL hi S b1 b2 nxt)
    · exact q_in C (k := 15) (off := 604) (tgt := 637) (by decide) rfl (by decide) (lc_tick hce hsl C hL hi S b1 b2 nxt)
    · exact q_in C (k := 16) (off := 627) (tgt := 660) (by decide) rfl (by decide) (lc_rule hce hsl C hL hi S b1 b2 nxt)
    · exact q_in C (k := 17) (off := 650) (tgt := 683) (by decide) rfl (by decide) (lc_client hce hsl C hL hi S b1 b2 nxt)
    · exact q_in C (k := 18) (off := 683) (tgt := 716) (by decide) rfl (by decide) (lc_subscription hce hsl C hL hi S b1 b2 nxt)
    · exact q_in C (k := 19) (off := 726) (tgt := 759) (by decide) rfl (by decide) (lc_kept hce hsl C hL hi S b1 b2 nxt)
    · exact q_in C (k := 20) (off := 759) (tgt := 792) (by decide) rfl (by decide) (lc_had hce hsl C hL hi S b1 b2 nxt)
    · exact q_in C (k := 21) (off := 782) (tgt := 815) (by decide) rfl (by decide) (lc_line hce hsl C hL hi S b1 b2 nxt)
    · exact q_in C (k := 22) (off := 835) (tgt := 868) (by decide) rfl (by decide) (lc_flight hce hsl C hL hi S b1 b2 nxt)
    · exact q_in C (k := 23) (off := 878) (tgt := 911) (by decide) rfl (by decide) (lc_took hce hsl C hL hi S b1 b2 nxt)
    · exact q_in C (k := 24) (off := 921) (tgt := 954) (by decide) rfl (by decide) (lc_keep hce hsl C hL hi S b1 b2 nxt)
    · exact q_in C (k := 25) (off := 944) (tgt := 977) (by decide) rfl (by decide) (lc_back hce hsl C hL hi S b1 b2 nxt)
theorem L6 {L i : Nat} (hL : L ≤ 3072) (hi : i ≤ 3072) (q : ¬ Int32.ofNat L - 6 < nI i) : i + 6 ≤ L := by
  have q1 : nI i ≤ Int32.ofNat L - 6 := Int32.not_lt.mp q
  have q2 := Int32.le_iff_toInt_le.mp q1
  rw [nI_toInt (by omega), Int32.toInt_sub, show (Int32.ofNat L).toInt = (L : Int) from nI_toInt (by omega), show (6 : Int32).toInt = 6 from rfl, Int.bmod_eq_of_le (by omega) (by omega)] at q2
  omega
set_option maxHeartbeats 8000000 in
/-- THE LAW'S LOOP: at its head, behind j calls, the two systems agree -/
theorem law_loop {G : xG} {p : Program} {l : Launch} {e : Env} {s : State} {m : MethodId} {below : List Frame} {meth : Method} {c : Code} {b L : Nat} {xs : Nat → Int32} {ce sl : Nat} (hce : ce ≤ 600000) (hsl : sl ≤ 7302250) (C : LC G p s m meth c b L xs) (hL : L ≤ 3072) :
    ∀ (n j : Nat), 6 * j ≤ L → L < 6 * (j + n) → ∀ (T : Top) (h : Mem), ST (1 + 13000 * j) h T → LW G p l e s m below meth c b ce sl 18 (lwl G b (6 * j)) [] h := by
  intro n
  induction n with
  | zero =>
    intro j h1 h2
    exact absurd h2 (by omega)
  | succ n ih =>
    intro j hj hn T h S H locs lsA hP hS hl
    obtain ⟨hx, hb, hr, hml, hown, hts, hX, hbl, hlocks, hgv⟩ := id C.1
    have hbA : ¬ (fun q : Nat => s.heap.size ≤ q) b := Nat.not_le.mpr hbl
    refine lv_iload_n hx hb d_law_18 rfl (lv_at hl 3 rfl) ?_
    refine lv_aload_n hx hb d_law_19 rfl (lv_at hl 0 rfl) ?_
    refine va_slen hx hb hX hbl hbA hS d_law_20 ?_
    refine lv_bipush (v := 6) hx hb d_law_21 (by decide) ?_
    refine lv_isub hx hb d_law_23 ?_
    refine lv_icmp_gt (tgt := 1006) hx hb d_law_24 (by decide) (fun _ => ?_) (fun q => ?_)
    · refine lv_iconst (v := 1) hx hb d_law_1006 (by decide) ?_
      refine va_forget (fun q hq => hS.2.2 q hq) ?_
      refine W.widen (k := 600000) (n := 7302250) hce hsl ?_
      exact lw_ret hx hb hr hlocks d_law_1007
    · have hi : 6 * j + 6 ≤ L := L6 hL (by omega) q
      refine lv_aload_n hx hb d_law_27 rfl (lv_at hl 0 rfl) ?_
      refine lv_iload_n hx hb d_law_28 rfl (lv_at hl 3 rfl) ?_
      refine q_sld C hL (k := 6 * j) (i := 6 * j) (by omega) d_law_29 ?_ H locs lsA hP hS hl
      intro H locs lsA hP hS hl
      refine lv_bipush (v := 31) hx hb d_law_30 (by decide) ?_
      refine lv_iand hx hb d_law_32 ?_
      refine law_sw hce hsl C hL hi S (by omega) (by omega) ?_ _ H locs lsA hP hS hl
      intro T' h' S' H locs lsA hP hS hl
      refine lv_iinc (v := nI (6 * (j + 1))) (lv' := [(3, .int (nI (6 * (j + 1)))), (0, .ref b), (1, .ref (G.1 0)), (2, .ref (G.1 390))]) hx hb d_law_1000 hl (k := 3) rfl (by rw [show Int32.ofInt 6 = nI 6 from rfl, nI_add, show 6 * j + 6 = 6 * (j + 1) by omega]) (by decide) rfl (fun ls hl => ?_)
      refine lv_goto (tgt := 18) hx hb d_law_1003 (by decide) ?_
      exact ih (j + 1) (by omega) (by omega) T' h' (by rw [show 1 + 13000 * (j + 1) = 1 + 13000 * j + 13000 by omega]; exact S') H locs ls hP hS (lv_sub hl [1, 2, 3, 0] rfl)
