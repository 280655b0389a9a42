/-! the law from its entry: the two constructors, then the loop -/
def LV (G : xG) (p : Program) (l : Launch) (e : Env) (s : State) (m : MethodId) (below : List Frame) (meth : Method) (c : Code) (b ce sl pc : Nat) (ls : List (Nat × Value)) (st : List Value) (n : Nat) (E : Nat → va_E) : Prop :=
  ∀ (H : Heap) (locs : List Loc) (lsA : Array Slot), PWq G n E H → va_S (zA G) s.heap H locs → lv_has lsA 4 ls → W p l e room_1 s m #[Value.ref b] below meth c H locs ce sl (lw_Z below #[Value.ref b] s) (F0 m pc lsA st)
def LB (G : xG) (p : Program) (s : State) (m : MethodId) (meth : Method) (c : Code) (b L : Nat) (xs : Nat → Int32) : Prop := lw_At p s m meth c b L xs ∧ Gz G ∧ G.1 0 = s.heap.size ∧ va_K G.2.1 vwCl (xtys G) s ∧ xNest s ∧ xStr G s ∧ AO2 s
section LST
variable {G : xG} {p : Program} {l : Launch} {e : Env} {s : State} {m : MethodId} {below : List Frame} {meth : Method} {c : Code} {b L : Nat} {xs : Nat → Int32} {ce sl pc n : Nat} {ls : List (Nat × Value)} {st : List Value} {E : Nat → va_E}
theorem LB.hts (C : LB G p s m meth c b L xs) : ∀ w ∈ xgt, w.before #[Value.ref b] s = true := fun w hw => C.1.2.2.2.2.2.1 w (List.mem_filter.mp hw).1
theorem v_new (C : LB G p s m meth c b L xs) {ci idx : Nat} {fs : List Value} (hd : decode code pc = .ok (.new idx, 3)) (hw : xNW R_law idx ci fs) (hn : n < 405) (hce : ce + 1 ≤ 600000) (hsl : sl + fs.length ≤ 7302250) (K : LV G p l e s m below meth c b (ce + 1) (sl + fs.length) (pc + 3) ls (.ref (G.1 n) :: st) (n + 1) (fe E n (.inr (ci, fs)))) : LV G p l e s m below meth c b ce sl pc ls st n E := by
  intro H locs lsA hPq hS hv
  have hP := hPq.p hn
  have hts := C.hts
  obtain ⟨C0, T, N, ty0, hc, hin, hty, w1, w2, w3, hfs, hlen⟩ := hw
  obtain ⟨⟨hx, hcb, -, -, hown, -⟩, hz, -, hK, -⟩ := id C
  have hKn := hK.1 ci _ hc
  subst hlen
  refine W.newcK hx hcb hown (hts _ w1) (hts _ w2) (hts _ w3) rfl hd hce hsl hKn.2.1 rfl fun H1 kC hkC e1 z1 o1 => ?_
  have hs := hP.1
  have K' := K H1 locs lsA (hP.push (x := .inr (ci, fs)) z1 o1 ⟨_, hc, (u_born ty0 hts hin hKn hkC (by rw [← hs]; exact e1) hty).to hfs⟩).q (zS hS z1 o1) hv
  rw [hz n, ← hs] at K'
  exact K'
theorem v_dup (C : LB G p s m meth c b L xs) {x : Nat} (hd : decode code pc = .ok (.dup, 1)) (K : LV G p l e s m below meth c b ce sl (pc + 1) ls (.ref x :: .ref x :: st) n E) : LV G p l e s m below meth c b ce sl pc ls (.ref x :: st) n E :=
  fun H locs lsA hP hS hv => lv_dup C.1.1 C.1.2.1 hd rfl (K H locs lsA hP hS hv)
theorem v_ast (C : LB G p s m meth c b L xs) {k : Fin 4} {i x : Nat} {ls' : List (Nat × Value)} (hd : decode code pc = .ok (.astore_n k, 1)) (hi : (k : Nat) = i) (hn : i < 4) (hl : (i, Value.ref x) :: ls.filter (fun q => !(q.1 == i) && !(q.1 + 1 == i && q.2.category == 2)) = ls') (K : LV G p l e s m below meth c b ce sl (pc + 1) ls' st n E) : LV G p l e s m below meth c b ce sl pc ls (.ref x :: st) n E :=
  fun H locs lsA hP hS hv => lv_astore_n C.1.1 C.1.2.1 hd hi hv hn hl (fun lsB hv => K H locs lsB hP hS hv)
theorem v_ctor (C : LB G p s m meth c b L xs) {d' mc' ms' idx k n' : Nat} {y : MethodName} {Fy : xF} {E' : Nat → va_E} (hd : decode code pc = .ok (.invokespecial idx, 3)) (hm : xMC y Fy 0) (hl : Cond.methodLink R_law idx y ∈ xgt) (S : Sk G d' mc' ms' y Fy [.ref (G.1 k)] n E n' E') (hn : n < 405) (hdd : d' ≤ 9) (hW : (st.map fun v => v.category).sum ≤ 8) (hce : ce + mc' ≤ 600000) (hsl : sl + ms' ≤ 7302250)
    (K : LV G p l e s m below meth c b (ce + mc') (sl + ms') (pc + 3) ls st n' E') : LV G p l e s m below meth c b ce sl pc ls (.ref (G.1 k) :: st) n E := by
  intro H locs lsA hPq hS hv
  have hP := hPq.p hn
  have hM := S l
  have hts := C.hts
  obtain ⟨⟨w1, w2, w4⟩, hds, h21, hyi, hrn⟩ := hm
  obtain ⟨⟨hx, hcb, -, hml, hown, -⟩, hz, hsz, hK, hN, hSt, hO⟩ := id C
  have hG : GoodIn xgt (Cond.code y Fy.2.1 Fy.2.2.1 none :: xgt) := fun w hw => (List.mem_cons.mp hw).elim (fun q => by rw [q, ← hrn]; exact xgt_good _ w1) (fun q => xgt_good w q)
  have hR : (xrk d' mc' ms').frames + 1 ≤ room_1.frames ∧ 8 + (Fy.2.2.1 + 11) + (xrk d' mc' ms').locals ≤ room_1.locals := ⟨by show d' + 1 ≤ 12; omega, by show _ + 40 * d' ≤ 512; omega⟩
  have hpre : PreS s H (Pk G [.ref (G.1 k)] n E) [.ref (G.1 k)] := ⟨Pk_blind, fun U hU hW => ⟨rfl, by rw [hU]; exact hP, va_K.moved hW.alike hK, hN.warm hW, hSt.warm hW (fun a h1 h2 => by rw [hU]; exact hS.2.1 a h1 (fun z => absurd (show G.1 0 ≤ a from z) (by omega))), ⟨va_AO.moved hW.alike hO.1, va_AO.moved hW.alike hO.2⟩, hz, by omega⟩⟩
  rw [hrn] at hM
  have R := va_runI (p := p) (l := l) (e := e) (R := room_1) (below := below) (meth := meth) (locs := locs) (cells := ce) (slots := sl) (g := F0 m pc lsA (.ref (G.1 k) :: st)) (As := []) (rest := st) ⟨hx, hcb, hml, hown, hts⟩ hM ⟨callB_of 0 hts hG rfl rfl rfl (hts _ w4) (hts _ hl) hds hR, hyi, hts _ w2⟩ hpre rfl rfl hv.1 rfl (lv_room hW) hd ⟨hce, hsl⟩
  intro T hT X
  obtain ⟨v, st₀, t, T', L', h0', X', hL, e1, e2, ⟨hq1, hq2, hz1, hk⟩, go⟩ := R T hT X
  cases hq1
  rw [h0'] at hz1 hk
  have hS' : va_S (zA G) s.heap T'.heap (locs ++ L') := by
    refine ⟨Nat.le_trans hS.1 (by rw [e1]; exact hz1), fun q h1 h2 => ?_, fun q hq => ?_⟩
    · rw [e1, hk q (Nat.lt_of_lt_of_le h1 hS.1) h2]
      exact hS.2.1 q h1 h2
    · rcases List.mem_append.mp hq with z | z
      · exact hS.2.2 q z
      · exact hL q z
  obtain ⟨t2, a1, b1⟩ := K T'.heap (locs ++ L') lsA (by rw [e1]; exact hq2) hS' hv T' rfl X'
  exact ⟨t2, go t2 a1, b1⟩
theorem v_cgr {E' : Nat → va_E} (q : ∀ k, k < n → E' k = E k) (K : LV G p l e s m below meth c b ce sl pc ls st n E') : LV G p l e s m below meth c b ce sl pc ls st n E :=
  fun H locs lsA hP hS hv => K H locs lsA ⟨hP.1, fun k hk => by rw [q k hk]; exact hP.2 k hk⟩ hS hv
end LST
set_option maxHeartbeats 4000000 in
/-- THE LAW, from its entry -/
theorem whole_start {p : Program} {e : Env} {s : State} {m : MethodId} {below : List Frame} {meth : Method} {c : Code} (l : Launch) (hflags : l.flags = flags0) {b L : Nat} {xs : Nat → Int32} (hL : L ≤ 3072) (C0 : lw_At p s m meth c b L xs) : W p l e room_1 s m #[Value.ref b] below meth c s.heap [] 0 0 (lw_Z below #[Value.ref b] s) (entryFrame m ([Value.ref b] : List Value).toArray 4) := by
  obtain ⟨hx, hb, hr, hml, hown, hts, hX, hbl, hlocks, hgv⟩ := id C0
  obtain ⟨D, cA, hKG⟩ := K_ini hts
  obtain ⟨adK, adV, hSG⟩ := S_ini hts hgv
  obtain ⟨G, g1, g2, g3, g4, g5'⟩ : ∃ G : xG, (∀ k, G.1 k = s.heap.size + k) ∧ G.2.1 = D ∧ G.2.2.1 = cA ∧ G.2.2.2.1 = adK ∧ G.2.2.2.2 = adV := ⟨(fun k => s.heap.size + k, D, cA, adK, adV), fun _ => rfl, rfl, rfl, rfl, rfl⟩
  have z0 : G.1 0 = s.heap.size := g1 0
  have hz : Gz G := fun k => by rw [g1 k, z0]
  have hA : ∀ q, xA G q → s.heap.size ≤ q := fun q ⟨k, _, ek⟩ => by rw [ek, g1 k]; omega
  have hK := hKG G g2 g3
  have hSt := hSG G g4 g5' hA
  have hN := N_ini hts
  have hO : AO2 s := ⟨va_AO.of (A := #[Value.ref b]) (hts _ (List.mem_append_right _ (List.mem_append_left _ (List.mem_of_getElem? (i := 52) rfl)))), va_AO.of (A := #[Value.ref b]) (hts _ (List.mem_append_right _ (List.mem_append_right _ (List.mem_append_left _ (List.mem_of_getElem? (i := 1) rfl)))))⟩
  have B : LB G p s m meth c b L xs := ⟨C0, hz, z0, hK, hN, hSt, hO⟩
  have C : LC G p s m meth c b L xs := ⟨C0, hz.inj, fun k _ => by rw [g1 k]; omega, hK, hN, hSt⟩
  obtain ⟨h1, he, hk1, hR1⟩ := M_empties (P := 391) (h := h0) (by decide +kernel)
  have hl := lv_entry ([.ref b]) (n := 4) (Nat.le_of_ble_eq_true rfl)
  rw [lg_entry_eq]
  generalize (lg_sl ([.ref b]) ++ List.replicate (4 - (lg_sl ([.ref b])).length) Slot.unset).toArray = lsA at hl ⊢
  have hl : lv_has lsA 4 [(0, .ref b)] := hl
  have key : LV G p l e s m below meth c b 0 0 0 [(0, .ref b)] [] 0 (fun j => xE G h0 j) := by
    refine v_new B d_law_0 nw_law_7 (by decide) (by decide) (by decide) ?_
    refine v_dup B d_law_3 ?_
    refine v_ctor (k := 0) B d_law_4 mc_X7 lkL_9 (s_top fe_eq) (by decide) (by decide) (Nat.le_of_ble_eq_true rfl) (by decide) (by decide) ?_
    refine v_ast B d_law_7 rfl (by decide) rfl ?_
    refine v_new B d_law_8 nw_law_10 (by decide) (by decide) (by decide) ?_
    refine v_dup B d_law_11 ?_
    refine v_cgr (E' := MN G bl_X8) (fun k hk => rfl) ?_
    refine v_ctor (k := 390) B d_law_12 mc_X8 lkL_12 (s_model he) (by decide) (by decide) (Nat.le_of_ble_eq_true rfl) (by decide) (by decide) ?_
    refine v_ast B d_law_15 rfl (by decide) rfl ?_
    intro H locs lsB hP hS hv
    refine lv_iconst (v := nI 0) hx hb d_law_16 (by decide) ?_
    refine lv_istore_n (lv' := [(3, .int (nI 0)), (2, .ref (G.1 390)), (1, .ref (G.1 0)), (0, .ref b)]) hx hb d_law_17 rfl hv (by decide) rfl (fun lsC hv => ?_)
    have hS' : va_S (fun q : Nat => s.heap.size ≤ q) s.heap H locs := by
      have zq : zA G = fun q : Nat => s.heap.size ≤ q := by
        funext q
        unfold zA
        rw [z0]
      rw [← zq]
      exact hS
    exact law_loop (by decide) (by decide) C hL (L + 1) 0 (Nat.zero_le _) (by omega) T0 h1 (ST_0 hk1 hR1) H locs lsC (xwl_of hz hP.2) hS' (lv_sub hv [3, 2, 1, 0] rfl)
  exact key s.heap [] lsA ⟨fun _ => by rw [z0]; rfl, fun k hk => absurd hk (Nat.not_lt_zero _)⟩ va_S.rf hl
