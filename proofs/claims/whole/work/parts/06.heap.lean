/-! rows for fields, arrays, calls, returns -/
def ald {β : Type} (h : Mem) (a : Nat) (i : Int32) (k : Int32 → Option β) : Option β := if 0 ≤ i ∧ i.toNatClampNeg < xln a then k (h a i.toNatClampNeg) else none
def ast {β : Type} (h : Mem) (a : Nat) (i v : Int32) (k : Mem → Option β) : Option β := if 0 ≤ i ∧ i.toNatClampNeg < xln a then k (mu h a i.toNatClampNeg v) else none
def aald {β : Type} (a : Nat) (i : Int32) (k : Nat → Option β) : Option β := if 0 ≤ i ∧ i.toNatClampNeg < xln a then k (xrf a i.toNatClampNeg) else none
def acp {β : Type} (h : Mem) (a : Nat) (sp : Int32) (b : Nat) (dp n : Int32) (k : Mem → Option β) : Option β :=
  if (0 ≤ sp ∧ 0 ≤ dp ∧ 0 ≤ n) ∧ sp.toNatClampNeg + n.toNatClampNeg ≤ xln a ∧ dp.toNatClampNeg + n.toNatClampNeg ≤ xln b then k (mA h b (va_cpy (h a) (h b) sp.toNatClampNeg dp.toNatClampNeg n.toNatClampNeg)) else none
def b2 {γ β : Type} (o : Option (γ × Mem)) (k : γ → Mem → Option β) : Option β := match o with
  | some p => k p.1 p.2
  | none => none
def zg {β : Type} (v : Int32) (k : Option β) : Option β := if v = 0 ∨ v = 1 then k else none
def tg {β : Type} (ci k : Nat) (o : Option β) : Option β := if k < xNC ∧ xkd k = ci then o else none
def xmin (x y : Int32) : Int32 := if y < x then y else x
def xmax (x y : Int32) : Int32 := if x < y then y else x
def xcI : Int32 → Option Value := fun v => some (.int v)
def xcV : Unit → Option Value := fun _ => none
def xcR (G : xG) : Nat → Option Value := fun k => some (.ref (G.1 k))
theorem xin_of {i : Int32} {n : Nat} (q : 0 ≤ i ∧ i.toNatClampNeg < n) : vp_in i n := fun z => z.elim (fun a => absurd q.1 (Int32.not_le.mpr a)) (fun a => Nat.not_le.mpr q.2 a)
theorem xE_obj {G : xG} {h : Mem} {k ci : Nat} (ht : xTy k ci) (hc : ci < 8) : xE G h k = .inr (ci, xfl G.1 h k (xfs ci) 0) := by
  unfold xE
  rw [ht.2, if_pos hc]
theorem xE_int {G : xG} {h : Mem} {k : Nat} (ht : xTy k 8) : xE G h k = .inl (G.2.2.1 0, xln k, .inl (h k)) := by
  unfold xE
  rw [ht.2]
  rfl
theorem xE_bool {G : xG} {h : Mem} {k : Nat} (ht : xTy k 9) : xE G h k = .inl (G.2.2.1 1, xln k, .inl (h k)) := by
  unfold xE
  rw [ht.2]
  rfl
theorem xE_cl {G : xG} {h : Mem} {k : Nat} (ht : xTy k 10) : xE G h k = .inl (G.2.2.1 2, xln k, .inr (.inr (.inr (.inr (fun j => some (G.1 (xrf k j))))))) := by
  unfold xE
  rw [ht.2]
  rfl
theorem xE_wo {G : xG} {h : Mem} {k : Nat} (ht : xTy k 11) : xE G h k = .inl (G.2.2.1 3, xln k, .inr (.inr (.inr (.inr (fun j => some (G.1 (xrf k j))))))) := by
  unfold xE
  rw [ht.2]
  rfl
theorem xfl_set (ad : Nat → Nat) (h : Mem) (k i : Nat) (v : Int32) {bs : List Bool} (hb : bs[i]? = some false) : (xfl ad h k bs 0).set i (.int v) = xfl ad (mu h k i v) k bs 0 := by
  apply List.ext_getElem?
  intro j
  rw [xfl_get]
  by_cases hj : j = i
  · subst hj
    have hl : j < (xfl ad h k bs 0).length := by rw [xfl_len]; exact (List.getElem?_eq_some_iff.mp hb).1
    rw [List.getElem?_set_self hl, hb]
    simp [mu_eq, upd]
  · rw [List.getElem?_set_ne (Ne.symm hj), xfl_get]
    have e1 : mu h k i v k (0 + j) = h k (0 + j) := by
      rw [mu_eq, Nat.zero_add]
      exact if_neg hj
    rw [e1]
def xLf (own : String) (idx : Nat) (C n dd : String) : Prop := Cond.fieldLink own idx C n dd ∈ xgt ∨ ∃ host, Cond.fieldLinkNest own idx C n dd host ∈ xnest
def xFG (own : String) (idx ci j : Nat) (b : Bool) : Prop := ∃ (C : String) (T : u_T) (N : Nat), vwCl[ci]? = some (C, T, N) ∧ j < N ∧ (∀ w ∈ u_ws C T N, w ∈ xgt) ∧ xLf own idx (T j).1 (T j).2.1 (T j).2.2.1 ∧ (xfs ci)[j]? = some b ∧ ci < 8
def xFP (own : String) (idx ci j : Nat) (ty : FieldType) : Prop := ∃ (C : String) (T : u_T) (N : Nat) (ty0 : Nat → FieldType), vwCl[ci]? = some (C, T, N) ∧ j < N ∧ (∀ w ∈ u_ws C T N, w ∈ xgt) ∧ (∀ k, k < N → parseFieldDescriptor (T k).2.2.1 = some (ty0 k)) ∧ (∀ a, a < N → ∀ b, b < N → a ≠ b → (T a).2.1 ≠ (T b).2.1) ∧ xLf own idx (T j).1 (T j).2.1 (T j).2.2.1 ∧ (T j).2.2.2 = false ∧ parseFieldDescriptor (T j).2.2.1 = some ty ∧ (xfs ci)[j]? = some false ∧ ci < 8
section XH
variable {α : Type} {G : xG} {d : Nat} {F : xF} {cv : α → Option Value} {pc : Nat} {ls : List (Nat × Value)} {st : List Value} {h : Mem} {o : Option (α × Mem)}
theorem r_getV {k ci j idx : Nat} {b : Bool} (hd : decode F.2.1 pc = .ok (.getfield idx, 3)) (hf : xFG F.1 idx ci j b) (ht : xTy k ci) (K : Rn G d F cv (pc + 3) ls ((if b = true then Value.ref (G.1 (xrf k j)) else Value.int (h k j)) :: st) h o) : Rn G d F cv pc ls (.ref (G.1 k) :: st) h o := by
  intro r hr p l e s m args below meth c H locs lsA C hP hS hv
  obtain ⟨C0, T, N, hc, hj, hin, hlk, hb, h8⟩ := hf
  obtain ⟨hx, hcb, -, -, hown, hts, hN, -, hK, -, -⟩ := id C
  have he : (xwl G h)[k]? = some (G.1 k, .inr (ci, xfl G.1 h k (xfs ci) 0)) := by rw [xwl_get G h ht.1, xE_obj ht h8]
  have hv0 : (xfl G.1 h k (xfs ci) 0)[j]? = some (if b = true then Value.ref (G.1 (xrf k j)) else Value.int (h k j)) := by rw [xfl_get, hb, Nat.zero_add]; rfl
  have K' := K r hr p l e s m args below meth c H locs lsA C hP hS hv
  rcases hlk with hlk | ⟨host, hlk⟩
  · exact va_get hx hcb hts hin hown hK hP k he hc j hj (hts _ hlk) (fun _ q => q) hv0 hd K'
  · exact va_getN hx hcb hts hin hown hK hP k he hc j hj (va_Nw.use rfl (hN _ hlk)) (fun _ q => q) hv0 hd K'
theorem r_getI {k ci j idx : Nat} (hd : decode F.2.1 pc = .ok (.getfield idx, 3)) (hf : xFG F.1 idx ci j false) (ht : xTy k ci) (K : Rn G d F cv (pc + 3) ls (.int (h k j) :: st) h o) : Rn G d F cv pc ls (.ref (G.1 k) :: st) h o := r_getV hd hf ht K
theorem r_getR {k ci j idx : Nat} (hd : decode F.2.1 pc = .ok (.getfield idx, 3)) (hf : xFG F.1 idx ci j true) (ht : xTy k ci) (K : Rn G d F cv (pc + 3) ls (.ref (G.1 (xrf k j)) :: st) h o) : Rn G d F cv pc ls (.ref (G.1 k) :: st) h o := r_getV hd hf ht K
theorem r_putV {k ci j idx : Nat} {ty : FieldType} {v : Int32} (hd : decode F.2.1 pc = .ok (.putfield idx, 3)) (hf : xFP F.1 idx ci j ty) (ht : xTy k ci) (hn : narrow ty (.int v) = .int v) (hfi : fits ty (.int v) = true) (K : Rn G d F cv (pc + 3) ls st (mu h k j v) o) : Rn G d F cv pc ls (.int v :: .ref (G.1 k) :: st) h o := by
  intro r hr p l e s m args below meth c H locs lsA C hP hS hv
  obtain ⟨C0, T, N, ty0, hc, hj, hin, hty, hnm, hlk, hfin, hpa, hb, h8⟩ := hf
  obtain ⟨hx, hcb, -, -, hown, hts, hN, -, hK, hI, -⟩ := id C
  have he : (xwl G h)[k]? = some (G.1 k, .inr (ci, xfl G.1 h k (xfs ci) 0)) := by rw [xwl_get G h ht.1, xE_obj ht h8]
  have hlen : j < (xfl G.1 h k (xfs ci) 0).length := by rw [xfl_len]; exact (List.getElem?_eq_some_iff.mp hb).1
  have hset : (xwl G h).set k (G.1 k, .inr (ci, (xfl G.1 h k (xfs ci) 0).set j (.int v))) = xwl G (mu h k j v) :=
    xwl_set G h (mu h k j v) ht.1 (fun a ha => mu_ne ha) (by rw [xE_obj ht h8, xfl_set _ _ _ _ _ hb])
  have K' : ∀ (H1 : Heap) (locs1 : List Loc), va_P G.2.1 vwCl ((xwl G h).set k (G.1 k, .inr (ci, (xfl G.1 h k (xfs ci) 0).set j (.int v)))) H1 → va_D (xA G) ((xwl G h).set k (G.1 k, .inr (ci, (xfl G.1 h k (xfs ci) 0).set j (.int v)))) → va_S (xA G) s.heap H1 locs1 → W p l e (xrm d) s m args below meth c H1 locs1 0 0 (MQ below (xQx G cv r) args s 0 0 (xA G)) (F0 m (pc + 3) lsA st) := by
    intro H1 locs1 a1 _ a3
    rw [hset] at a1
    exact K r hr p l e s m args below meth c H1 locs1 lsA C a1 a3 hv
  rcases hlk with hlk | ⟨host, hlk⟩
  · exact va_put hx hcb hts hin ty0 hty hnm hown hK hP (xwl_D hI h) hS k he hc j hj (hts _ hlk) (fun _ q => q) hfin hpa hn hfi hlen hd K'
  · exact va_putN hx hcb hts hin ty0 hty hnm hown hK hP (xwl_D hI h) hS k he hc j hj (va_Nw.use rfl (hN _ hlk)) (fun _ q => q) hfin hpa hn hfi hlen hd K'
theorem r_putI {k ci j idx : Nat} {v : Int32} (hd : decode F.2.1 pc = .ok (.putfield idx, 3)) (hf : xFP F.1 idx ci j .int) (ht : xTy k ci) (K : Rn G d F cv (pc + 3) ls st (mu h k j v) o) : Rn G d F cv pc ls (.int v :: .ref (G.1 k) :: st) h o := r_putV hd hf ht rfl rfl K
theorem xz_ok {v : Int32} (hz : v = 0 ∨ v = 1) : narrow .boolean (.int v) = .int v ∧ fits .boolean (.int v) = true := by
  rcases hz with rfl | rfl
  · exact ⟨by decide +kernel, by decide +kernel⟩
  · exact ⟨by decide +kernel, by decide +kernel⟩
theorem r_putZ {k ci j idx : Nat} {v : Int32} (hd : decode F.2.1 pc = .ok (.putfield idx, 3)) (hf : xFP F.1 idx ci j .boolean) (ht : xTy k ci) (K : Rn G d F cv (pc + 3) ls st (mu h k j v) o) : Rn G d F cv pc ls (.int v :: .ref (G.1 k) :: st) h (zg v o) := by
  intro r hr
  by_cases hz : v = 0 ∨ v = 1
  · rw [zg, if_pos hz] at hr
    exact r_putV hd hf ht (xz_ok hz).1 (xz_ok hz).2 K r hr
  · rw [zg, if_neg hz] at hr
    cases hr
theorem r_iald {a : Nat} {i : Int32} {kk : Int32 → Option (α × Mem)} (hd : decode F.2.1 pc = .ok (.iaload, 1)) (ht : xTy a 8) (K : ∀ v, Rn G d F cv (pc + 1) ls (.int v :: st) h (kk v)) : Rn G d F cv pc ls (.int i :: .ref (G.1 a) :: st) h (ald h a i kk) := by
  intro r hr p l e s m args below meth c H locs lsA C hP hS hv
  by_cases q : 0 ≤ i ∧ i.toNatClampNeg < xln a
  · rw [ald, if_pos q] at hr
    exact va_iald C.1 C.2.1 C.2.2.2.2.2.2.2.2.1 hP a 0 (by rw [xwl_get G h ht.1, xE_int ht]) rfl (xin_of q) hd (K _ r hr p l e s m args below meth c H locs lsA C hP hS hv)
  · rw [ald, if_neg q] at hr
    cases hr
theorem r_zald {a : Nat} {i : Int32} {kk : Int32 → Option (α × Mem)} (hd : decode F.2.1 pc = .ok (.baload, 1)) (ht : xTy a 9) (K : ∀ v, Rn G d F cv (pc + 1) ls (.int v :: st) h (kk v)) : Rn G d F cv pc ls (.int i :: .ref (G.1 a) :: st) h (ald h a i kk) := by
  intro r hr p l e s m args below meth c H locs lsA C hP hS hv
  by_cases q : 0 ≤ i ∧ i.toNatClampNeg < xln a
  · rw [ald, if_pos q] at hr
    exact va_zald C.1 C.2.1 C.2.2.2.2.2.2.2.2.1 hP a 1 (by rw [xwl_get G h ht.1, xE_bool ht]) rfl (xin_of q) hd (K _ r hr p l e s m args below meth c H locs lsA C hP hS hv)
  · rw [ald, if_neg q] at hr
    cases hr
theorem r_iast {a : Nat} {i v : Int32} {kk : Mem → Option (α × Mem)} (hd : decode F.2.1 pc = .ok (.iastore, 1)) (ht : xTy a 8) (K : ∀ h1, Rn G d F cv (pc + 1) ls st h1 (kk h1)) : Rn G d F cv pc ls (.int v :: .int i :: .ref (G.1 a) :: st) h (ast h a i v kk) := by
  intro r hr p l e s m args below meth c H locs lsA C hP hS hv
  by_cases q : 0 ≤ i ∧ i.toNatClampNeg < xln a
  · rw [ast, if_pos q] at hr
    refine va_iast C.1 C.2.1 C.2.2.2.2.2.2.2.2.1 hP (xwl_D C.2.2.2.2.2.2.2.2.2.1 h) hS a 0 (by rw [xwl_get G h ht.1, xE_int ht]) rfl (xin_of q) hd (fun H1 locs1 a1 _ a3 => ?_)
    rw [xwl_set G h (mu h a i.toNatClampNeg v) ht.1 (fun b hb => mu_ne hb) (by rw [xE_int ht, mu_eq])] at a1
    exact K _ r hr p l e s m args below meth c H1 locs1 lsA C a1 a3 hv
  · rw [ast, if_neg q] at hr
    cases hr
theorem r_zast {a : Nat} {i v : Int32} {kk : Mem → Option (α × Mem)} (hd : decode F.2.1 pc = .ok (.bastore, 1)) (ht : xTy a 9) (hz : v = 0 ∨ v = 1) (K : ∀ h1, Rn G d F cv (pc + 1) ls st h1 (kk h1)) : Rn G d F cv pc ls (.int v :: .int i :: .ref (G.1 a) :: st) h (ast h a i v kk) := by
  intro r hr p l e s m args below meth c H locs lsA C hP hS hv
  by_cases q : 0 ≤ i ∧ i.toNatClampNeg < xln a
  · rw [ast, if_pos q] at hr
    refine va_zast C.1 C.2.1 C.2.2.2.2.2.2.2.2.1 hP (xwl_D C.2.2.2.2.2.2.2.2.2.1 h) hS a 1 (by rw [xwl_get G h ht.1, xE_bool ht]) rfl (xin_of q) hd (fun H1 locs1 a1 _ a3 => ?_)
    have hnar : vp_nar .boolean v = v := by
      unfold vp_nar
      rw [(xz_ok hz).1]
    rw [hnar, xwl_set G h (mu h a i.toNatClampNeg v) ht.1 (fun b hb => mu_ne hb) (by rw [xE_bool ht, mu_eq])] at a1
    exact K _ r hr p l e s m args below meth c H1 locs1 lsA C a1 a3 hv
  · rw [ast, if_neg q] at hr
    cases hr
theorem r_aald10 {a : Nat} {i : Int32} {kk : Nat → Option (α × Mem)} (hd : decode F.2.1 pc = .ok (.aaload, 1)) (ht : xTy a 10) (K : ∀ t, xTy t 0 → Rn G d F cv (pc + 1) ls (.ref (G.1 t) :: st) h (kk t)) : Rn G d F cv pc ls (.int i :: .ref (G.1 a) :: st) h (aald a i kk) := by
  intro r hr p l e s m args below meth c H locs lsA C hP hS hv
  by_cases q : 0 ≤ i ∧ i.toNatClampNeg < xln a
  · rw [aald, if_pos q] at hr
    exact va_aldq (f := fun j => some (G.1 (xrf a j))) C.1 C.2.1 C.2.2.2.2.2.2.2.2.1 hP a 2 (by rw [xwl_get G h ht.1, xE_cl ht]) rfl (xin_of q) hd (K _ (xt_10 ht q.2) r hr p l e s m args below meth c H locs lsA C hP hS hv)
  · rw [aald, if_neg q] at hr
    cases hr
theorem r_aald11 {a : Nat} {i : Int32} {kk : Nat → Option (α × Mem)} (hd : decode F.2.1 pc = .ok (.aaload, 1)) (ht : xTy a 11) (K : ∀ t, xTy t 5 → Rn G d F cv (pc + 1) ls (.ref (G.1 t) :: st) h (kk t)) : Rn G d F cv pc ls (.int i :: .ref (G.1 a) :: st) h (aald a i kk) := by
  intro r hr p l e s m args below meth c H locs lsA C hP hS hv
  by_cases q : 0 ≤ i ∧ i.toNatClampNeg < xln a
  · rw [aald, if_pos q] at hr
    exact va_aldq (f := fun j => some (G.1 (xrf a j))) C.1 C.2.1 C.2.2.2.2.2.2.2.2.1 hP a 3 (by rw [xwl_get G h ht.1, xE_wo ht]) rfl (xin_of q) hd (K _ (xt_11 ht q.2) r hr p l e s m args below meth c H locs lsA C hP hS hv)
  · rw [aald, if_neg q] at hr
    cases hr
theorem r_alen {a : Nat} (hd : decode F.2.1 pc = .ok (.arraylength, 1)) (ht : xTy a 8) (K : Rn G d F cv (pc + 1) ls (.int (Int32.ofNat (xln a)) :: st) h o) : Rn G d F cv pc ls (.ref (G.1 a) :: st) h o := by
  intro r hr p l e s m args below meth c H locs lsA C hP hS hv
  exact va_alen C.1 C.2.1 C.2.2.2.2.2.2.2.2.1 hP a 0 (by rw [xwl_get G h ht.1, xE_int ht]) (ty := .int) rfl rfl hd (K r hr p l e s m args below meth c H locs lsA C hP hS hv)
def xAcp (own : String) (idx : Nat) : Prop := Cond.methodLink own idx arraycopyName ∈ xgt ∧ Cond.native arraycopyName ∈ xgt ∧ Cond.static arraycopyName ∈ xgt ∧ Cond.initialized "java/lang/System" ∈ xgt
theorem r_acp {a b idx : Nat} {sp dp n : Int32} {kk : Mem → Option (α × Mem)} (hd : decode F.2.1 pc = .ok (.invokestatic idx, 3)) (hw : xAcp F.1 idx) (hta : xTy a 8) (htb : xTy b 8) (hdd : 1 ≤ d) (hr0 : (st.map fun v => v.category).sum ≤ 8) (K : ∀ h1, Rn G d F cv (pc + 3) ls st h1 (kk h1)) : Rn G d F cv pc ls (.int n :: .int dp :: .ref (G.1 b) :: .int sp :: .ref (G.1 a) :: st) h (acp h a sp b dp n kk) := by
  intro r hr p l e s m args below meth c H locs lsA C hP hS hv
  by_cases q : (0 ≤ sp ∧ 0 ≤ dp ∧ 0 ≤ n) ∧ sp.toNatClampNeg + n.toNatClampNeg ≤ xln a ∧ dp.toNatClampNeg + n.toNatClampNeg ≤ xln b
  · rw [acp, if_pos q] at hr
    obtain ⟨hx, hcb, -, hml, hown, hts, -, -, hK, hI, -⟩ := id C
    refine va_copyi hx hcb (hml.trans hv.1.symm) hown (hts _ hw.1) (hts _ hw.2.1) (hts _ hw.2.2.1) (hts _ hw.2.2.2) hK hP (xwl_D hI h) hS a b 0 0 (by rw [xwl_get G h hta.1, xE_int hta]) (by rw [xwl_get G h htb.1, xE_int htb]) (ty := .int) rfl rfl rfl (Int32.not_lt.mpr q.1.1) (Int32.not_lt.mpr q.1.2.1) (Int32.not_lt.mpr q.1.2.2) q.2.1 q.2.2 (fun _ _ => rfl) hdd ?_ hd (fun H1 locs1 a1 _ a3 => ?_)
    · have e1 : nativeFrameWords "java/lang/System" "arraycopy" 5 = 7 := by decide +kernel
      rw [e1]
      show _ + 18 ≤ 40 * d
      omega
    · rw [xwl_set G h (mA h b (va_cpy (h a) (h b) sp.toNatClampNeg dp.toNatClampNeg n.toNatClampNeg)) htb.1 (fun z hz => mA_ne hz) (by rw [xE_int htb, mA_eq])] at a1
      exact K _ r hr p l e s m args below meth c H1 locs1 lsA C a1 a3 hv
  · rw [acp, if_neg q] at hr
    cases hr
def xMin (own : String) (idx : Nat) : Prop := Cond.methodLink own idx Lib.Math.min.name ∈ xgt ∧ Cond.static Lib.Math.min.name ∈ xgt ∧ Cond.initialized "java/lang/Math" ∈ xgt ∧ Cond.code Lib.Math.min.name Lib.Math.min.code 2 (some .int) ∈ xgt
def xMax (own : String) (idx : Nat) : Prop := Cond.methodLink own idx Lib.Math.max.name ∈ xgt ∧ Cond.static Lib.Math.max.name ∈ xgt ∧ Cond.initialized "java/lang/Math" ∈ xgt ∧ Cond.code Lib.Math.max.name Lib.Math.max.code 2 (some .int) ∈ xgt
theorem r_mmin {idx : Nat} {x y : Int32} (hd : decode F.2.1 pc = .ok (.invokestatic idx, 3)) (hw : xMin F.1 idx) (hdd : 1 ≤ d) (hr0 : (st.map fun v => v.category).sum ≤ 8) (K : Rn G d F cv (pc + 3) ls (.int (xmin x y) :: st) h o) : Rn G d F cv pc ls (.int y :: .int x :: st) h o := by
  intro r hr p l e s m args below meth c H locs lsA C hP hS hv
  obtain ⟨hx, hcb, -, hml, hown, hts, -, -, hK, hI, -⟩ := id C
  exact va_mmin hx hcb (hml.trans hv.1.symm) hown (hts _ hw.1) (hts _ hw.2.1) (hts _ hw.2.2.1) (hts _ hw.2.2.2) hdd (by show _ ≤ 40 * d; omega) (Nat.le_refl 0) (Nat.le_refl 0) hd (K r hr p l e s m args below meth c H locs lsA C hP hS hv)
theorem r_mmax {idx : Nat} {x y : Int32} (hd : decode F.2.1 pc = .ok (.invokestatic idx, 3)) (hw : xMax F.1 idx) (hdd : 1 ≤ d) (hr0 : (st.map fun v => v.category).sum ≤ 8) (K : Rn G d F cv (pc + 3) ls (.int (xmax x y) :: st) h o) : Rn G d F cv pc ls (.int y :: .int x :: st) h o := by
  intro r hr p l e s m args below meth c H locs lsA C hP hS hv
  obtain ⟨hx, hcb, -, hml, hown, hts, -, -, hK, hI, -⟩ := id C
  exact va_mmax hx hcb (hml.trans hv.1.symm) hown (hts _ hw.1) (hts _ hw.2.1) (hts _ hw.2.2.1) (hts _ hw.2.2.2) hdd (by show _ ≤ 40 * d; omega) (Nat.le_refl 0) (Nat.le_refl 0) hd (K r hr p l e s m args below meth c H locs lsA C hP hS hv)
theorem r_tg {ci k : Nat} (K : xTy k ci → Rn G d F cv pc ls st h o) : Rn G d F cv pc ls st h (tg ci k o) := by
  intro r hr
  by_cases q : k < xNC ∧ xkd k = ci
  · rw [tg, if_pos q] at hr
    exact K q r hr
  · rw [tg, if_neg q] at hr
    cases hr
end XH
section XS
variable {α : Type} {G : xG} {d : Nat} {F : xF} {cv : α → Option Value} {pc : Nat} {ls : List (Nat × Value)} {st : List Value} {h : Mem} {o o1 o2 : Option (α × Mem)}
theorem r_tabI {dflt lo hi : Int} {offs : Array Int} {len : Nat} {off : Int} {tgt : Nat} {x : Int32} (k : Int32) (hd : decode F.2.1 pc = .ok (.tableswitch dflt lo hi offs, len)) (hlo : ¬ k.toInt < lo) (hhi : ¬ hi < k.toInt) (ho : offs[(k.toInt - lo).toNat]? = some off) (ht : (pc : Int) + off = (tgt : Int)) (K1 : Rn G d F cv tgt ls st h o1) (K2 : ¬ x = k → Rn G d F cv pc ls (.int x :: st) h o2) : Rn G d F cv pc ls (.int x :: st) h (if x = k then o1 else o2) := by
  intro r hr p l e s m args below meth c H locs lsA C hP hS hv
  by_cases q : x = k
  · rw [if_pos q] at hr
    subst q
    exact lv_tableIn C.1 C.2.1 hd hlo hhi ho ht (K1 r hr p l e s m args below meth c H locs lsA C hP hS hv)
  · rw [if_neg q] at hr
    exact K2 q r hr p l e s m args below meth c H locs lsA C hP hS hv
theorem r_tabD {dflt lo hi : Int} {offs : Array Int} {len : Nat} {tgt : Nat} {x : Int32} (hd : decode F.2.1 pc = .ok (.tableswitch dflt lo hi offs, len)) (hx : x.toInt < lo ∨ hi < x.toInt) (ht : (pc : Int) + dflt = (tgt : Int)) (K : Rn G d F cv tgt ls st h o) : Rn G d F cv pc ls (.int x :: st) h o :=
  fun r hr p l e s m args below meth c H locs lsA C hP hS hv => lv_tableOut C.1 C.2.1 hd hx ht (K r hr p l e s m args below meth c H locs lsA C hP hS hv)
theorem r_lokI {dflt : Int} {ps : Array (Int × Int)} {len : Nat} {off : Int} {tgt : Nat} {x : Int32} (k : Int32) (hd : decode F.2.1 pc = .ok (.lookupswitch dflt ps, len)) (hp : (ps.toList.zip (ps.toList.drop 1)).all (fun (a, next) => a.1 < next.1) = true) (ho : Op.lookupswitch.offset ps.toList dflt k.toInt = off) (ht : (pc : Int) + off = (tgt : Int)) (K1 : Rn G d F cv tgt ls st h o1) (K2 : ¬ x = k → Rn G d F cv pc ls (.int x :: st) h o2) : Rn G d F cv pc ls (.int x :: st) h (if x = k then o1 else o2) := by
  intro r hr p l e s m args below meth c H locs lsA C hP hS hv
  by_cases q : x = k
  · rw [if_pos q] at hr
    subst q
    exact lv_lookup C.1 C.2.1 hd hp ho ht (K1 r hr p l e s m args below meth c H locs lsA C hP hS hv)
  · rw [if_neg q] at hr
    exact K2 q r hr p l e s m args below meth c H locs lsA C hP hS hv
theorem r_lokD {dflt : Int} {ps : Array (Int × Int)} {len : Nat} {tgt : Nat} {x : Int32} (hd : decode F.2.1 pc = .ok (.lookupswitch dflt ps, len)) (hp : (ps.toList.zip (ps.toList.drop 1)).all (fun (a, next) => a.1 < next.1) = true) (ho : Op.lookupswitch.offset ps.toList dflt x.toInt = dflt) (ht : (pc : Int) + dflt = (tgt : Int)) (K : Rn G d F cv tgt ls st h o) : Rn G d F cv pc ls (.int x :: st) h o :=
  fun r hr p l e s m args below meth c H locs lsA C hP hS hv => lv_lookup C.1 C.2.1 hd hp ho ht (K r hr p l e s m args below meth c H locs lsA C hP hS hv)
end XS
section XT
variable {G : xG} {d : Nat} {F : xF} {pc : Nat} {ls : List (Nat × Value)} {h : Mem}
theorem r_ret (hd : decode F.2.1 pc = .ok (.return_, 1)) (hf : F.2.2.2 = none) : Rn G d F xcV pc ls [] h (some ((), h)) := by
  intro r hr p l e s m args below meth c H locs lsA C hP hS hv
  cases hr
  have hlocks := C.2.2.2.2.2.2.2.1
  exact W.vret C.1 C.2.1 (C.2.2.1.trans hf) (fun t ht _ => ⟨rfl, by rw [ht]; exact hP, hS.F ht⟩) hS.2.2 hd hlocks
theorem r_iret {v : Int32} (hd : decode F.2.1 pc = .ok (.ireturn, 1)) (hf : F.2.2.2 = some .int) : Rn G d F xcI pc ls [.int v] h (some (v, h)) := by
  intro r hr p l e s m args below meth c H locs lsA C hP hS hv
  cases hr
  have hlocks := C.2.2.2.2.2.2.2.1
  exact W.iret C.1 C.2.1 (C.2.2.1.trans hf) (fun t ht _ => ⟨rfl, by rw [ht]; exact hP, hS.F ht⟩) hS.2.2 hd hlocks
theorem r_zret1 {v : Int32} (hd : decode F.2.1 pc = .ok (.ireturn, 1)) (hf : F.2.2.2 = some .boolean) (hz : v = 0 ∨ v = 1) : Rn G d F xcI pc ls [.int v] h (some (v, h)) := by
  intro r hr p l e s m args below meth c H locs lsA C hP hS hv
  cases hr
  have hlocks := C.2.2.2.2.2.2.2.1
  exact W.zret C.1 C.2.1 (C.2.2.1.trans hf) (xz_ok hz).1 (fun t ht _ => ⟨rfl, by rw [ht]; exact hP, hS.F ht⟩) hS.2.2 hd hlocks
theorem r_zret {v : Int32} (hd : decode F.2.1 pc = .ok (.ireturn, 1)) (hf : F.2.2.2 = some .boolean) : Rn G d F xcI pc ls [.int v] h (zg v (some (v, h))) := by
  intro r hr
  by_cases hz : v = 0 ∨ v = 1
  · rw [zg, if_pos hz] at hr
    exact r_zret1 hd hf hz r hr
  · rw [zg, if_neg hz] at hr
    cases hr
theorem r_aret {k : Nat} {n : String} (hd : decode F.2.1 pc = .ok (.areturn, 1)) (hf : F.2.2.2 = some (.object n)) : Rn G d F (xcR G) pc ls [.ref (G.1 k)] h (some (k, h)) := by
  intro r hr p l e s m args below meth c H locs lsA C hP hS hv
  cases hr
  have hlocks := C.2.2.2.2.2.2.2.1
  exact W.aret C.1 C.2.1 (C.2.2.1.trans hf) (Or.inl ⟨n, rfl⟩) (Or.inr ⟨_, rfl⟩) (fun t ht _ => ⟨rfl, by rw [ht]; exact hP, hS.F ht⟩) hS.2.2 hd hlocks
end XT
/-! calls -/
def xMI (y : MethodName) (F : xF) (n : Nat) : Prop := (Cond.code y F.2.1 F.2.2.1 F.2.2.2 ∈ xgt ∧ Cond.instanceMethod y ∈ xgt ∧ Cond.selects y.cls y y ∈ xgt ∧ Cond.initialized y.cls ∈ xgt) ∧ (y.cls ≠ "java/lang/invoke/MethodHandle" ∧ y.cls ≠ "java/lang/invoke/VarHandle" ∧ (parseMethodDescriptor y.desc).map (fun d => d.parameters.length) = some n) ∧ F.2.2.1 ≤ 21
def xMS (y : MethodName) (F : xF) (n : Nat) : Prop := (Cond.code y F.2.1 F.2.2.1 F.2.2.2 ∈ xgt ∧ Cond.static y ∈ xgt ∧ Cond.initialized y.cls ∈ xgt) ∧ (y.cls ≠ "java/lang/invoke/MethodHandle" ∧ y.cls ≠ "java/lang/invoke/VarHandle" ∧ (parseMethodDescriptor y.desc).map (fun d => d.parameters.length) = some n) ∧ F.2.2.1 ≤ 21
def xLk (own : String) (idx : Nat) (y : MethodName) : Prop := Cond.methodLink own idx y ∈ xgt ∨ ∃ host, Cond.methodLinkNest own idx y host ∈ xnest
theorem xPx_blind {G : xG} {as : List Value} {h : Mem} : FrameBlind (xPx G as h) := by
  intro a U g mk q
  obtain ⟨q0, q1, q2, q3, q4, q5⟩ := q
  exact ⟨q0, q1, va_K.moved (u := U) (U := U.calling g mk a) (Vm.Alike.refl U.vm) q2, xNest.same (u := U) rfl q3, xStr.same (u := U) rfl rfl q4, q5⟩
theorem xPx_of {G : xG} {F : xF} {p : Program} {s : State} {m : MethodId} {args : Array Value} {meth : Method} {c : Code} {h : Mem} {H : Heap} {locs : List Loc} {as : List Value} (C : xCx G F p s m args meth c) (hP : va_P G.2.1 vwCl (xwl G h) H) (hS : va_S (xA G) s.heap H locs) : ∀ U : State, U.heap = H → s.WarmedH U.vm → xPx G as h as.toArray U := by
  intro U hU hW
  obtain ⟨-, -, -, -, -, -, hN, -, hK, hI, hSt⟩ := C
  exact ⟨rfl, by rw [hU]; exact hP, va_K.moved hW.alike hK, hN.warm hW, hSt.warm hW (by rw [hU]; exact hS.2.1), hI⟩
theorem xgo {α β : Type} {G : xG} {d : Nat} {F : xF} {cv : α → Option Value} {cvy : β → Option Value} {pc : Nat} {ls : List (Nat × Value)} {st rest : List Value} {r : α × Mem} {u : β × Mem} {p : Program} {l : Launch} {e : Env} {s : State} {m : MethodId} {args : Array Value} {below : List Frame} {meth : Method} {c : Code} {H : Heap} {locs : List Loc} {lsA : Array Slot} {a : Array Value} {kk : β → Mem → Option (α × Mem)}
    (R : va_Run p l e (xrm d) s m args below meth c H locs 0 0 0 0 (F0 m pc lsA st) rest (xQx G cvy u a) (xA G)) (hr : kk u.1 u.2 = some r) (C : xCx G F p s m args meth c) (hS : va_S (xA G) s.heap H locs) (hv : lv_has lsA F.2.2.1 ls) (K : ∀ v h1, Rn G d F cv (pc + 3) ls ((cvy v).toList ++ rest) h1 (kk v h1)) :
    W p l e (xrm d) s m args below meth c H locs 0 0 (MQ below (xQx G cv r) args s 0 0 (xA G)) (F0 m pc lsA st) := by
  intro T hT X
  obtain ⟨v, st₀, t, T', L, h0, X', hL, e1, e2, ⟨hq1, hq2, hz, hk⟩, go⟩ := R T hT X
  cases hq1
  rw [h0] at hz hk
  have hS' : va_S (xA G) s.heap T'.heap (locs ++ L) := by
    refine ⟨Nat.le_trans hS.1 (by rw [e1]; exact hz), fun q h1 h2 => ?_, fun q hq => ?_⟩
    · rw [e1, hk q (Nat.lt_of_lt_of_le h1 hS.1) h2]
      exact hS.2.1 q h1 h2
    · rcases List.mem_append.mp hq with z | z
      · exact hS.2.2 q z
      · exact hL q z
  obtain ⟨t2, a1, b1⟩ := K u.1 u.2 r hr p l e s m args below meth c T'.heap (locs ++ L) lsA C (by rw [e1]; exact hq2) hS' hv T' rfl X'
  exact ⟨t2, go t2 a1, b1⟩
theorem r_callV {α β : Type} {G : xG} {d d' : Nat} {F Fy : xF} {cv : α → Option Value} {cvy : β → Option Value} {pc idx n k ci N : Nat} {T : u_T} {y : MethodName} {ls : List (Nat × Value)} {st rest As : List Value} {h : Mem} {oy : Option (β × Mem)} {kk : β → Mem → Option (α × Mem)}
    (hd : decode F.2.1 pc = .ok (.invokevirtual idx, 3)) (hm : xMI y Fy n) (hl : xLk F.1 idx y) (hc : vwCl[ci]? = some (y.cls, T, N)) (hci : ci < 8) (ht : xTy k ci) (S : Sm G d' y Fy cvy (.ref (G.1 k) :: As) h oy) (hdd : d' + 1 ≤ d) (hn : As.length = n) (hst : st = As.reverse ++ .ref (G.1 k) :: rest) (hW : (rest.map fun v => v.category).sum ≤ 8)
    (K : ∀ v h1, Rn G d F cv (pc + 3) ls ((cvy v).toList ++ rest) h1 (kk v h1)) : Rn G d F cv pc ls st h (b2 oy kk) := by
  intro r hr p l e s m args below meth c H locs lsA C hP hS hv
  cases oy with
  | none => cases hr
  | some u =>
    have hM := S u rfl l
    obtain ⟨⟨w1, w2, w3, w4⟩, hds, h21⟩ := hm
    obtain ⟨hx, hcb, -, hml, hown, hts, hN, -, hK, hI, -⟩ := id C
    have hG : GoodIn xgt (Cond.code y Fy.2.1 Fy.2.2.1 Fy.2.2.2 :: xgt) := fun w hw => (List.mem_cons.mp hw).elim (fun q => by rw [q]; exact xgt_good _ w1) (fun q => xgt_good w q)
    have hR : (xrm d').frames + 1 ≤ (xrm d).frames ∧ 8 + (Fy.2.2.1 + 11) + (xrm d').locals ≤ (xrm d).locals := ⟨hdd, by show _ + 40 * d' ≤ 40 * d; omega⟩
    have he : (xwl G h)[k]? = some (G.1 k, .inr (ci, xfl G.1 h k (xfs ci) 0)) := by rw [xwl_get G h ht.1, xE_obj ht hci]
    have hpre : PreV s H y.cls (G.1 k) (xPx G (.ref (G.1 k) :: As) h) As := ⟨xPx_blind, va_recv hK hP hc he, xPx_of C hP hS⟩
    subst hst
    rcases hl with hl | ⟨host, hl⟩
    · exact xgo (va_runV (As := As) (rest := rest) ⟨hx, hcb, hml, hown, hts⟩ hM ⟨callB_of n hts hG rfl rfl rfl (hts _ w4) (hts _ hl) hds hR, hts _ w2, hts _ w3⟩ hpre rfl hn hv.1 rfl (lv_room hW) hd ⟨Nat.le_refl 0, Nat.le_refl 0⟩) hr C hS hv K
    · exact xgo (va_runVN (As := As) (rest := rest) ⟨hx, hcb, hml, hown, hts⟩ hM ⟨va_cnB n hts hG rfl rfl rfl (hN _ hl) (hts _ w4) hds hR, hts _ w2, hts _ w3⟩ hpre rfl hn hv.1 rfl (lv_room hW) hd ⟨Nat.le_refl 0, Nat.le_refl 0⟩) hr C hS hv K
theorem r_callS {α β : Type} {G : xG} {d d' : Nat} {F Fy : xF} {cv : α → Option Value} {cvy : β → Option Value} {pc idx n : Nat} {y : MethodName} {ls : List (Nat × Value)} {st rest As : List Value} {h : Mem} {oy : Option (β × Mem)} {kk : β → Mem → Option (α × Mem)}
    (hd : decode F.2.1 pc = .ok (.invokestatic idx, 3)) (hm : xMS y Fy n) (hl : xLk F.1 idx y) (S : Sm G d' y Fy cvy As h oy) (hdd : d' + 1 ≤ d) (hn : As.length = n) (hst : st = As.reverse ++ rest) (hW : (rest.map fun v => v.category).sum ≤ 8)
    (K : ∀ v h1, Rn G d F cv (pc + 3) ls ((cvy v).toList ++ rest) h1 (kk v h1)) : Rn G d F cv pc ls st h (b2 oy kk) := by
  intro r hr p l e s m args below meth c H locs lsA C hP hS hv
  cases oy with
  | none => cases hr
  | some u =>
    have hM := S u rfl l
    obtain ⟨⟨w1, w2, w4⟩, hds, h21⟩ := hm
    obtain ⟨hx, hcb, -, hml, hown, hts, hN, -, hK, hI, -⟩ := id C
    have hG : GoodIn xgt (Cond.code y Fy.2.1 Fy.2.2.1 Fy.2.2.2 :: xgt) := fun w hw => (List.mem_cons.mp hw).elim (fun q => by rw [q]; exact xgt_good _ w1) (fun q => xgt_good w q)
    have hR : (xrm d').frames + 1 ≤ (xrm d).frames ∧ 8 + (Fy.2.2.1 + 11) + (xrm d').locals ≤ (xrm d).locals := ⟨hdd, by show _ + 40 * d' ≤ 40 * d; omega⟩
    have hpre : PreS s H (xPx G As h) As := ⟨xPx_blind, xPx_of C hP hS⟩
    subst hst
    rcases hl with hl | ⟨host, hl⟩
    · exact xgo (va_runS (As := As) (rest := rest) ⟨hx, hcb, hml, hown, hts⟩ hM ⟨callB_of n hts hG rfl rfl rfl (hts _ w4) (hts _ hl) hds hR, hts _ w2⟩ hpre rfl hn hv.1 rfl (lv_room hW) hd ⟨Nat.le_refl 0, Nat.le_refl 0⟩) hr C hS hv K
    · exact xgo (va_runSN (As := As) (rest := rest) ⟨hx, hcb, hml, hown, hts⟩ hM ⟨va_cnB n hts hG rfl rfl rfl (hN _ hl) (hts _ w4) hds hR, hts _ w2, trivial⟩ hpre rfl hn hv.1 rfl (lv_room hW) hd ⟨Nat.le_refl 0, Nat.le_refl 0⟩) hr C hS hv K
