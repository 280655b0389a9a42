/-! constructors: a store of a reference, a constructor's call -/
def xMC (y : MethodName) (F : xF) (n : Nat) : Prop := (Cond.code y F.2.1 F.2.2.1 F.2.2.2 ∈ xgt ∧ Cond.instanceMethod y ∈ xgt ∧ Cond.initialized y.cls ∈ xgt) ∧ (y.cls ≠ "java/lang/invoke/MethodHandle" ∧ y.cls ≠ "java/lang/invoke/VarHandle" ∧ (parseMethodDescriptor y.desc).map (fun d => d.parameters.length) = some n) ∧ F.2.2.1 ≤ 21 ∧ y.name = "<init>" ∧ F.2.2.2 = none
section XN
variable {G : xG} {d mc ms n1 ce sl pc n : Nat} {F : xF} {E E1 : Nat → va_E} {ls : List (Nat × Value)} {st : List Value}
theorem k_ast {a k t0 ci N : Nat} {r : vw_C} {vs : List Value} {f : Nat → Option Nat} {i : Int32} (hd : decode F.2.1 pc = .ok (.aastore, 1)) (ha : a < n) (hea : E a = .inl (G.2.2.1 t0, N, .inr (.inr (.inr (.inr f))))) (ht : (xtys G)[t0]? = some (G.2.2.1 t0, .object r.1)) (hk : k < n) (hek : E k = .inr (ci, vs)) (hc : vwCl[ci]? = some r) (hin : vp_in i N) (K : Rk G d mc ms F n1 E1 ce sl (pc + 1) ls st n (fe E a (.inl (G.2.2.1 t0, N, .inr (.inr (.inr (.inr (va_up f i.toNatClampNeg (some (G.1 k)))))))))) : Rk G d mc ms F n1 E1 ce sl pc ls (.ref (G.1 k) :: .int i :: .ref (G.1 a) :: st) n E := by
  intro p l e s m args below meth c H locs lsA C hP hS hv
  obtain ⟨hx, hcb, -, -, hown, hts, -, -, hK, -, hO, hz, -⟩ := id C
  have hlt : i.toNatClampNeg < N := Nat.not_le.mp fun q => hin (Or.inr q)
  have h0 : ¬ i < 0 := fun q => hin (Or.inl q)
  have hat := hP.2 k hk
  rw [hek] at hat
  obtain ⟨r', hr', cellV, g1, g2, g3, -⟩ := hat
  have haa := hP.2 a ha
  rw [hea] at haa
  have haa' : H[G.1 a]? = some (vp_cell (G.2.2.1 t0) (N, .inr (.inr (.inr (.inr f))))) := by rw [hz a]; exact haa
  have g1' : H[G.1 k]? = some cellV := by rw [hz k]; exact g1
  have hcls := (hK.1 ci r hc).2
  obtain ⟨kA, comp, k1, k2, k3, -⟩ := (hK.2 t0 _ ht).2
  have hcomp : comp = G.2.1.1 ci := Option.some.inj (k3.symm.trans hcls.1)
  subst hcomp
  obtain ⟨kC, hkC, -⟩ := hcls.2
  refine W.aast hx hcb haa' (fun q h => by cases h) (fun h => by cases h) k1 k2 rfl hkC ⟨h0, by show _ < (arrV _ _ _).slots.size; rw [arrV_size]; exact hlt⟩ g1' (fun q h => by rw [g3] at h; cases h) (by rw [g2]; exact hkC) (by rw [g2]; exact va_assign hcls) rfl rfl hd fun H1 e1 z oq => ?_
  have oq' := oq
  rw [hz a] at oq'
  refine K p l e s m args below meth c H1 _ lsA C (hP.put z oq' ?_) (hS.put z oq (by show G.1 0 ≤ G.1 a; rw [hz a]; omega)) hv
  show H1[G.1 0 + a]? = some (vp_cell _ _)
  rw [← hz a, e1]
  rw [vp_cell_q, vp_cell_q, arrV_store]
  congr 2
  funext q
  by_cases hq : q = i.toNatClampNeg
  · subst hq
    simp [updV, va_up, va_rf]
  · simp [updV, va_up, hq]
theorem k_call {d' mc' ms' idx k n' np : Nat} {y : MethodName} {Fy : xF} {E' : Nat → va_E} {As rest : List Value} (hd : decode F.2.1 pc = .ok (.invokespecial idx, 3)) (hm : xMC y Fy np) (hl : xLk F.1 idx y) (S : Sk G d' mc' ms' y Fy (.ref (G.1 k) :: As) n E n' E') (h405 : n ≤ 405) (hdd : d' + 1 ≤ d) (hn : As.length = np) (hst : st = As.reverse ++ .ref (G.1 k) :: rest) (hW : (rest.map fun v => v.category).sum ≤ 8) (hce : ce + mc' ≤ mc) (hsl : sl + ms' ≤ ms)
    (K : Rk G d mc ms F n1 E1 (ce + mc') (sl + ms') (pc + 3) ls rest n' E') (h5 : n' < 405 := by omega) : Rk G d mc ms F n1 E1 ce sl pc ls st n E := by
  intro p l e s m args below meth c H locs lsA C hP hS hv
  have hM := S l
  obtain ⟨⟨w1, w2, w4⟩, hds, h21, hyi, hrn⟩ := hm
  obtain ⟨hx, hcb, -, hml, hown, hts, hN, -, hK, hSt, hO, hz, -, hlo, hhi⟩ := id C
  have hG : GoodIn xgt (Cond.code y Fy.2.1 Fy.2.2.1 none :: xgt) := fun w hw => (List.mem_cons.mp hw).elim (fun q => by rw [q, ← hrn]; exact xgt_good _ w1) (fun q => xgt_good w q)
  have hR : (xrk d' mc' ms').frames + 1 ≤ (xrk d mc ms).frames ∧ 8 + (Fy.2.2.1 + 11) + (xrk d' mc' ms').locals ≤ (xrk d mc ms).locals := ⟨hdd, by show _ + 40 * d' ≤ 40 * d; omega⟩
  have hpre : PreS s H (Pk G (.ref (G.1 k) :: As) n E) (.ref (G.1 k) :: As) := ⟨Pk_blind, fun U hU hW => ⟨rfl, by rw [hU]; exact hP, va_K.moved hW.alike hK, hN.warm hW, hSt.warm hW (fun a h1 h2 => by rw [hU]; exact hS.2.1 a h1 (fun z => h2 (xA_of hz z (by omega)))), ⟨va_AO.moved hW.alike hO.1, va_AO.moved hW.alike hO.2⟩, hz, h405⟩⟩
  subst hst
  rw [hrn] at hM
  have go : ∀ (R : va_Run p l e (xrk d mc ms) s m args below meth c H locs ce sl mc' ms' (F0 m pc lsA (As.reverse ++ .ref (G.1 k) :: rest)) rest (Qk G n' E' (Value.ref (G.1 k) :: As).toArray) (zA G)), W p l e (xrk d mc ms) s m args below meth c H locs ce sl (MQ below (Qk G n1 E1) args s mc ms (zA G)) (F0 m pc lsA (As.reverse ++ .ref (G.1 k) :: rest)) := by
    intro R T hT X
    obtain ⟨v, st₀, t, T', L, h0, X', hL, e1, e2, ⟨hq1, hq2, hz1, hk⟩, go⟩ := R T hT X
    cases hq1
    rw [h0] at hz1 hk
    have hS' : va_S (zA G) s.heap T'.heap (locs ++ L) := by
      refine ⟨Nat.le_trans hS.1 (by rw [e1]; exact hz1), fun q h1 h2 => ?_, fun q hq => ?_⟩
      · rw [e1, hk q (Nat.lt_of_lt_of_le h1 hS.1) h2]
        exact hS.2.1 q h1 h2
      · rcases List.mem_append.mp hq with z | z
        · exact hS.2.2 q z
        · exact hL q z
    obtain ⟨t2, a1, b1⟩ := K p l e s m args below meth c T'.heap (locs ++ L) lsA C (by rw [e1]; exact hq2.p h5) hS' hv T' rfl X'
    exact ⟨t2, go t2 a1, b1⟩
  rcases hl with hl | ⟨host, hl⟩
  · exact go (va_runI (As := As) (rest := rest) ⟨hx, hcb, hml, hown, hts⟩ hM ⟨callB_of np hts hG rfl rfl rfl (hts _ w4) (hts _ hl) hds hR, hyi, hts _ w2⟩ hpre rfl hn hv.1 rfl (lv_room hW) hd ⟨hce, hsl⟩)
  · exact go (va_runIN (As := As) (rest := rest) ⟨hx, hcb, hml, hown, hts⟩ hM ⟨va_cnB np hts hG rfl rfl rfl (hN _ hl) (hts _ w4) hds hR, hyi, hts _ w2⟩ hpre rfl hn hv.1 rfl (lv_room hW) hd ⟨hce, hsl⟩)
end XN
