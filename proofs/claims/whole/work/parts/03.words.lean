/-! the words that every method's contract takes -/
def xgt : List Cond := lw_tbl.filter goodWord
def xisNest : Cond → Bool
  | .fieldLinkNest .. => true
  | .methodLinkNest .. => true
  | _ => false
def xnest : List Cond := tables_1.filter xisNest
theorem xgt_of {w : Cond} (h : w ∈ tables_1) (g : goodWord w = true) : w ∈ xgt := List.mem_filter.mpr ⟨List.mem_append_right _ h, g⟩
theorem xgt_sel {i : Nat} {q : MethodName × Nat} (h : lw_privs[i]? = some q) : Cond.selects q.1.cls q.1 q.1 ∈ xgt := List.mem_filter.mpr ⟨List.mem_append_left _ (List.mem_map.mpr ⟨q, List.mem_of_getElem? h, rfl⟩), rfl⟩
theorem xnest_of {w : Cond} (h : w ∈ tables_1) (g : xisNest w = true) : w ∈ xnest := List.mem_filter.mpr ⟨h, g⟩
theorem xgt_good : GoodIn xgt xgt := fun w h => ⟨h, good_of_word (List.mem_filter.mp h).2⟩
theorem xin_0 : ∀ w ∈ u_ws RX0 TX0 17, w ∈ xgt := by
  have q : ∀ k, k < 17 → u_lay RX0 TX0 k ∈ xgt := by
    intro k hk
    match k, hk with
    | 0, _ => exact xgt_of (w := u_lay RX0 TX0 0) (List.mem_append_left _ (List.mem_of_getElem? (i := 150) rfl)) rfl
    | 1, _ => exact xgt_of (w := u_lay RX0 TX0 1) (List.mem_append_left _ (List.mem_of_getElem? (i := 152) rfl)) rfl
    | 2, _ => exact xgt_of (w := u_lay RX0 TX0 2) (List.mem_append_left _ (List.mem_of_getElem? (i := 154) rfl)) rfl
    | 3, _ => exact xgt_of (w := u_lay RX0 TX0 3) (List.mem_append_left _ (List.mem_of_getElem? (i := 156) rfl)) rfl
    | 4, _ => exact xgt_of (w := u_lay RX0 TX0 4) (List.mem_append_left _ (List.mem_of_getElem? (i := 158) rfl)) rfl
    | 5, _ => exact xgt_of (w := u_lay RX0 TX0 5) (List.mem_append_left _ (List.mem_of_getElem? (i := 160) rfl)) rfl
    | 6, _ => exact xgt_of (w := u_lay RX0 TX0 6) (List.mem_append_left _ (List.mem_of_getElem? (i := 162) rfl)) rfl
    | 7, _ => exact xgt_of (w := u_lay RX0 TX0 7) (List.mem_append_left _ (List.mem_of_getElem? (i := 164) rfl)) rfl
    | 8, _ => exact xgt_of (w := u_lay RX0 TX0 8) (List.mem_append_left _ (List.mem_of_getElem? (i := 166) rfl)) rfl
    | 9, _ => exact xgt_of (w := u_lay RX0 TX0 9) (List.mem_append_left _ (List.mem_of_getElem? (i := 168) rfl)) rfl
    | 10, _ => exact xgt_of (w := u_lay RX0 TX0 10) (List.mem_append_left _ (List.mem_of_getElem? (i := 170) rfl)) rfl
    | 11, _ => exact xgt_of (w := u_lay RX0 TX0 11) (List.mem_append_left _ (List.mem_of_getElem? (i := 172) rfl)) rfl
    | 12, _ => exact xgt_of (w := u_lay RX0 TX0 12) (List.mem_append_left _ (List.mem_of_getElem? (i := 174) rfl)) rfl
    | 13, _ => exact xgt_of (w := u_lay RX0 TX0 13) (List.mem_append_left _ (List.mem_of_getElem? (i := 176) rfl)) rfl
    | 14, _ => exact xgt_of (w := u_lay RX0 TX0 14) (List.mem_append_left _ (List.mem_of_getElem? (i := 178) rfl)) rfl
    | 15, _ => exact xgt_of (w := u_lay RX0 TX0 15) (List.mem_append_left _ (List.mem_of_getElem? (i := 180) rfl)) rfl
    | 16, _ => exact xgt_of (w := u_lay RX0 TX0 16) (List.mem_append_left _ (List.mem_of_getElem? (i := 182) rfl)) rfl
    | k + 17, h => exact absurd h (by omega)
  intro w hw
  obtain ⟨k, hk, rfl⟩ := List.mem_map.mp hw
  exact q k (List.mem_range.mp hk)
theorem xin_1 : ∀ w ∈ u_ws RX2 TX2 9, w ∈ xgt := by
  have q : ∀ k, k < 9 → u_lay RX2 TX2 k ∈ xgt := by
    intro k hk
    match k, hk with
    | 0, _ => exact xgt_of (w := u_lay RX2 TX2 0) (List.mem_append_left _ (List.mem_of_getElem? (i := 220) rfl)) rfl
    | 1, _ => exact xgt_of (w := u_lay RX2 TX2 1) (List.mem_append_left _ (List.mem_of_getElem? (i := 222) rfl)) rfl
    | 2, _ => exact xgt_of (w := u_lay RX2 TX2 2) (List.mem_append_left _ (List.mem_of_getElem? (i := 224) rfl)) rfl
    | 3, _ => exact xgt_of (w := u_lay RX2 TX2 3) (List.mem_append_left _ (List.mem_of_getElem? (i := 226) rfl)) rfl
    | 4, _ => exact xgt_of (w := u_lay RX2 TX2 4) (List.mem_append_left _ (List.mem_of_getElem? (i := 228) rfl)) rfl
    | 5, _ => exact xgt_of (w := u_lay RX2 TX2 5) (List.mem_append_left _ (List.mem_of_getElem? (i := 230) rfl)) rfl
    | 6, _ => exact xgt_of (w := u_lay RX2 TX2 6) (List.mem_append_left _ (List.mem_of_getElem? (i := 232) rfl)) rfl
    | 7, _ => exact xgt_of (w := u_lay RX2 TX2 7) (List.mem_append_left _ (List.mem_of_getElem? (i := 234) rfl)) rfl
    | 8, _ => exact xgt_of (w := u_lay RX2 TX2 8) (List.mem_append_left _ (List.mem_of_getElem? (i := 236) rfl)) rfl
    | k + 9, h => exact absurd h (by omega)
  intro w hw
  obtain ⟨k, hk, rfl⟩ := List.mem_map.mp hw
  exact q k (List.mem_range.mp hk)
theorem xin_2 : ∀ w ∈ u_ws RX3 TX3 4, w ∈ xgt := by
  have q : ∀ k, k < 4 → u_lay RX3 TX3 k ∈ xgt := by
    intro k hk
    match k, hk with
    | 0, _ => exact xgt_of (w := u_lay RX3 TX3 0) (List.mem_append_left _ (List.mem_of_getElem? (i := 69) rfl)) rfl
    | 1, _ => exact xgt_of (w := u_lay RX3 TX3 1) (List.mem_append_left _ (List.mem_of_getElem? (i := 71) rfl)) rfl
    | 2, _ => exact xgt_of (w := u_lay RX3 TX3 2) (List.mem_append_left _ (List.mem_of_getElem? (i := 73) rfl)) rfl
    | 3, _ => exact xgt_of (w := u_lay RX3 TX3 3) (List.mem_append_left _ (List.mem_of_getElem? (i := 75) rfl)) rfl
    | k + 4, h => exact absurd h (by omega)
  intro w hw
  obtain ⟨k, hk, rfl⟩ := List.mem_map.mp hw
  exact q k (List.mem_range.mp hk)
theorem xin_3 : ∀ w ∈ u_ws RX4 TX4 2, w ∈ xgt := by
  have q : ∀ k, k < 2 → u_lay RX4 TX4 k ∈ xgt := by
    intro k hk
    match k, hk with
    | 0, _ => exact xgt_of (w := u_lay RX4 TX4 0) (List.mem_append_left _ (List.mem_of_getElem? (i := 39) rfl)) rfl
    | 1, _ => exact xgt_of (w := u_lay RX4 TX4 1) (List.mem_append_left _ (List.mem_of_getElem? (i := 41) rfl)) rfl
    | k + 2, h => exact absurd h (by omega)
  intro w hw
  obtain ⟨k, hk, rfl⟩ := List.mem_map.mp hw
  exact q k (List.mem_range.mp hk)
theorem xin_4 : ∀ w ∈ u_ws RX5 TX5 7, w ∈ xgt := by
  have q : ∀ k, k < 7 → u_lay RX5 TX5 k ∈ xgt := by
    intro k hk
    match k, hk with
    | 0, _ => exact xgt_of (w := u_lay RX5 TX5 0) (List.mem_append_left _ (List.mem_of_getElem? (i := 102) rfl)) rfl
    | 1, _ => exact xgt_of (w := u_lay RX5 TX5 1) (List.mem_append_left _ (List.mem_of_getElem? (i := 104) rfl)) rfl
    | 2, _ => exact xgt_of (w := u_lay RX5 TX5 2) (List.mem_append_left _ (List.mem_of_getElem? (i := 106) rfl)) rfl
    | 3, _ => exact xgt_of (w := u_lay RX5 TX5 3) (List.mem_append_left _ (List.mem_of_getElem? (i := 108) rfl)) rfl
    | 4, _ => exact xgt_of (w := u_lay RX5 TX5 4) (List.mem_append_left _ (List.mem_of_getElem? (i := 110) rfl)) rfl
    | 5, _ => exact xgt_of (w := u_lay RX5 TX5 5) (List.mem_append_left _ (List.mem_of_getElem? (i := 112) rfl)) rfl
    | 6, _ => exact xgt_of (w := u_lay RX5 TX5 6) (List.mem_append_left _ (List.mem_of_getElem? (i := 114) rfl)) rfl
    | k + 7, h => exact absurd h (by omega)
  intro w hw
  obtain ⟨k, hk, rfl⟩ := List.mem_map.mp hw
  exact q k (List.mem_range.mp hk)
theorem xin_5 : ∀ w ∈ u_ws RX6 TX6 5, w ∈ xgt := by
  have q : ∀ k, k < 5 → u_lay RX6 TX6 k ∈ xgt := by
    intro k hk
    match k, hk with
    | 0, _ => exact xgt_of (w := u_lay RX6 TX6 0) (List.mem_append_left _ (List.mem_of_getElem? (i := 197) rfl)) rfl
    | 1, _ => exact xgt_of (w := u_lay RX6 TX6 1) (List.mem_append_left _ (List.mem_of_getElem? (i := 199) rfl)) rfl
    | 2, _ => exact xgt_of (w := u_lay RX6 TX6 2) (List.mem_append_left _ (List.mem_of_getElem? (i := 201) rfl)) rfl
    | 3, _ => exact xgt_of (w := u_lay RX6 TX6 3) (List.mem_append_left _ (List.mem_of_getElem? (i := 203) rfl)) rfl
    | 4, _ => exact xgt_of (w := u_lay RX6 TX6 4) (List.mem_append_left _ (List.mem_of_getElem? (i := 205) rfl)) rfl
    | k + 5, h => exact absurd h (by omega)
  intro w hw
  obtain ⟨k, hk, rfl⟩ := List.mem_map.mp hw
  exact q k (List.mem_range.mp hk)
theorem xin_6 : ∀ w ∈ u_ws RX7 TX7 7, w ∈ xgt := by
  have q : ∀ k, k < 7 → u_lay RX7 TX7 k ∈ xgt := by
    intro k hk
    match k, hk with
    | 0, _ => exact xgt_of (w := u_lay RX7 TX7 0) (List.mem_append_right _ (List.mem_append_left _ (List.mem_of_getElem? (i := 9) rfl))) rfl
    | 1, _ => exact xgt_of (w := u_lay RX7 TX7 1) (List.mem_append_right _ (List.mem_append_left _ (List.mem_of_getElem? (i := 11) rfl))) rfl
    | 2, _ => exact xgt_of (w := u_lay RX7 TX7 2) (List.mem_append_right _ (List.mem_append_left _ (List.mem_of_getElem? (i := 13) rfl))) rfl
    | 3, _ => exact xgt_of (w := u_lay RX7 TX7 3) (List.mem_append_right _ (List.mem_append_left _ (List.mem_of_getElem? (i := 15) rfl))) rfl
    | 4, _ => exact xgt_of (w := u_lay RX7 TX7 4) (List.mem_append_right _ (List.mem_append_left _ (List.mem_of_getElem? (i := 17) rfl))) rfl
    | 5, _ => exact xgt_of (w := u_lay RX7 TX7 5) (List.mem_append_right _ (List.mem_append_left _ (List.mem_of_getElem? (i := 19) rfl))) rfl
    | 6, _ => exact xgt_of (w := u_lay RX7 TX7 6) (List.mem_append_right _ (List.mem_append_left _ (List.mem_of_getElem? (i := 21) rfl))) rfl
    | k + 7, h => exact absurd h (by omega)
  intro w hw
  obtain ⟨k, hk, rfl⟩ := List.mem_map.mp hw
  exact q k (List.mem_range.mp hk)
theorem xin_7 : ∀ w ∈ u_ws RX8 TX8 23, w ∈ xgt := by
  have q : ∀ k, k < 23 → u_lay RX8 TX8 k ∈ xgt := by
    intro k hk
    match k, hk with
    | 0, _ => exact xgt_of (w := u_lay RX8 TX8 0) (List.mem_append_right _ (List.mem_append_right _ (List.mem_append_right _ (List.mem_append_left _ (List.mem_of_getElem? (i := 138) rfl))))) rfl
    | 1, _ => exact xgt_of (w := u_lay RX8 TX8 1) (List.mem_append_right _ (List.mem_append_right _ (List.mem_append_right _ (List.mem_append_left _ (List.mem_of_getElem? (i := 140) rfl))))) rfl
    | 2, _ => exact xgt_of (w := u_lay RX8 TX8 2) (List.mem_append_right _ (List.mem_append_right _ (List.mem_append_right _ (List.mem_append_left _ (List.mem_of_getElem? (i := 142) rfl))))) rfl
    | 3, _ => exact xgt_of (w := u_lay RX8 TX8 3) (List.mem_append_right _ (List.mem_append_right _ (List.mem_append_right _ (List.mem_append_left _ (List.mem_of_getElem? (i := 144) rfl))))) rfl
    | 4, _ => exact xgt_of (w := u_lay RX8 TX8 4) (List.mem_append_right _ (List.mem_append_right _ (List.mem_append_right _ (List.mem_append_left _ (List.mem_of_getElem? (i := 146) rfl))))) rfl
    | 5, _ => exact xgt_of (w := u_lay RX8 TX8 5) (List.mem_append_right _ (List.mem_append_right _ (List.mem_append_right _ (List.mem_append_left _ (List.mem_of_getElem? (i := 148) rfl))))) rfl
    | 6, _ => exact xgt_of (w := u_lay RX8 TX8 6) (List.mem_append_right _ (List.mem_append_right _ (List.mem_append_right _ (List.mem_append_left _ (List.mem_of_getElem? (i := 150) rfl))))) rfl
    | 7, _ => exact xgt_of (w := u_lay RX8 TX8 7) (List.mem_append_right _ (List.mem_append_right _ (List.mem_append_right _ (List.mem_append_left _ (List.mem_of_getElem? (i := 152) rfl))))) rfl
    | 8, _ => exact xgt_of (w := u_lay RX8 TX8 8) (List.mem_append_right _ (List.mem_append_right _ (List.mem_append_right _ (List.mem_append_left _ (List.mem_of_getElem? (i := 154) rfl))))) rfl
    | 9, _ => exact xgt_of (w := u_lay RX8 TX8 9) (List.mem_append_right _ (List.mem_append_right _ (List.mem_append_right _ (List.mem_append_left _ (List.mem_of_getElem? (i := 156) rfl))))) rfl
    | 10, _ => exact xgt_of (w := u_lay RX8 TX8 10) (List.mem_append_right _ (List.mem_append_right _ (List.mem_append_right _ (List.mem_append_left _ (List.mem_of_getElem? (i := 158) rfl))))) rfl
    | 11, _ => exact xgt_of (w := u_lay RX8 TX8 11) (List.mem_append_right _ (List.mem_append_right _ (List.mem_append_right _ (List.mem_append_left _ (List.mem_of_getElem? (i := 160) rfl))))) rfl
    | 12, _ => exact xgt_of (w := u_lay RX8 TX8 12) (List.mem_append_right _ (List.mem_append_right _ (List.mem_append_right _ (List.mem_append_left _ (List.mem_of_getElem? (i := 162) rfl))))) rfl
    | 13, _ => exact xgt_of (w := u_lay RX8 TX8 13) (List.mem_append_right _ (List.mem_append_right _ (List.mem_append_right _ (List.mem_append_left _ (List.mem_of_getElem? (i := 164) rfl))))) rfl
    | 14, _ => exact xgt_of (w := u_lay RX8 TX8 14) (List.mem_append_right _ (List.mem_append_right _ (List.mem_append_right _ (List.mem_append_left _ (List.mem_of_getElem? (i := 166) rfl))))) rfl
    | 15, _ => exact xgt_of (w := u_lay RX8 TX8 15) (List.mem_append_right _ (List.mem_append_right _ (List.mem_append_right _ (List.mem_append_left _ (List.mem_of_getElem? (i := 168) rfl))))) rfl
    | 16, _ => exact xgt_of (w := u_lay RX8 TX8 16) (List.mem_append_right _ (List.mem_append_right _ (List.mem_append_right _ (List.mem_append_left _ (List.mem_of_getElem? (i := 170) rfl))))) rfl
    | 17, _ => exact xgt_of (w := u_lay RX8 TX8 17) (List.mem_append_right _ (List.mem_append_right _ (List.mem_append_right _ (List.mem_append_left _ (List.mem_of_getElem? (i := 172) rfl))))) rfl
    | 18, _ => exact xgt_of (w := u_lay RX8 TX8 18) (List.mem_append_right _ (List.mem_append_right _ (List.mem_append_right _ (List.mem_append_left _ (List.mem_of_getElem? (i := 174) rfl))))) rfl
    | 19, _ => exact xgt_of (w := u_lay RX8 TX8 19) (List.mem_append_right _ (List.mem_append_right _ (List.mem_append_right _ (List.mem_append_left _ (List.mem_of_getElem? (i := 176) rfl))))) rfl
    | 20, _ => exact xgt_of (w := u_lay RX8 TX8 20) (List.mem_append_right _ (List.mem_append_right _ (List.mem_append_right _ (List.mem_append_left _ (List.mem_of_getElem? (i := 178) rfl))))) rfl
    | 21, _ => exact xgt_of (w := u_lay RX8 TX8 21) (List.mem_append_right _ (List.mem_append_right _ (List.mem_append_right _ (List.mem_append_left _ (List.mem_of_getElem? (i := 180) rfl))))) rfl
    | 22, _ => exact xgt_of (w := u_lay RX8 TX8 22) (List.mem_append_right _ (List.mem_append_right _ (List.mem_append_right _ (List.mem_append_left _ (List.mem_of_getElem? (i := 182) rfl))))) rfl
    | k + 23, h => exact absurd h (by omega)
  intro w hw
  obtain ⟨k, hk, rfl⟩ := List.mem_map.mp hw
  exact q k (List.mem_range.mp hk)
