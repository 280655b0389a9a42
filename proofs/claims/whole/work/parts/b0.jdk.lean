/-! the JDK: String, over the two constants -/
abbrev cJ_len : ByteArray := prog_12_method_54_code
def yJ_len : MethodName := ⟨"java/lang/String", "length", "()I"⟩
abbrev FJ_len : xF := ("java/lang/String", cJ_len, 1, some .int)
theorem mJ_len : xMI yJ_len FJ_len 0 := ⟨⟨xgt_of (w := Cond.code yJ_len FJ_len.2.1 FJ_len.2.2.1 FJ_len.2.2.2) (List.mem_append_right _ (List.mem_append_left _ (List.mem_of_getElem? (i := 111) rfl))) rfl, xgt_of (w := Cond.instanceMethod yJ_len) (List.mem_append_right _ (List.mem_append_left _ (List.mem_of_getElem? (i := 109) rfl))) rfl, xgt_of (w := Cond.selects "java/lang/String" yJ_len yJ_len) (List.mem_append_right _ (List.mem_append_left _ (List.mem_of_getElem? (i := 110) rfl))) rfl, xgt_of (w := Cond.initialized "java/lang/String") (List.mem_append_left _ (List.mem_of_getElem? (i := 10) rfl)) rfl⟩, ⟨by decide, by decide, by decide +kernel⟩, by decide⟩
abbrev cJ_cod : ByteArray := prog_12_method_152_code
def yJ_cod : MethodName := ⟨"java/lang/String", "coder", "()B"⟩
abbrev FJ_cod : xF := ("java/lang/String", cJ_cod, 1, some .byte)
theorem mJ_cod : xMI yJ_cod FJ_cod 0 := ⟨⟨xgt_of (w := Cond.code yJ_cod FJ_cod.2.1 FJ_cod.2.2.1 FJ_cod.2.2.2) (List.mem_append_right _ (List.mem_append_left _ (List.mem_of_getElem? (i := 115) rfl))) rfl, xgt_of (w := Cond.instanceMethod yJ_cod) (List.mem_append_right _ (List.mem_append_left _ (List.mem_of_getElem? (i := 113) rfl))) rfl, xgt_of (w := Cond.selects "java/lang/String" yJ_cod yJ_cod) (List.mem_append_right _ (List.mem_append_left _ (List.mem_of_getElem? (i := 114) rfl))) rfl, xgt_of (w := Cond.initialized "java/lang/String") (List.mem_append_left _ (List.mem_of_getElem? (i := 10) rfl)) rfl⟩, ⟨by decide, by decide, by decide +kernel⟩, by decide⟩
abbrev cJ_lat : ByteArray := prog_12_method_154_code
def yJ_lat : MethodName := ⟨"java/lang/String", "isLatin1", "()Z"⟩
abbrev FJ_lat : xF := ("java/lang/String", cJ_lat, 1, some .boolean)
theorem mJ_lat : xMI yJ_lat FJ_lat 0 := ⟨⟨xgt_of (w := Cond.code yJ_lat FJ_lat.2.1 FJ_lat.2.2.1 FJ_lat.2.2.2) (List.mem_append_right _ (List.mem_append_left _ (List.mem_of_getElem? (i := 125) rfl))) rfl, xgt_of (w := Cond.instanceMethod yJ_lat) (List.mem_append_right _ (List.mem_append_left _ (List.mem_of_getElem? (i := 123) rfl))) rfl, xgt_of (w := Cond.selects "java/lang/String" yJ_lat yJ_lat) (List.mem_append_right _ (List.mem_append_left _ (List.mem_of_getElem? (i := 124) rfl))) rfl, xgt_of (w := Cond.initialized "java/lang/String") (List.mem_append_left _ (List.mem_of_getElem? (i := 10) rfl)) rfl⟩, ⟨by decide, by decide, by decide +kernel⟩, by decide⟩
abbrev cJ_cat : ByteArray := prog_12_method_56_code
def yJ_cat : MethodName := ⟨"java/lang/String", "charAt", "(I)C"⟩
abbrev FJ_cat : xF := ("java/lang/String", cJ_cat, 2, some .char)
theorem mJ_cat : xMI yJ_cat FJ_cat 1 := ⟨⟨xgt_of (w := Cond.code yJ_cat FJ_cat.2.1 FJ_cat.2.2.1 FJ_cat.2.2.2) (List.mem_append_right _ (List.mem_append_left _ (List.mem_of_getElem? (i := 121) rfl))) rfl, xgt_of (w := Cond.instanceMethod yJ_cat) (List.mem_append_right _ (List.mem_append_left _ (List.mem_of_getElem? (i := 119) rfl))) rfl, xgt_of (w := Cond.selects "java/lang/String" yJ_cat yJ_cat) (List.mem_append_right _ (List.mem_append_left _ (List.mem_of_getElem? (i := 120) rfl))) rfl, xgt_of (w := Cond.initialized "java/lang/String") (List.mem_append_left _ (List.mem_of_getElem? (i := 10) rfl)) rfl⟩, ⟨by decide, by decide, by decide +kernel⟩, by decide⟩
abbrev cJ_lca : ByteArray := prog_13_method_2_code
def yJ_lca : MethodName := ⟨"java/lang/StringLatin1", "charAt", "([BI)C"⟩
abbrev FJ_lca : xF := ("java/lang/StringLatin1", cJ_lca, 2, some .char)
theorem mJ_lca : xMS yJ_lca FJ_lca 2 := ⟨⟨xgt_of (w := Cond.code yJ_lca FJ_lca.2.1 FJ_lca.2.2.1 FJ_lca.2.2.2) (List.mem_append_right _ (List.mem_append_left _ (List.mem_of_getElem? (i := 128) rfl))) rfl, xgt_of (w := Cond.static yJ_lca) (List.mem_append_right _ (List.mem_append_left _ (List.mem_of_getElem? (i := 127) rfl))) rfl, xgt_of (w := Cond.initialized "java/lang/StringLatin1") (List.mem_append_left _ (List.mem_of_getElem? (i := 11) rfl)) rfl⟩, ⟨by decide, by decide, by decide +kernel⟩, by decide⟩
abbrev cJ_chk : ByteArray := prog_12_method_155_code
def yJ_chk : MethodName := ⟨"java/lang/String", "checkIndex", "(II)V"⟩
abbrev FJ_chk : xF := ("java/lang/String", cJ_chk, 2, none)
theorem mJ_chk : xMS yJ_chk FJ_chk 2 := ⟨⟨xgt_of (w := Cond.code yJ_chk FJ_chk.2.1 FJ_chk.2.2.1 FJ_chk.2.2.2) (List.mem_append_right _ (List.mem_append_left _ (List.mem_of_getElem? (i := 131) rfl))) rfl, xgt_of (w := Cond.static yJ_chk) (List.mem_append_right _ (List.mem_append_left _ (List.mem_of_getElem? (i := 130) rfl))) rfl, xgt_of (w := Cond.initialized "java/lang/String") (List.mem_append_left _ (List.mem_of_getElem? (i := 10) rfl)) rfl⟩, ⟨by decide, by decide, by decide +kernel⟩, by decide⟩
abbrev cJ_pck : ByteArray := prog_16_method_11_code
def yJ_pck : MethodName := ⟨"jdk/internal/util/Preconditions", "checkIndex", "(IILjava/util/function/BiFunction;)I"⟩
abbrev FJ_pck : xF := ("jdk/internal/util/Preconditions", cJ_pck, 3, some .int)
theorem mJ_pck : xMS yJ_pck FJ_pck 3 := ⟨⟨xgt_of (w := Cond.code yJ_pck FJ_pck.2.1 FJ_pck.2.2.1 FJ_pck.2.2.2) (List.mem_append_right _ (List.mem_append_left _ (List.mem_of_getElem? (i := 136) rfl))) rfl, xgt_of (w := Cond.static yJ_pck) (List.mem_append_right _ (List.mem_append_left _ (List.mem_of_getElem? (i := 135) rfl))) rfl, xgt_of (w := Cond.initialized "jdk/internal/util/Preconditions") (List.mem_append_left _ (List.mem_of_getElem? (i := 12) rfl)) rfl⟩, ⟨by decide, by decide, by decide +kernel⟩, by decide⟩
theorem lkJ_139_len : Cond.methodLink "WildLevels$Reader" 139 yJ_len ∈ xgt := xgt_of (w := Cond.methodLink "WildLevels$Reader" 139 yJ_len) (List.mem_append_right _ (List.mem_append_left _ (List.mem_of_getElem? (i := 108) rfl))) rfl
theorem lkJ_144_cat : Cond.methodLink "WildLevels$Reader" 144 yJ_cat ∈ xgt := xgt_of (w := Cond.methodLink "WildLevels$Reader" 144 yJ_cat) (List.mem_append_right _ (List.mem_append_left _ (List.mem_of_getElem? (i := 118) rfl))) rfl
theorem lkJ_335_cod : Cond.methodLink "java/lang/String" 335 yJ_cod ∈ xgt := xgt_of (w := Cond.methodLink "java/lang/String" 335 yJ_cod) (List.mem_append_right _ (List.mem_append_left _ (List.mem_of_getElem? (i := 112) rfl))) rfl
theorem lkJ_492_lat : Cond.methodLink "java/lang/String" 492 yJ_lat ∈ xgt := xgt_of (w := Cond.methodLink "java/lang/String" 492 yJ_lat) (List.mem_append_right _ (List.mem_append_left _ (List.mem_of_getElem? (i := 122) rfl))) rfl
theorem lkJ_495_lca : Cond.methodLink "java/lang/String" 495 yJ_lca ∈ xgt := xgt_of (w := Cond.methodLink "java/lang/String" 495 yJ_lca) (List.mem_append_right _ (List.mem_append_left _ (List.mem_of_getElem? (i := 126) rfl))) rfl
theorem lkJ_9_chk : Cond.methodLink "java/lang/StringLatin1" 9 yJ_chk ∈ xgt := xgt_of (w := Cond.methodLink "java/lang/StringLatin1" 9 yJ_chk) (List.mem_append_right _ (List.mem_append_left _ (List.mem_of_getElem? (i := 129) rfl))) rfl
theorem lkJ_1059_pck : Cond.methodLink "java/lang/String" 1059 yJ_pck ∈ xgt := xgt_of (w := Cond.methodLink "java/lang/String" 1059 yJ_pck) (List.mem_append_right _ (List.mem_append_left _ (List.mem_of_getElem? (i := 134) rfl))) rfl
theorem flJ_9 : Cond.fieldLink "java/lang/String" 9 "java/lang/String" "value" "[B" ∈ xgt := xgt_of (w := Cond.fieldLink "java/lang/String" 9 "java/lang/String" "value" "[B") (List.mem_append_right _ (List.mem_append_right _ (List.mem_append_right _ (List.mem_append_right _ (List.mem_append_right _ (List.mem_of_getElem? (i := 60) rfl)))))) rfl
theorem flJ_15 : Cond.fieldLink "java/lang/String" 15 "java/lang/String" "coder" "B" ∈ xgt := xgt_of (w := Cond.fieldLink "java/lang/String" 15 "java/lang/String" "coder" "B") (List.mem_append_right _ (List.mem_append_right _ (List.mem_append_right _ (List.mem_append_right _ (List.mem_append_right _ (List.mem_of_getElem? (i := 61) rfl)))))) rfl
theorem flJ_38 : Cond.fieldLink "java/lang/String" 38 "java/lang/String" "COMPACT_STRINGS" "Z" ∈ xgt := xgt_of (w := Cond.fieldLink "java/lang/String" 38 "java/lang/String" "COMPACT_STRINGS" "Z") (List.mem_append_right _ (List.mem_append_left _ (List.mem_of_getElem? (i := 116) rfl))) rfl
theorem flJ_1053 : Cond.fieldLink "java/lang/String" 1053 "jdk/internal/util/Preconditions" "SIOOBE_FORMATTER" "Ljava/util/function/BiFunction;" ∈ xgt := xgt_of (w := Cond.fieldLink "java/lang/String" 1053 "jdk/internal/util/Preconditions" "SIOOBE_FORMATTER" "Ljava/util/function/BiFunction;") (List.mem_append_right _ (List.mem_append_left _ (List.mem_of_getElem? (i := 132) rfl))) rfl
theorem dJ_len_0 : decode cJ_len 0 = .ok (.aload_n 0, 1) := by decide +kernel
theorem dJ_len_1 : decode cJ_len 1 = .ok (.getfield 9, 3) := by decide +kernel
theorem dJ_len_4 : decode cJ_len 4 = .ok (.arraylength, 1) := by decide +kernel
theorem dJ_len_5 : decode cJ_len 5 = .ok (.aload_n 0, 1) := by decide +kernel
theorem dJ_len_6 : decode cJ_len 6 = .ok (.invokevirtual 335, 3) := by decide +kernel
theorem dJ_len_9 : decode cJ_len 9 = .ok (.ishr, 1) := by decide +kernel
theorem dJ_len_10 : decode cJ_len 10 = .ok (.ireturn, 1) := by decide +kernel
theorem dJ_cod_0 : decode cJ_cod 0 = .ok (.getstatic 38, 3) := by decide +kernel
theorem dJ_cod_3 : decode cJ_cod 3 = .ok (.ifCond .eq 10, 3) := by decide +kernel
theorem dJ_cod_6 : decode cJ_cod 6 = .ok (.aload_n 0, 1) := by decide +kernel
theorem dJ_cod_7 : decode cJ_cod 7 = .ok (.getfield 15, 3) := by decide +kernel
theorem dJ_cod_10 : decode cJ_cod 10 = .ok (.goto 4, 3) := by decide +kernel
theorem dJ_cod_14 : decode cJ_cod 14 = .ok (.ireturn, 1) := by decide +kernel
theorem dJ_lat_0 : decode cJ_lat 0 = .ok (.getstatic 38, 3) := by decide +kernel
theorem dJ_lat_3 : decode cJ_lat 3 = .ok (.ifCond .eq 14, 3) := by decide +kernel
theorem dJ_lat_6 : decode cJ_lat 6 = .ok (.aload_n 0, 1) := by decide +kernel
theorem dJ_lat_7 : decode cJ_lat 7 = .ok (.getfield 15, 3) := by decide +kernel
theorem dJ_lat_10 : decode cJ_lat 10 = .ok (.ifCond .ne 7, 3) := by decide +kernel
theorem dJ_lat_13 : decode cJ_lat 13 = .ok (.iconst 1, 1) := by decide +kernel
theorem dJ_lat_14 : decode cJ_lat 14 = .ok (.goto 4, 3) := by decide +kernel
theorem dJ_lat_18 : decode cJ_lat 18 = .ok (.ireturn, 1) := by decide +kernel
theorem dJ_cat_0 : decode cJ_cat 0 = .ok (.aload_n 0, 1) := by decide +kernel
theorem dJ_cat_1 : decode cJ_cat 1 = .ok (.invokevirtual 492, 3) := by decide +kernel
theorem dJ_cat_4 : decode cJ_cat 4 = .ok (.ifCond .eq 12, 3) := by decide +kernel
theorem dJ_cat_7 : decode cJ_cat 7 = .ok (.aload_n 0, 1) := by decide +kernel
theorem dJ_cat_8 : decode cJ_cat 8 = .ok (.getfield 9, 3) := by decide +kernel
theorem dJ_cat_11 : decode cJ_cat 11 = .ok (.iload_n 1, 1) := by decide +kernel
theorem dJ_cat_12 : decode cJ_cat 12 = .ok (.invokestatic 495, 3) := by decide +kernel
theorem dJ_cat_15 : decode cJ_cat 15 = .ok (.ireturn, 1) := by decide +kernel
theorem dJ_lca_0 : decode cJ_lca 0 = .ok (.iload_n 1, 1) := by decide +kernel
theorem dJ_lca_1 : decode cJ_lca 1 = .ok (.aload_n 0, 1) := by decide +kernel
theorem dJ_lca_2 : decode cJ_lca 2 = .ok (.arraylength, 1) := by decide +kernel
theorem dJ_lca_3 : decode cJ_lca 3 = .ok (.invokestatic 9, 3) := by decide +kernel
theorem dJ_lca_6 : decode cJ_lca 6 = .ok (.aload_n 0, 1) := by decide +kernel
theorem dJ_lca_7 : decode cJ_lca 7 = .ok (.iload_n 1, 1) := by decide +kernel
theorem dJ_lca_8 : decode cJ_lca 8 = .ok (.baload, 1) := by decide +kernel
theorem dJ_lca_9 : decode cJ_lca 9 = .ok (.sipush 255, 3) := by decide +kernel
theorem dJ_lca_12 : decode cJ_lca 12 = .ok (.iand, 1) := by decide +kernel
theorem dJ_lca_13 : decode cJ_lca 13 = .ok (.i2c, 1) := by decide +kernel
theorem dJ_lca_14 : decode cJ_lca 14 = .ok (.ireturn, 1) := by decide +kernel
theorem dJ_chk_0 : decode cJ_chk 0 = .ok (.iload_n 0, 1) := by decide +kernel
theorem dJ_chk_1 : decode cJ_chk 1 = .ok (.iload_n 1, 1) := by decide +kernel
theorem dJ_chk_2 : decode cJ_chk 2 = .ok (.getstatic 1053, 3) := by decide +kernel
theorem dJ_chk_5 : decode cJ_chk 5 = .ok (.invokestatic 1059, 3) := by decide +kernel
theorem dJ_chk_8 : decode cJ_chk 8 = .ok (.pop, 1) := by decide +kernel
theorem dJ_chk_9 : decode cJ_chk 9 = .ok (.return_, 1) := by decide +kernel
theorem dJ_pck_0 : decode cJ_pck 0 = .ok (.iload_n 0, 1) := by decide +kernel
theorem dJ_pck_1 : decode cJ_pck 1 = .ok (.ifCond .lt 8, 3) := by decide +kernel
theorem dJ_pck_4 : decode cJ_pck 4 = .ok (.iload_n 0, 1) := by decide +kernel
theorem dJ_pck_5 : decode cJ_pck 5 = .ok (.iload_n 1, 1) := by decide +kernel
theorem dJ_pck_6 : decode cJ_pck 6 = .ok (.if_icmp .lt 10, 3) := by decide +kernel
theorem dJ_pck_16 : decode cJ_pck 16 = .ok (.iload_n 0, 1) := by decide +kernel
theorem dJ_pck_17 : decode cJ_pck 17 = .ok (.ireturn, 1) := by decide +kernel
theorem xCx.str {G : xG} {F : xF} {p : Program} {s : State} {m : MethodId} {args : Array Value} {meth : Method} {c : Code} (C : xCx G F p s m args meth c) : xStr G s := C.2.2.2.2.2.2.2.2.2.2
section XJ
variable {α : Type} {G : xG} {d : Nat} {F : xF} {cv : α → Option Value} {pc : Nat} {ls : List (Nat × Value)} {st : List Value} {h : Mem} {o : Option (α × Mem)}
theorem r_jval {i idx : Nat} (hi : i < 2) (hd : decode F.2.1 pc = .ok (.getfield idx, 3)) (hl : Cond.fieldLink F.1 idx "java/lang/String" "value" "[B" ∈ xgt) (K : Rn G d F cv (pc + 3) ls (.ref (G.2.2.2.2 i) :: st) h o) : Rn G d F cv pc ls (.ref (G.2.2.2.1 i) :: st) h o :=
  fun r hr p l e s m args below meth c H locs lsA C hP hS hv => vk_getf C.1 C.2.1 (C.str.1.1 i hi).2.2.1 hS C.2.2.2.2.1 (C.2.2.2.2.2.1 _ hl) (fun _ q => q) hd (K r hr p l e s m args below meth c H locs lsA C hP hS hv)
theorem r_jcod {i idx : Nat} (hi : i < 2) (hd : decode F.2.1 pc = .ok (.getfield idx, 3)) (hl : Cond.fieldLink F.1 idx "java/lang/String" "coder" "B" ∈ xgt) (K : Rn G d F cv (pc + 3) ls (.int 0 :: st) h o) : Rn G d F cv pc ls (.ref (G.2.2.2.1 i) :: st) h o :=
  fun r hr p l e s m args below meth c H locs lsA C hP hS hv => vk_getf C.1 C.2.1 (C.str.1.1 i hi).2.1 hS C.2.2.2.2.1 (C.2.2.2.2.2.1 _ hl) (fun _ q => q) hd (K r hr p l e s m args below meth c H locs lsA C hP hS hv)
theorem r_jlen {i : Nat} (hi : i < 2) (hd : decode F.2.1 pc = .ok (.arraylength, 1)) (K : Rn G d F cv (pc + 1) ls (.int (Int32.ofNat (xsl.getD i 0)) :: st) h o) : Rn G d F cv pc ls (.ref (G.2.2.2.2 i) :: st) h o :=
  fun r hr p l e s m args below meth c H locs lsA C hP hS hv => va_tlen C.1 C.2.1 (C.str.1.1 i hi).2.2.2 hS rfl hd (K r hr p l e s m args below meth c H locs lsA C hP hS hv)
theorem r_jb {i : Nat} {k : Int32} (hi : i < 2) (hk : vp_in k (xsl.getD i 0)) (hd : decode F.2.1 pc = .ok (.baload, 1)) (K : Rn G d F cv (pc + 1) ls (.int ((xsb.getD i []).getD k.toNatClampNeg 0) :: st) h o) : Rn G d F cv pc ls (.int k :: .ref (G.2.2.2.2 i) :: st) h o :=
  fun r hr p l e s m args below meth c H locs lsA C hP hS hv => va_tb C.1 C.2.1 (C.str.1.1 i hi).2.2.2 hS hk rfl hd (K r hr p l e s m args below meth c H locs lsA C hP hS hv)
theorem r_jcs {idx : Nat} (hd : decode F.2.1 pc = .ok (.getstatic idx, 3)) (hl : Cond.fieldLink F.1 idx "java/lang/String" "COMPACT_STRINGS" "Z" ∈ xgt) (K : Rn G d F cv (pc + 3) ls (.int 1 :: st) h o) : Rn G d F cv pc ls st h o :=
  fun r hr p l e s m args below meth c H locs lsA C hP hS hv => va_gets C.1 C.2.1 C.str.2.2.2.1 hS C.2.2.2.2.1 (C.2.2.2.2.2.1 _ hl) (fun _ q => q) hd (K r hr p l e s m args below meth c H locs lsA C hP hS hv)
theorem r_jsf {idx : Nat} (hd : decode F.2.1 pc = .ok (.getstatic idx, 3)) (hl : Cond.fieldLink F.1 idx "jdk/internal/util/Preconditions" "SIOOBE_FORMATTER" "Ljava/util/function/BiFunction;" ∈ xgt) (K1 : Rn G d F cv (pc + 3) ls (.null :: st) h o) (K2 : ∀ t, Rn G d F cv (pc + 3) ls (.ref t :: st) h o) : Rn G d F cv pc ls st h o := by
  intro r hr p l e s m args below meth c H locs lsA C hP hS hv
  rcases C.str.2.2.2.2 with z | ⟨t, z⟩
  · exact va_gets C.1 C.2.1 z hS C.2.2.2.2.1 (C.2.2.2.2.2.1 _ hl) (fun _ q => q) hd (K1 r hr p l e s m args below meth c H locs lsA C hP hS hv)
  · exact va_gets C.1 C.2.1 z hS C.2.2.2.2.1 (C.2.2.2.2.2.1 _ hl) (fun _ q => q) hd (K2 t r hr p l e s m args below meth c H locs lsA C hP hS hv)
theorem r_i2c {x v : Int32} (hd : decode F.2.1 pc = .ok (.i2c, 1)) (hv : (x.toUInt32 % 65536).toInt32 = v) (K : Rn G d F cv (pc + 1) ls (.int v :: st) h o) : Rn G d F cv pc ls (.int x :: st) h o :=
  fun r hr p l e s m args below meth c H locs lsA C hP hS hw => lv_i2c C.1 C.2.1 hd hv (K r hr p l e s m args below meth c H locs lsA C hP hS hw)
theorem r_ldcS {i idx : Nat} {tx : String} (hd : decode F.2.1 pc = .ok (.ldc idx, 2)) (hz : ∀ s, xStr G s → vk_R F.1 idx tx (G.2.2.2.1 i) s) (K : Rn G d F cv (pc + 2) ls (.ref (G.2.2.2.1 i) :: st) h o) : Rn G d F cv pc ls st h o :=
  fun r hr p l e s m args below meth c H locs lsA C hP hS hv => va_ldcS C.1 C.2.1 C.2.2.2.2.1 (hz s C.str) hd (K r hr p l e s m args below meth c H locs lsA C hP hS hv)
theorem r_ldcS0 (hd : decode F.2.1 pc = .ok (.ldc 47, 2)) (hF : F.1 = "WildLevels$Reader") (K : Rn G d F cv (pc + 2) ls (.ref (G.2.2.2.1 0) :: st) h o) : Rn G d F cv pc ls st h o := r_ldcS (i := 0) (tx := "sub") hd (fun s z => by rw [hF]; exact z.2.1) K
theorem r_ldcS1 (hd : decode F.2.1 pc = .ok (.ldc 56, 2)) (hF : F.1 = "WildLevels$Reader") (K : Rn G d F cv (pc + 2) ls (.ref (G.2.2.2.1 1) :: st) h o) : Rn G d F cv pc ls st h o := r_ldcS (i := 1) (tx := "kept") hd (fun s z => by rw [hF]; exact z.2.2.1) K
end XJ
theorem r_nret {G : xG} {d : Nat} {F : xF} {pc : Nat} {ls : List (Nat × Value)} {h : Mem} {v : Int32} {ty : FieldType} (hd : decode F.2.1 pc = .ok (.ireturn, 1)) (hf : F.2.2.2 = some ty) (hn : narrow ty (.int v) = .int v) : Rn G d F xcI pc ls [.int v] h (some (v, h)) := by
  intro r hr p l e s m args below meth c H locs lsA C hP hS hv
  cases hr
  have hlocks := C.2.2.2.2.2.2.2.1
  exact W.zret C.1 C.2.1 (C.2.2.1.trans hf) hn (fun t ht _ => ⟨rfl, by rw [ht]; exact hP, hS.F ht⟩) hS.2.2 hd hlocks
theorem r_callVJ {α β : Type} {G : xG} {d d' : Nat} {F Fy : xF} {cv : α → Option Value} {cvy : β → Option Value} {pc idx n i : Nat} {y : MethodName} {ls : List (Nat × Value)} {st rest As : List Value} {h : Mem} {oy : Option (β × Mem)} {kk : β → Mem → Option (α × Mem)}
    (hd : decode F.2.1 pc = .ok (.invokevirtual idx, 3)) (hm : xMI y Fy n) (hl : Cond.methodLink F.1 idx y ∈ xgt) (hc : y.cls = "java/lang/String") (hi : i < 2) (S : Sm G d' y Fy cvy (.ref (G.2.2.2.1 i) :: As) h oy) (hdd : d' + 1 ≤ d) (hn : As.length = n) (hst : st = As.reverse ++ .ref (G.2.2.2.1 i) :: rest) (hW : (rest.map fun v => v.category).sum ≤ 8)
    (K : ∀ v h1, Rn G d F cv (pc + 3) ls ((cvy v).toList ++ rest) h1 (kk v h1)) : Rn G d F cv pc ls st h (b2 oy kk) := by
  intro r hr p l e s m args below meth c H locs lsA C hP hS hv
  cases oy with
  | none => cases hr
  | some u =>
    have hM := S u rfl l
    obtain ⟨⟨w1, w2, w3, w4⟩, hds, h21⟩ := hm
    obtain ⟨hx, hcb, -, hml, hown, hts, hN, -, hK, hI, hSt⟩ := id C
    have hG : GoodIn xgt (Cond.code y Fy.2.1 Fy.2.2.1 Fy.2.2.2 :: xgt) := fun w hw => (List.mem_cons.mp hw).elim (fun q => by rw [q]; exact xgt_good _ w1) (fun q => xgt_good w q)
    have hR : (xrm d').frames + 1 ≤ (xrm d).frames ∧ 8 + (Fy.2.2.1 + 11) + (xrm d').locals ≤ (xrm d).locals := ⟨hdd, by show _ + 40 * d' ≤ 40 * d; omega⟩
    have hpre : PreV s H y.cls (G.2.2.2.1 i) (xPx G (.ref (G.2.2.2.1 i) :: As) h) As := ⟨xPx_blind, by rw [hc]; exact vk_recv hSt.1 hi hS, xPx_of C hP hS⟩
    subst hst
    exact xgo (va_runV (As := As) (rest := rest) ⟨hx, hcb, hml, hown, hts⟩ hM ⟨callB_of n hts hG rfl rfl rfl (hts _ w4) (hts _ hl) hds hR, hts _ w2, hts _ w3⟩ hpre rfl hn hv.1 rfl (lv_room hW) hd ⟨Nat.le_refl 0, Nat.le_refl 0⟩) hr C hS hv K
theorem pn_S : plainName "java/lang/String" = true := by decide +kernel
theorem pn_L : plainName "java/lang/StringLatin1" = true := by decide +kernel
theorem pn_P : plainName "jdk/internal/util/Preconditions" = true := by decide +kernel
theorem cJ_coder {G : xG} (i : Nat) (hi : i < 2) (h : Mem) : Sm G 0 yJ_cod FJ_cod xcI [.ref (G.2.2.2.1 i)] h (some ((0 : Int32), h)) := by
  refine Sm.of pn_S rfl (Nat.le_of_ble_eq_true rfl) (ls := [(0, .ref (G.2.2.2.1 i))]) rfl ?_
  refine r_jcs dJ_cod_0 flJ_38 ?_
  have z : Rn G 0 FJ_cod xcI 3 [(0, .ref (G.2.2.2.1 i))] [.int 1] h (if (1 : Int32) = 0 then none else some ((0 : Int32), h)) := by
    refine r_if_eq (tgt := 13) dJ_cod_3 (by decide) Rn.none ?_
    refine r_aload_n (place := 0) dJ_cod_6 rfl rfl ?_
    refine r_jcod hi dJ_cod_7 flJ_15 ?_
    refine r_goto (tgt := 14) dJ_cod_10 (by decide) ?_
    exact r_nret dJ_cod_14 rfl (by decide +kernel)
  rw [if_neg (by decide)] at z
  exact z
theorem cJ_latin {G : xG} (i : Nat) (hi : i < 2) (h : Mem) : Sm G 0 yJ_lat FJ_lat xcI [.ref (G.2.2.2.1 i)] h (some ((1 : Int32), h)) := by
  refine Sm.of pn_S rfl (Nat.le_of_ble_eq_true rfl) (ls := [(0, .ref (G.2.2.2.1 i))]) rfl ?_
  refine r_jcs dJ_lat_0 flJ_38 ?_
  have z : Rn G 0 FJ_lat xcI 3 [(0, .ref (G.2.2.2.1 i))] [.int 1] h (if (1 : Int32) = 0 then none else (if (0 : Int32) = 0 then some ((1 : Int32), h) else none)) := by
    refine r_if_eq (tgt := 17) dJ_lat_3 (by decide) Rn.none ?_
    refine r_aload_n (place := 0) dJ_lat_6 rfl rfl ?_
    refine r_jcod hi dJ_lat_7 flJ_15 ?_
    refine r_if_ne (tgt := 17) dJ_lat_10 (by decide) Rn.none ?_
    refine r_iconst dJ_lat_13 xc_1 ?_
    refine r_goto (tgt := 18) dJ_lat_14 (by decide) ?_
    exact r_nret dJ_lat_18 rfl (by decide +kernel)
  rw [if_neg (by decide), if_pos rfl] at z
  exact z
theorem xsh0 : ∀ i, i < 2 → Int32.ofNat (xsl.getD i 0) >>> ((0 : Int32) &&& 31) = Int32.ofNat (xsl.getD i 0) := by decide +kernel
theorem cJ_length {G : xG} (i : Nat) (hi : i < 2) (h : Mem) : Sm G 1 yJ_len FJ_len xcI [.ref (G.2.2.2.1 i)] h (some (Int32.ofNat (xsl.getD i 0), h)) := by
  refine Sm.of pn_S rfl (Nat.le_of_ble_eq_true rfl) (ls := [(0, .ref (G.2.2.2.1 i))]) rfl ?_
  refine r_aload_n (place := 0) dJ_len_0 rfl rfl ?_
  refine r_jval hi dJ_len_1 flJ_9 ?_
  refine r_jlen hi dJ_len_4 ?_
  refine r_aload_n (place := 0) dJ_len_5 rfl rfl ?_
  have z : Rn G 1 FJ_len xcI 6 [(0, .ref (G.2.2.2.1 i))] [.ref (G.2.2.2.1 i), .int (Int32.ofNat (xsl.getD i 0))] h (b2 (some ((0 : Int32), h)) fun v h1 => some (Int32.ofNat (xsl.getD i 0) >>> (v &&& 31), h1)) := by
    refine r_callVJ (As := []) (rest := [.int (Int32.ofNat (xsl.getD i 0))]) dJ_len_6 mJ_cod lkJ_335_cod rfl hi (cJ_coder i hi h) (by decide) rfl rfl (Nat.le_of_ble_eq_true rfl) (fun v h1 => ?_)
    refine r_ishr dJ_len_9 ?_
    exact r_iret dJ_len_10 rfl
  rw [b2_some, xsh0 i hi] at z
  exact z
theorem sJ_pck {G : xG} {k n : Nat} (v : Value) (hv : v.category = 1) (hk : k < n) (hn : n < 2 ^ 31) (h : Mem) : Sm G 0 yJ_pck FJ_pck xcI [.int (nI k), .int (nI n), v] h (some (nI k, h)) := by
  have e1 : lg_sl [.int (nI k), .int (nI n), v] = [.val (.int (nI k)), .val (.int (nI n)), .val v] := by
    show [Slot.val (.int (nI k))] ++ ([Slot.val (.int (nI n))] ++ ((if v.category = 2 then [Slot.val v, .second] else [.val v]) ++ [])) = _
    rw [if_neg (by rw [hv]; decide)]
    rfl
  refine Sm.of pn_P rfl (by rw [e1]; exact Nat.le_of_ble_eq_true rfl) (ls := [(0, .int (nI k)), (1, .int (nI n)), (2, v)]) rfl ?_
  refine r_iload_n (place := 0) dJ_pck_0 rfl rfl ?_
  have z : Rn G 0 FJ_pck xcI 1 [(0, .int (nI k)), (1, .int (nI n)), (2, v)] [.int (nI k)] h (if nI k < 0 then none else (if nI k < nI n then some (nI k, h) else none)) := by
    refine r_if_lt (tgt := 9) dJ_pck_1 (by decide) Rn.none ?_
    refine r_iload_n (place := 0) dJ_pck_4 rfl rfl ?_
    refine r_iload_n (place := 1) dJ_pck_5 rfl rfl ?_
    refine r_ic_lt (tgt := 16) dJ_pck_6 (by decide) ?_ Rn.none
    refine r_iload_n (place := 0) dJ_pck_16 rfl rfl ?_
    exact r_iret dJ_pck_17 rfl
  rw [if_neg (by rw [li_0, nI_ltI (by omega) (by omega)]; omega), if_pos (by rw [nI_ltI (by omega) (by omega)]; exact hk)] at z
  exact z
theorem sJ_chk {G : xG} {k n : Nat} (hk : k < n) (hn : n < 2 ^ 31) (h : Mem) : Sm G 1 yJ_chk FJ_chk xcV [.int (nI k), .int (nI n)] h (some ((), h)) := by
  refine Sm.of pn_S rfl (Nat.le_of_ble_eq_true rfl) (ls := [(0, .int (nI k)), (1, .int (nI n))]) rfl ?_
  refine r_iload_n (place := 0) dJ_chk_0 rfl rfl ?_
  refine r_iload_n (place := 1) dJ_chk_1 rfl rfl ?_
  have go : ∀ v : Value, v.category = 1 → Rn G 1 FJ_chk xcV 5 [(0, .int (nI k)), (1, .int (nI n))] [v, .int (nI n), .int (nI k)] h (some ((), h)) := by
    intro v hv
    have z : Rn G 1 FJ_chk xcV 5 [(0, .int (nI k)), (1, .int (nI n))] [v, .int (nI n), .int (nI k)] h (b2 (some (nI k, h)) fun _ h1 => some ((), h1)) := by
      refine r_callSI (As := [.int (nI k), .int (nI n), v]) (rest := []) dJ_chk_5 mJ_pck (Or.inl lkJ_1059_pck) (sJ_pck v hv hk hn h) (by decide) rfl rfl (Nat.le_of_ble_eq_true rfl) (fun w h1 => ?_)
      refine r_pop dJ_chk_8 rfl ?_
      exact r_ret dJ_chk_9 rfl
    exact z
  exact r_jsf dJ_chk_2 flJ_1053 (go .null rfl) (fun t => go (.ref t) rfl)
def xby (i k : Nat) : Int32 := (xsb.getD i []).getD k 0
theorem xby_c : ∀ i, i < 2 → ∀ k, k < 4 → ((xby i k &&& 255).toUInt32 % 65536).toInt32 = xby i k ∧ narrow .char (.int (xby i k)) = .int (xby i k) := by decide +kernel
theorem xs255 : (Int16.ofInt 255).toInt32 = (255 : Int32) := by decide +kernel
theorem xsl_4 : ∀ i, i < 2 → xsl.getD i 0 ≤ 4 := by decide +kernel
theorem sJ_lca {G : xG} {i k : Nat} (hi : i < 2) (hk : k < xsl.getD i 0) (h : Mem) : Sm G 2 yJ_lca FJ_lca xcI [.ref (G.2.2.2.2 i), .int (nI k)] h (some (xby i k, h)) := by
  have l4 := xsl_4 i hi
  have bc := xby_c i hi k (by omega)
  refine Sm.of pn_L rfl (Nat.le_of_ble_eq_true rfl) (ls := [(0, .ref (G.2.2.2.2 i)), (1, .int (nI k))]) rfl ?_
  refine r_iload_n (place := 1) dJ_lca_0 rfl rfl ?_
  refine r_aload_n (place := 0) dJ_lca_1 rfl rfl ?_
  refine r_jlen hi dJ_lca_2 ?_
  have z : Rn G 2 FJ_lca xcI 3 [(0, .ref (G.2.2.2.2 i)), (1, .int (nI k))] [.int (Int32.ofNat (xsl.getD i 0)), .int (nI k)] h (b2 (some ((), h)) fun _ h1 => some (xby i k, h1)) := by
    refine r_callSV (As := [.int (nI k), .int (Int32.ofNat (xsl.getD i 0))]) (rest := []) dJ_lca_3 mJ_chk (Or.inl lkJ_9_chk) (sJ_chk hk (by omega) h) (by decide) rfl rfl (Nat.le_of_ble_eq_true rfl) (fun h1 => ?_)
    refine r_aload_n (place := 0) dJ_lca_6 rfl rfl ?_
    refine r_iload_n (place := 1) dJ_lca_7 rfl rfl ?_
    refine r_jb hi (vp_in_nI hk (by omega)) dJ_lca_8 ?_
    refine r_sipush dJ_lca_9 xs255 ?_
    refine r_iand dJ_lca_12 ?_
    refine r_i2c (v := xby i k) dJ_lca_13 ?_ ?_
    · rw [nI_clamp (by omega)]
      exact bc.1
    · exact r_nret dJ_lca_14 rfl bc.2
  rw [b2_some] at z
  exact z
theorem cJ_charAt {G : xG} {i k : Nat} (hi : i < 2) (hk : k < xsl.getD i 0) (h : Mem) : Sm G 3 yJ_cat FJ_cat xcI [.ref (G.2.2.2.1 i), .int (nI k)] h (some (xby i k, h)) := by
  have l4 := xsl_4 i hi
  have bc := xby_c i hi k (by omega)
  refine Sm.of pn_S rfl (Nat.le_of_ble_eq_true rfl) (ls := [(0, .ref (G.2.2.2.1 i)), (1, .int (nI k))]) rfl ?_
  refine r_aload_n (place := 0) dJ_cat_0 rfl rfl ?_
  have z : Rn G 3 FJ_cat xcI 1 [(0, .ref (G.2.2.2.1 i)), (1, .int (nI k))] [.ref (G.2.2.2.1 i)] h (b2 (some ((1 : Int32), h)) fun v h1 => if v = 0 then none else b2 (some (xby i k, h1)) fun w h2 => if w = xby i k then some (w, h2) else none) := by
    refine r_callVJ (As := []) (rest := []) dJ_cat_1 mJ_lat lkJ_492_lat rfl hi (cJ_latin i hi h) (by decide) rfl rfl (Nat.le_of_ble_eq_true rfl) (fun v h1 => ?_)
    refine r_if_eq (tgt := 16) dJ_cat_4 (by decide) Rn.none ?_
    refine r_aload_n (place := 0) dJ_cat_7 rfl rfl ?_
    refine r_jval hi dJ_cat_8 flJ_9 ?_
    refine r_iload_n (place := 1) dJ_cat_11 rfl rfl ?_
    refine r_callSI (As := [.ref (G.2.2.2.2 i), .int (nI k)]) (rest := []) dJ_cat_12 mJ_lca (Or.inl lkJ_495_lca) (sJ_lca hi hk h1) (by decide) rfl rfl (Nat.le_of_ble_eq_true rfl) (fun w h2 => ?_)
    by_cases e : w = xby i k
    · rw [if_pos e, e]
      exact r_nret dJ_cat_15 rfl bc.2
    · rw [if_neg e]
      exact Rn.none
  rw [b2_some, if_neg (by decide), b2_some, if_pos rfl] at z
  exact z
/-! spells -/
def chg {β : Type} (i : Nat) (k : Int32) (kk : Int32 → Option β) : Option β := if 0 ≤ k ∧ k.toNatClampNeg < xsl.getD i 0 then kk (xby i k.toNatClampNeg) else none
def f_X2_spells_28 : Nat → Nat → Nat → Int32 → Mem → Option (Int32 × Mem)
  | 0, _, _, _, _ => none
  | n + 1, a0, i, a2, h =>
    if Int32.ofNat (xsl.getD i 0) ≤ a2 then some ((1 : Int32), h)
    else
      b2 (f_X4_at (xrf a0 0) ((h a0 3) + a2) h) fun v2 h1 =>
      chg i a2 fun w => if v2 = w then (f_X2_spells_28 n) a0 i (a2 + (1 : Int32)) h1 else some ((0 : Int32), h1)
def f_X2_spells (a0 i : Nat) (h : Mem) : Option (Int32 × Mem) :=
  if (h a0 4) = (1 : Int32) then
    if (h a0 2) - (h a0 3) = Int32.ofNat (xsl.getD i 0) then f_X2_spells_28 xFU a0 i (0 : Int32) h
    else some ((0 : Int32), h)
  else some ((0 : Int32), h)
set_option maxRecDepth 20000 in
theorem t_X2_spells_28 {G : xG} {i : Nat} (hi : i < 2) : ∀ (n : Nat) (a0 : Nat) (a2 : Int32) (ta0 : xTy a0 1) (h : Mem), Rn G 4 FX2_spells xcI 28 [(0, .ref (G.1 a0)), (1, .ref (G.2.2.2.1 i)), (2, .int a2)] [] h (f_X2_spells_28 n a0 i a2 h) := by
  intro n
  induction n with
  | zero => intros; intro r hr; cases hr
  | succ n ih =>
    intro a0 a2 ta0 h
    have l4 := xsl_4 i hi
    refine r_iload_n (place := 2) dX2_spells_28 rfl rfl ?_
    refine r_aload_n (place := 1) dX2_spells_29 rfl rfl ?_
    have z : Rn G 4 FX2_spells xcI 30 [(0, .ref (G.1 a0)), (1, .ref (G.2.2.2.1 i)), (2, .int a2)] [.ref (G.2.2.2.1 i), .int a2] h (b2 (some (Int32.ofNat (xsl.getD i 0), h)) fun v h0 => if v ≤ a2 then some ((1 : Int32), h0) else b2 (f_X4_at (xrf a0 0) ((h0 a0 3) + a2) h0) fun v2 h1 => chg i a2 fun w => if v2 = w then (f_X2_spells_28 n) a0 i (a2 + (1 : Int32)) h1 else some ((0 : Int32), h1)) := by
      refine r_callVJ (As := []) (rest := [.int a2]) dX2_spells_30 mJ_len lkJ_139_len rfl hi (cJ_length i hi h) (by decide) rfl rfl (Nat.le_of_ble_eq_true rfl) (fun v h0 => ?_)
      refine r_ic_ge (tgt := 65) dX2_spells_33 (by decide) ?_ ?_
      · refine r_iconst dX2_spells_65 xc_1 ?_
        exact r_zret1 dX2_spells_66 rfl (Or.inr rfl)
      · refine r_aload_n (place := 0) dX2_spells_36 rfl rfl ?_
        refine r_getR dX2_spells_37 fg_X2_12 ta0 ?_
        refine r_aload_n (place := 0) dX2_spells_40 rfl rfl ?_
        refine r_getI dX2_spells_41 fg_X2_127 ta0 ?_
        refine r_iload_n (place := 2) dX2_spells_44 rfl rfl ?_
        refine r_iadd dX2_spells_45 ?_
        refine r_callVI (rest := []) dX2_spells_46 m_X4_at lk_X2_130 rfl (by decide) (xt_1_0 ta0) (c_X4_at (xrf a0 0) (xt_1_0 ta0) ((h0 a0 3) + a2) h0) (by decide) rfl rfl (Nat.le_of_ble_eq_true rfl) (fun v2 h1 => ?_)
        refine r_aload_n (place := 1) dX2_spells_49 rfl rfl ?_
        refine r_iload_n (place := 2) dX2_spells_50 rfl rfl ?_
        unfold chg
        by_cases q : 0 ≤ a2 ∧ a2.toNatClampNeg < xsl.getD i 0
        · rw [if_pos q]
          obtain ⟨k, hk, e⟩ := nI_of (Int32.not_lt.mpr q.1)
          subst e
          have q2 := q.2
          rw [nI_clamp (by omega)] at q2 ⊢
          have y : Rn G 4 FX2_spells xcI 51 [(0, .ref (G.1 a0)), (1, .ref (G.2.2.2.1 i)), (2, .int (nI k))] [.int (nI k), .ref (G.2.2.2.1 i), .int v2] h1 (b2 (some (xby i k, h1)) fun w h2 => if v2 = w then (f_X2_spells_28 n) a0 i (nI k + (1 : Int32)) h2 else some ((0 : Int32), h2)) := by
            refine r_callVJ (As := [.int (nI k)]) (rest := [.int v2]) dX2_spells_51 mJ_cat lkJ_144_cat rfl hi (cJ_charAt hi q2 h1) (by decide) rfl rfl (Nat.le_of_ble_eq_true rfl) (fun w h2 => ?_)
            refine r_ic_eq (tgt := 59) dX2_spells_54 (by decide) ?_ ?_
            · refine r_iincC (place := 2) (ls' := [(2, .int (nI k + (1 : Int32))), (0, .ref (G.1 a0)), (1, .ref (G.2.2.2.1 i))]) dX2_spells_59 rfl xc_1 (by decide) rfl ?_
              refine r_goto (tgt := 28) dX2_spells_62 (by decide) ?_
              exact r_sub [1, 2, 0] rfl (ih a0 (nI k + (1 : Int32)) ta0 h2)
            · refine r_iconst dX2_spells_57 xc_0 ?_
              exact r_zret1 dX2_spells_58 rfl (Or.inl rfl)
          rw [b2_some] at y
          exact y
        · rw [if_neg q]
          exact Rn.none
    rw [b2_some] at z
    unfold f_X2_spells_28
    exact z
set_option maxRecDepth 20000 in
theorem c_X2_spells {G : xG} (a0 : Nat) (ta0 : xTy a0 1) (i : Nat) (hi : i < 2) (h : Mem) : Sm G 4 yX2_spells FX2_spells xcI [.ref (G.1 a0), .ref (G.2.2.2.1 i)] h (f_X2_spells a0 i h) := by
  refine Sm.of pn_X2 rfl (Nat.le_of_ble_eq_true rfl) (ls := [(0, .ref (G.1 a0)), (1, .ref (G.2.2.2.1 i))]) rfl ?_
  unfold f_X2_spells
  refine r_aload_n (place := 0) dX2_spells_0 rfl rfl ?_
  refine r_getI dX2_spells_1 fg_X2_44 ta0 ?_
  refine r_iconst dX2_spells_4 xc_1 ?_
  refine r_ic_ne (tgt := 24) dX2_spells_5 (by decide) ?_ ?_
  · refine r_iconst dX2_spells_24 xc_0 ?_
    exact r_zret1 dX2_spells_25 rfl (Or.inl rfl)
  · refine r_aload_n (place := 0) dX2_spells_8 rfl rfl ?_
    refine r_getI dX2_spells_9 fg_X2_28 ta0 ?_
    refine r_aload_n (place := 0) dX2_spells_12 rfl rfl ?_
    refine r_getI dX2_spells_13 fg_X2_127 ta0 ?_
    refine r_isub dX2_spells_16 ?_
    refine r_aload_n (place := 1) dX2_spells_17 rfl rfl ?_
    have z : Rn G 4 FX2_spells xcI 18 [(0, .ref (G.1 a0)), (1, .ref (G.2.2.2.1 i))] [.ref (G.2.2.2.1 i), .int (h a0 2 - h a0 3)] h (b2 (some (Int32.ofNat (xsl.getD i 0), h)) fun v h0 => if h a0 2 - h a0 3 = v then f_X2_spells_28 xFU a0 i (0 : Int32) h0 else some ((0 : Int32), h0)) := by
      refine r_callVJ (As := []) (rest := [.int (h a0 2 - h a0 3)]) dX2_spells_18 mJ_len lkJ_139_len rfl hi (cJ_length i hi h) (by decide) rfl rfl (Nat.le_of_ble_eq_true rfl) (fun v h0 => ?_)
      refine r_ic_eq (tgt := 26) dX2_spells_21 (by decide) ?_ ?_
      · refine r_iconst dX2_spells_26 xc_0 ?_
        refine r_istore_n (ls' := [(2, .int (0 : Int32)), (0, .ref (G.1 a0)), (1, .ref (G.2.2.2.1 i))]) dX2_spells_27 rfl (by decide) rfl ?_
        exact r_sub [1, 2, 0] rfl (t_X2_spells_28 hi xFU a0 (0 : Int32) ta0 h0)
      · refine r_iconst dX2_spells_24 xc_0 ?_
        exact r_zret1 dX2_spells_25 rfl (Or.inl rfl)
    rw [b2_some] at z
    exact z

