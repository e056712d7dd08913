/-! the text constants: their length and signs -/
def RJ0 : String := "java/lang/String"
abbrev cJ0_length_8abf5 : ByteArray := prog_17_method_54_code
def yJ0_length_8abf5 : MethodName := ⟨RJ0, "length", "()I"⟩
abbrev cJ0_charAt_5068e : ByteArray := prog_17_method_56_code
def yJ0_charAt_5068e : MethodName := ⟨RJ0, "charAt", "(I)C"⟩
abbrev cJ0_coder_7d493 : ByteArray := prog_17_method_152_code
def yJ0_coder_7d493 : MethodName := ⟨RJ0, "coder", "()B"⟩
abbrev cJ0_isLatin1_aae02 : ByteArray := prog_17_method_154_code
def yJ0_isLatin1_aae02 : MethodName := ⟨RJ0, "isLatin1", "()Z"⟩
abbrev cJ0_checkIndex_df160 : ByteArray := prog_17_method_155_code
def yJ0_checkIndex_df160 : MethodName := ⟨RJ0, "checkIndex", "(II)V"⟩
def RJ1 : String := "java/lang/StringLatin1"
abbrev cJ1_charAt_3b067 : ByteArray := prog_18_method_2_code
def yJ1_charAt_3b067 : MethodName := ⟨RJ1, "charAt", "([BI)C"⟩
def RJ2 : String := "java/lang/StringUTF16"
def RJ3 : String := "jdk/internal/util/Preconditions"
abbrev cJ3_checkIndex_8e157 : ByteArray := prog_20_method_11_code
def yJ3_checkIndex_8e157 : MethodName := ⟨RJ3, "checkIndex", "(IILjava/util/function/BiFunction;)I"⟩
theorem dJ0_length_8abf5_0 : decode cJ0_length_8abf5 0 = .ok (.aload_n 0, 1) := by decide +kernel
theorem dJ0_length_8abf5_1 : decode cJ0_length_8abf5 1 = .ok (.getfield 9, 3) := by decide +kernel
theorem dJ0_length_8abf5_4 : decode cJ0_length_8abf5 4 = .ok (.arraylength, 1) := by decide +kernel
theorem dJ0_length_8abf5_5 : decode cJ0_length_8abf5 5 = .ok (.aload_n 0, 1) := by decide +kernel
theorem dJ0_length_8abf5_6 : decode cJ0_length_8abf5 6 = .ok (.invokevirtual 335, 3) := by decide +kernel
theorem dJ0_length_8abf5_9 : decode cJ0_length_8abf5 9 = .ok (.ishr, 1) := by decide +kernel
theorem dJ0_length_8abf5_10 : decode cJ0_length_8abf5 10 = .ok (.ireturn, 1) := by decide +kernel
theorem dJ0_charAt_5068e_0 : decode cJ0_charAt_5068e 0 = .ok (.aload_n 0, 1) := by decide +kernel
theorem dJ0_charAt_5068e_1 : decode cJ0_charAt_5068e 1 = .ok (.invokevirtual 492, 3) := by decide +kernel
theorem dJ0_charAt_5068e_4 : decode cJ0_charAt_5068e 4 = .ok (.ifCond .eq 12, 3) := by decide +kernel
theorem dJ0_charAt_5068e_7 : decode cJ0_charAt_5068e 7 = .ok (.aload_n 0, 1) := by decide +kernel
theorem dJ0_charAt_5068e_8 : decode cJ0_charAt_5068e 8 = .ok (.getfield 9, 3) := by decide +kernel
theorem dJ0_charAt_5068e_11 : decode cJ0_charAt_5068e 11 = .ok (.iload_n 1, 1) := by decide +kernel
theorem dJ0_charAt_5068e_12 : decode cJ0_charAt_5068e 12 = .ok (.invokestatic 495, 3) := by decide +kernel
theorem dJ0_charAt_5068e_15 : decode cJ0_charAt_5068e 15 = .ok (.ireturn, 1) := by decide +kernel
theorem dJ0_charAt_5068e_16 : decode cJ0_charAt_5068e 16 = .ok (.aload_n 0, 1) := by decide +kernel
theorem dJ0_charAt_5068e_17 : decode cJ0_charAt_5068e 17 = .ok (.getfield 9, 3) := by decide +kernel
theorem dJ0_charAt_5068e_20 : decode cJ0_charAt_5068e 20 = .ok (.iload_n 1, 1) := by decide +kernel
theorem dJ0_charAt_5068e_21 : decode cJ0_charAt_5068e 21 = .ok (.invokestatic 498, 3) := by decide +kernel
theorem dJ0_charAt_5068e_24 : decode cJ0_charAt_5068e 24 = .ok (.ireturn, 1) := by decide +kernel
theorem dJ0_coder_7d493_0 : decode cJ0_coder_7d493 0 = .ok (.getstatic 38, 3) := by decide +kernel
theorem dJ0_coder_7d493_3 : decode cJ0_coder_7d493 3 = .ok (.ifCond .eq 10, 3) := by decide +kernel
theorem dJ0_coder_7d493_6 : decode cJ0_coder_7d493 6 = .ok (.aload_n 0, 1) := by decide +kernel
theorem dJ0_coder_7d493_7 : decode cJ0_coder_7d493 7 = .ok (.getfield 15, 3) := by decide +kernel
theorem dJ0_coder_7d493_10 : decode cJ0_coder_7d493 10 = .ok (.goto 4, 3) := by decide +kernel
theorem dJ0_coder_7d493_13 : decode cJ0_coder_7d493 13 = .ok (.iconst 1, 1) := by decide +kernel
theorem dJ0_coder_7d493_14 : decode cJ0_coder_7d493 14 = .ok (.ireturn, 1) := by decide +kernel
theorem dJ0_isLatin1_aae02_0 : decode cJ0_isLatin1_aae02 0 = .ok (.getstatic 38, 3) := by decide +kernel
theorem dJ0_isLatin1_aae02_3 : decode cJ0_isLatin1_aae02 3 = .ok (.ifCond .eq 14, 3) := by decide +kernel
theorem dJ0_isLatin1_aae02_6 : decode cJ0_isLatin1_aae02 6 = .ok (.aload_n 0, 1) := by decide +kernel
theorem dJ0_isLatin1_aae02_7 : decode cJ0_isLatin1_aae02 7 = .ok (.getfield 15, 3) := by decide +kernel
theorem dJ0_isLatin1_aae02_10 : decode cJ0_isLatin1_aae02 10 = .ok (.ifCond .ne 7, 3) := by decide +kernel
theorem dJ0_isLatin1_aae02_13 : decode cJ0_isLatin1_aae02 13 = .ok (.iconst 1, 1) := by decide +kernel
theorem dJ0_isLatin1_aae02_14 : decode cJ0_isLatin1_aae02 14 = .ok (.goto 4, 3) := by decide +kernel
theorem dJ0_isLatin1_aae02_17 : decode cJ0_isLatin1_aae02 17 = .ok (.iconst 0, 1) := by decide +kernel
theorem dJ0_isLatin1_aae02_18 : decode cJ0_isLatin1_aae02 18 = .ok (.ireturn, 1) := by decide +kernel
theorem dJ0_checkIndex_df160_0 : decode cJ0_checkIndex_df160 0 = .ok (.iload_n 0, 1) := by decide +kernel
theorem dJ0_checkIndex_df160_1 : decode cJ0_checkIndex_df160 1 = .ok (.iload_n 1, 1) := by decide +kernel
theorem dJ0_checkIndex_df160_2 : decode cJ0_checkIndex_df160 2 = .ok (.getstatic 1053, 3) := by decide +kernel
theorem dJ0_checkIndex_df160_5 : decode cJ0_checkIndex_df160 5 = .ok (.invokestatic 1059, 3) := by decide +kernel
theorem dJ0_checkIndex_df160_8 : decode cJ0_checkIndex_df160 8 = .ok (.pop, 1) := by decide +kernel
theorem dJ0_checkIndex_df160_9 : decode cJ0_checkIndex_df160 9 = .ok (.return_, 1) := by decide +kernel
theorem dJ1_charAt_3b067_0 : decode cJ1_charAt_3b067 0 = .ok (.iload_n 1, 1) := by decide +kernel
theorem dJ1_charAt_3b067_1 : decode cJ1_charAt_3b067 1 = .ok (.aload_n 0, 1) := by decide +kernel
theorem dJ1_charAt_3b067_2 : decode cJ1_charAt_3b067 2 = .ok (.arraylength, 1) := by decide +kernel
theorem dJ1_charAt_3b067_3 : decode cJ1_charAt_3b067 3 = .ok (.invokestatic 9, 3) := by decide +kernel
theorem dJ1_charAt_3b067_6 : decode cJ1_charAt_3b067 6 = .ok (.aload_n 0, 1) := by decide +kernel
theorem dJ1_charAt_3b067_7 : decode cJ1_charAt_3b067 7 = .ok (.iload_n 1, 1) := by decide +kernel
theorem dJ1_charAt_3b067_8 : decode cJ1_charAt_3b067 8 = .ok (.baload, 1) := by decide +kernel
theorem dJ1_charAt_3b067_9 : decode cJ1_charAt_3b067 9 = .ok (.sipush 255, 3) := by decide +kernel
theorem dJ1_charAt_3b067_12 : decode cJ1_charAt_3b067 12 = .ok (.iand, 1) := by decide +kernel
theorem dJ1_charAt_3b067_13 : decode cJ1_charAt_3b067 13 = .ok (.i2c, 1) := by decide +kernel
theorem dJ1_charAt_3b067_14 : decode cJ1_charAt_3b067 14 = .ok (.ireturn, 1) := by decide +kernel
theorem dJ3_checkIndex_8e157_0 : decode cJ3_checkIndex_8e157 0 = .ok (.iload_n 0, 1) := by decide +kernel
theorem dJ3_checkIndex_8e157_1 : decode cJ3_checkIndex_8e157 1 = .ok (.ifCond .lt 8, 3) := by decide +kernel
theorem dJ3_checkIndex_8e157_4 : decode cJ3_checkIndex_8e157 4 = .ok (.iload_n 0, 1) := by decide +kernel
theorem dJ3_checkIndex_8e157_5 : decode cJ3_checkIndex_8e157 5 = .ok (.iload_n 1, 1) := by decide +kernel
theorem dJ3_checkIndex_8e157_6 : decode cJ3_checkIndex_8e157 6 = .ok (.if_icmp .lt 10, 3) := by decide +kernel
theorem dJ3_checkIndex_8e157_9 : decode cJ3_checkIndex_8e157 9 = .ok (.aload_n 2, 1) := by decide +kernel
theorem dJ3_checkIndex_8e157_10 : decode cJ3_checkIndex_8e157 10 = .ok (.iload_n 0, 1) := by decide +kernel
theorem dJ3_checkIndex_8e157_11 : decode cJ3_checkIndex_8e157 11 = .ok (.iload_n 1, 1) := by decide +kernel
theorem dJ3_checkIndex_8e157_12 : decode cJ3_checkIndex_8e157 12 = .ok (.invokestatic 95, 3) := by decide +kernel
theorem dJ3_checkIndex_8e157_15 : decode cJ3_checkIndex_8e157 15 = .ok (.athrow, 1) := by decide +kernel
theorem dJ3_checkIndex_8e157_16 : decode cJ3_checkIndex_8e157 16 = .ok (.iload_n 0, 1) := by decide +kernel
theorem dJ3_checkIndex_8e157_17 : decode cJ3_checkIndex_8e157 17 = .ok (.ireturn, 1) := by decide +kernel
theorem wt_132 : (Cond.fieldLink "java/lang/String" 38 "java/lang/String" "COMPACT_STRINGS" "Z" : Cond) ∈ GW := gw_mem 132 (by decide +kernel) (by decide +kernel)
theorem wt_1556 : (Cond.fieldLink "java/lang/String" 15 "java/lang/String" "coder" "B" : Cond) ∈ GW := gw_mem 1556 (by decide +kernel) (by decide +kernel)
theorem wt_1555 : (Cond.fieldLink "java/lang/String" 9 "java/lang/String" "value" "[B" : Cond) ∈ GW := gw_mem 1555 (by decide +kernel) (by decide +kernel)
theorem wt_148 : (Cond.fieldLink "java/lang/String" 1053 "jdk/internal/util/Preconditions" "SIOOBE_FORMATTER" "Ljava/util/function/BiFunction;" : Cond) ∈ GW := gw_mem 148 (by decide +kernel) (by decide +kernel)
theorem wt_128 : (Cond.methodLink "java/lang/String" 335 yJ0_coder_7d493 : Cond) ∈ GW := gw_mem 128 (by decide +kernel) (by decide +kernel)
theorem wt_131 : (Cond.code yJ0_coder_7d493 cJ0_coder_7d493 1 (some .byte) : Cond) ∈ GW := gw_mem 131 (by decide +kernel) (by decide +kernel)
theorem wt_93 : (Cond.initialized "java/lang/String" : Cond) ∈ GW := gw_mem 93 (by decide +kernel) (by decide +kernel)
theorem wt_129 : (Cond.instanceMethod yJ0_coder_7d493 : Cond) ∈ GW := gw_mem 129 (by decide +kernel) (by decide +kernel)
theorem wt_130 : (Cond.selects "java/lang/String" yJ0_coder_7d493 yJ0_coder_7d493 : Cond) ∈ GW := gw_mem 130 (by decide +kernel) (by decide +kernel)
theorem wt_150 : (Cond.methodLink "java/lang/String" 1059 yJ3_checkIndex_8e157 : Cond) ∈ GW := gw_mem 150 (by decide +kernel) (by decide +kernel)
theorem wt_152 : (Cond.code yJ3_checkIndex_8e157 cJ3_checkIndex_8e157 3 (some .int) : Cond) ∈ GW := gw_mem 152 (by decide +kernel) (by decide +kernel)
theorem wt_95 : (Cond.initialized "jdk/internal/util/Preconditions" : Cond) ∈ GW := gw_mem 95 (by decide +kernel) (by decide +kernel)
theorem wt_151 : (Cond.static yJ3_checkIndex_8e157 : Cond) ∈ GW := gw_mem 151 (by decide +kernel) (by decide +kernel)
theorem wt_145 : (Cond.methodLink "java/lang/StringLatin1" 9 yJ0_checkIndex_df160 : Cond) ∈ GW := gw_mem 145 (by decide +kernel) (by decide +kernel)
theorem wt_147 : (Cond.code yJ0_checkIndex_df160 cJ0_checkIndex_df160 2 none : Cond) ∈ GW := gw_mem 147 (by decide +kernel) (by decide +kernel)
theorem wt_146 : (Cond.static yJ0_checkIndex_df160 : Cond) ∈ GW := gw_mem 146 (by decide +kernel) (by decide +kernel)
theorem wt_138 : (Cond.methodLink "java/lang/String" 492 yJ0_isLatin1_aae02 : Cond) ∈ GW := gw_mem 138 (by decide +kernel) (by decide +kernel)
theorem wt_141 : (Cond.code yJ0_isLatin1_aae02 cJ0_isLatin1_aae02 1 (some .boolean) : Cond) ∈ GW := gw_mem 141 (by decide +kernel) (by decide +kernel)
theorem wt_139 : (Cond.instanceMethod yJ0_isLatin1_aae02 : Cond) ∈ GW := gw_mem 139 (by decide +kernel) (by decide +kernel)
theorem wt_140 : (Cond.selects "java/lang/String" yJ0_isLatin1_aae02 yJ0_isLatin1_aae02 : Cond) ∈ GW := gw_mem 140 (by decide +kernel) (by decide +kernel)
theorem wt_142 : (Cond.methodLink "java/lang/String" 495 yJ1_charAt_3b067 : Cond) ∈ GW := gw_mem 142 (by decide +kernel) (by decide +kernel)
theorem wt_144 : (Cond.code yJ1_charAt_3b067 cJ1_charAt_3b067 2 (some .char) : Cond) ∈ GW := gw_mem 144 (by decide +kernel) (by decide +kernel)
theorem wt_94 : (Cond.initialized "java/lang/StringLatin1" : Cond) ∈ GW := gw_mem 94 (by decide +kernel) (by decide +kernel)
theorem wt_143 : (Cond.static yJ1_charAt_3b067 : Cond) ∈ GW := gw_mem 143 (by decide +kernel) (by decide +kernel)
theorem wt_127 : (Cond.code yJ0_length_8abf5 cJ0_length_8abf5 1 (some .int) : Cond) ∈ GW := gw_mem 127 (by decide +kernel) (by decide +kernel)
theorem wt_125 : (Cond.instanceMethod yJ0_length_8abf5 : Cond) ∈ GW := gw_mem 125 (by decide +kernel) (by decide +kernel)
theorem wt_126 : (Cond.selects "java/lang/String" yJ0_length_8abf5 yJ0_length_8abf5 : Cond) ∈ GW := gw_mem 126 (by decide +kernel) (by decide +kernel)
theorem wt_137 : (Cond.code yJ0_charAt_5068e cJ0_charAt_5068e 2 (some .char) : Cond) ∈ GW := gw_mem 137 (by decide +kernel) (by decide +kernel)
theorem wt_135 : (Cond.instanceMethod yJ0_charAt_5068e : Cond) ∈ GW := gw_mem 135 (by decide +kernel) (by decide +kernel)
theorem wt_136 : (Cond.selects "java/lang/String" yJ0_charAt_5068e yJ0_charAt_5068e : Cond) ∈ GW := gw_mem 136 (by decide +kernel) (by decide +kernel)
abbrev MD_jcod : MD := ("java/lang/String", cJ0_coder_7d493, 1, (some .byte), false, 1, 22)
abbrev MD_jlat : MD := ("java/lang/String", cJ0_isLatin1_aae02, 1, (some .boolean), false, 1, 22)
abbrev MD_jlen : MD := ("java/lang/String", cJ0_length_8abf5, 1, (some .int), false, 2, 50)
abbrev MD_jpre : MD := ("jdk/internal/util/Preconditions", cJ3_checkIndex_8e157, 3, (some .int), false, 1, 22)
abbrev MD_jchk : MD := ("java/lang/String", cJ0_checkIndex_df160, 2, none, false, 2, 50)
abbrev MD_jl1 : MD := ("java/lang/StringLatin1", cJ1_charAt_3b067, 2, (some .char), false, 3, 80)
abbrev MD_jcha : MD := ("java/lang/String", cJ0_charAt_5068e, 2, (some .char), false, 4, 110)
theorem cat_i (x : Int32) : (Value.int x).category = 1 := rfl
theorem cat_l (x : Int64) : (Value.long x).category = 2 := rfl
def sLen (i : Nat) : Option Int32 := if i < 5 then some (Int32.ofNat (jsLen.getD i 0)) else none
def sCh (i : Nat) (k : Int32) : Option Int32 := if i < 5 ∧ 0 ≤ k.toInt ∧ k.toInt < ((jsLen.getD i 0 : Nat) : Int) then some ((jsByt.getD i []).getD k.toNatClampNeg 0) else none
section RT
variable {Γ : W0} {M : MD} {σ0 σ : Mem} {r : RT} {pc : Nat} {L : List (Nat × Value)} {st : List Value}
theorem r_nret {v : Int32} {ty : FieldType} (hM : M.2.2.2.1 = some ty) (hn : narrow ty (.int v) = .int v) (hd : decode M.2.1 pc = .ok (.ireturn, 1)) (hr : r = mkR Γ σ0 (some (.int v)) σ) : V Γ M σ0 r σ pc L [.int v] := by
  subst hr
  refine ⟨Nat.le_refl _, Nat.le_refl _, fun p l e s m args below meth c H locs ls hT hl => ?_⟩
  exact W.zret hT.1.1 hT.1.2.1 (hT.1.2.2.2.2.2.1.trans hM) hn (fun t ht hW => Qcn.of hT ht hW) hT.2.2.2.2.2.2.2.2.2.1.2.2 hd hT.1.2.2.2.2.2.2.1
theorem r_kaload {n : Fin 4} {i x : Nat} (j : Nat) (hd : decode M.2.1 pc = .ok (.aload_n n, 1)) (hi : (n : Nat) = i) (hj : L[j]? = some (i, .ref x)) (k : V Γ M σ0 r σ (pc + 1) L (.ref x :: st)) : V Γ M σ0 r σ pc L st := r_aload_n (x := some x) j hd hi hj k
theorem r_gcs {index : Nat} (hd : decode M.2.1 pc = .ok (.getstatic index, 3)) (hk : Cond.fieldLink M.1 index "java/lang/String" "COMPACT_STRINGS" "Z" ∈ GW) (k : V Γ M σ0 r σ (pc + 3) L (.int 1 :: st)) : V Γ M σ0 r σ pc L st :=
  ⟨k.1, k.2.1, fun p l e s m args below meth c H locs ls hT hl => va_gets hT.1.1 hT.1.2.1 hT.2.2.1.2.2.1 hT.2.2.2.2.2.2.2.2.2.1 hT.1.2.2.2.1 (hT.1.2.2.2.2.1 _ hk) (fun _ h => h) hd (k.2.2 p l e s m args below meth c H locs ls hT hl)⟩
theorem r_gfm {index : Nat} (hd : decode M.2.1 pc = .ok (.getstatic index, 3)) (hk : Cond.fieldLink M.1 index "jdk/internal/util/Preconditions" "SIOOBE_FORMATTER" "Ljava/util/function/BiFunction;" ∈ GW) (k : ∀ x, V Γ M σ0 r σ (pc + 3) L (va_rf x :: st)) : V Γ M σ0 r σ pc L st := by
  refine ⟨(k none).1, (k none).2.1, fun p l e s m args below meth c H locs ls hT hl => ?_⟩
  rcases hT.2.2.1.2.2.2.1 with hz | ⟨t, hz⟩
  · exact va_gets hT.1.1 hT.1.2.1 hz hT.2.2.2.2.2.2.2.2.2.1 hT.1.2.2.2.1 (hT.1.2.2.2.2.1 _ hk) (fun _ h => h) hd ((k none).2.2 p l e s m args below meth c H locs ls hT hl)
  · exact va_gets hT.1.1 hT.1.2.1 hz hT.2.2.2.2.2.2.2.2.2.1 hT.1.2.2.2.1 (hT.1.2.2.2.2.1 _ hk) (fun _ h => h) hd ((k (some t)).2.2 p l e s m args below meth c H locs ls hT hl)
theorem r_kval {index i : Nat} (hi : i < 5) (hd : decode M.2.1 pc = .ok (.getfield index, 3)) (hk : Cond.fieldLink M.1 index "java/lang/String" "value" "[B" ∈ GW) (k : V Γ M σ0 r σ (pc + 3) L (.ref (wV Γ i) :: st)) : V Γ M σ0 r σ pc L (.ref (wK Γ i) :: st) :=
  ⟨k.1, k.2.1, fun p l e s m args below meth c H locs ls hT hl => vk_getf hT.1.1 hT.1.2.1 (hT.2.2.1.1.1 i hi).2.2.1 hT.2.2.2.2.2.2.2.2.2.1 hT.1.2.2.2.1 (hT.1.2.2.2.2.1 _ hk) (fun _ h => h) hd (k.2.2 p l e s m args below meth c H locs ls hT hl)⟩
theorem r_kcod {index i : Nat} (hi : i < 5) (hd : decode M.2.1 pc = .ok (.getfield index, 3)) (hk : Cond.fieldLink M.1 index "java/lang/String" "coder" "B" ∈ GW) (k : V Γ M σ0 r σ (pc + 3) L (.int 0 :: st)) : V Γ M σ0 r σ pc L (.ref (wK Γ i) :: st) :=
  ⟨k.1, k.2.1, fun p l e s m args below meth c H locs ls hT hl => vk_getf hT.1.1 hT.1.2.1 (hT.2.2.1.1.1 i hi).2.1 hT.2.2.2.2.2.2.2.2.2.1 hT.1.2.2.2.1 (hT.1.2.2.2.2.1 _ hk) (fun _ h => h) hd (k.2.2 p l e s m args below meth c H locs ls hT hl)⟩
theorem r_klen {i : Nat} (hi : i < 5) (hd : decode M.2.1 pc = .ok (.arraylength, 1)) (k : V Γ M σ0 r σ (pc + 1) L (.int (Int32.ofNat (jsLen.getD i 0)) :: st)) : V Γ M σ0 r σ pc L (.ref (wV Γ i) :: st) :=
  ⟨k.1, k.2.1, fun p l e s m args below meth c H locs ls hT hl => va_tlen hT.1.1 hT.1.2.1 (hT.2.2.1.1.1 i hi).2.2.2 hT.2.2.2.2.2.2.2.2.2.1 rfl hd (k.2.2 p l e s m args below meth c H locs ls hT hl)⟩
theorem r_kby {i : Nat} {j : Int32} (hi : i < 5) (hj : vp_in j (jsLen.getD i 0)) (hd : decode M.2.1 pc = .ok (.baload, 1)) (k : V Γ M σ0 r σ (pc + 1) L (.int ((jsByt.getD i []).getD j.toNatClampNeg 0) :: st)) : V Γ M σ0 r σ pc L (.int j :: .ref (wV Γ i) :: st) :=
  ⟨k.1, k.2.1, fun p l e s m args below meth c H locs ls hT hl => va_tb hT.1.1 hT.1.2.1 (hT.2.2.1.1.1 i hi).2.2.2 hT.2.2.2.2.2.2.2.2.2.1 hj rfl hd (k.2.2 p l e s m args below meth c H locs ls hT hl)⟩
theorem r_i2c {x v : Int32} (hd : decode M.2.1 pc = .ok (.i2c, 1)) (hv : (x.toUInt32 % 65536).toInt32 = v) (k : V Γ M σ0 r σ (pc + 1) L (.int v :: st)) : V Γ M σ0 r σ pc L (.int x :: st) :=
  ⟨k.1, k.2.1, fun p l e s m args below meth c H locs ls hT hl => lv_i2c hT.1.1 hT.1.2.1 hd hv (k.2.2 p l e s m args below meth c H locs ls hT hl)⟩
theorem r_callK {Mc : MD} {y : MethodName} {σ1 : Mem} {v : Value} {index n i : Nat} {rest as : List Value} (hi : i < 5) (hd : decode M.2.1 pc = .ok (.invokevirtual index, 3)) (hs : CS M.1 index Mc y n) (hin : Cond.instanceMethod y ∈ GW) (hse : Cond.selects "java/lang/String" y y ∈ GW) (hf : Mc.2.2.2.2.2.1 + 1 ≤ M.2.2.2.2.2.1 ∧ 8 + (Mc.2.2.1 + 11) + Mc.2.2.2.2.2.2 ≤ M.2.2.2.2.2.2)
    (hn : as.length = n) (hstk : st = as.reverse ++ .ref (wK Γ i) :: rest) (hR : rest.length ≤ 4) (hC : CT Γ Mc y (.ref (wK Γ i) :: as) σ (some v, σ1)) (k : V Γ M σ0 r σ1 (pc + 3) L (v :: rest)) : V Γ M σ0 r σ pc L st :=
  r_call0 (r1 := (some v, σ1)) hC (fun p l e s m args below meth c H locs ls hT hl f1 f2 => va_runV (C := "java/lang/String") ⟨hT.1.1, hT.1.2.1, hT.1.2.2.1, hT.1.2.2.2.1, hT.1.2.2.2.2.1⟩ (hC.2.2 l) ⟨hs.cb hT hf, hT.1.2.2.2.2.1 _ hin, hT.1.2.2.2.2.1 _ hse⟩ ⟨(SOK.pre hT (.ref (wK Γ i) :: as)).1, vk_recv hT.2.2.1.1 hi hT.2.2.2.2.2.2.2.2.2.1, (SOK.pre hT (.ref (wK Γ i) :: as)).2⟩ rfl hn hl.1 hstk (lv_room (cat_le hR)) hd ⟨f1, f2⟩) k
end RT
theorem t_jcod {Γ : W0} {σ : Mem} {i : Nat} (hi : i < 5) : CT Γ MD_jcod yJ0_coder_7d493 [.ref (wK Γ i)] σ (some (.int 0), σ) := by
  refine CT.of (L := [(0, .ref (wK Γ i))]) rfl (by decide) (by decide) (Nat.le_of_ble_eq_true rfl) rfl ?_
  refine r_gcs dJ0_coder_7d493_0 wt_132 ?_
  refine r_if_eq 13 (A := True) (B := True) (z := True) (by simp) dJ0_coder_7d493_3 (by decide) (fun h _ => absurd h (by decide)) (fun _ _ => ?_)
  refine r_kaload 0 dJ0_coder_7d493_6 rfl rfl ?_
  refine r_kcod hi dJ0_coder_7d493_7 wt_1556 ?_
  refine r_goto 14 dJ0_coder_7d493_10 (by decide) ?_
  exact r_nret rfl (by decide +kernel) dJ0_coder_7d493_14 rfl
theorem t_jlat {Γ : W0} {σ : Mem} {i : Nat} (hi : i < 5) : CT Γ MD_jlat yJ0_isLatin1_aae02 [.ref (wK Γ i)] σ (some (.int 1), σ) := by
  refine CT.of (L := [(0, .ref (wK Γ i))]) rfl (by decide) (by decide) (Nat.le_of_ble_eq_true rfl) rfl ?_
  refine r_gcs dJ0_isLatin1_aae02_0 wt_132 ?_
  refine r_if_eq 17 (A := True) (B := True) (z := True) (by simp) dJ0_isLatin1_aae02_3 (by decide) (fun h _ => absurd h (by decide)) (fun _ _ => ?_)
  refine r_kaload 0 dJ0_isLatin1_aae02_6 rfl rfl ?_
  refine r_kcod hi dJ0_isLatin1_aae02_7 wt_1556 ?_
  refine r_if_ne 17 (A := True) (B := True) (z := True) (by simp) dJ0_isLatin1_aae02_10 (by decide) (fun h _ => absurd rfl h) (fun _ _ => ?_)
  refine r_iconst 1 dJ0_isLatin1_aae02_13 (by decide) ?_
  refine r_goto 18 dJ0_isLatin1_aae02_14 (by decide) ?_
  exact r_nret rfl (by decide +kernel) dJ0_isLatin1_aae02_18 rfl
theorem t_jlen {Γ : W0} {σ : Mem} {i : Nat} (hi : i < 5) : CT Γ MD_jlen yJ0_length_8abf5 [.ref (wK Γ i)] σ (some (.int (Int32.ofNat (jsLen.getD i 0))), σ) := by
  refine CT.of (L := [(0, .ref (wK Γ i))]) rfl (by decide) (by decide) (Nat.le_of_ble_eq_true rfl) rfl ?_
  refine r_kaload 0 dJ0_length_8abf5_0 rfl rfl ?_
  refine r_kval hi dJ0_length_8abf5_1 wt_1555 ?_
  refine r_klen hi dJ0_length_8abf5_4 ?_
  refine r_kaload 0 dJ0_length_8abf5_5 rfl rfl ?_
  refine r_callK hi dJ0_length_8abf5_6 (⟨wt_128, wt_131, wt_93, ⟨by decide +kernel, by decide +kernel, by decide +kernel⟩⟩ : CS "java/lang/String" 335 MD_jcod yJ0_coder_7d493 0) wt_129 wt_130 (by decide) rfl (rest := [_]) rfl (Nat.le_of_ble_eq_true rfl) (t_jcod hi) ?_
  refine r_ishr dJ0_length_8abf5_9 ?_
  have e : ∀ x : Int32, shrI x 0 = x := fun x => by simp [shrI]
  rw [e]
  exact r_iret rfl dJ0_length_8abf5_10 rfl
theorem t_jpre {Γ : W0} {σ : Mem} {j n : Int32} {x : Option Nat} (h0 : 0 ≤ j.toInt) (h1 : j.toInt < n.toInt) : CT Γ MD_jpre yJ3_checkIndex_8e157 [.int j, .int n, va_rf x] σ (some (.int j), σ) := by
  have hnL : (lg_sl [.int j, .int n, va_rf x]).length ≤ 3 := by cases x <;> exact Nat.le_of_ble_eq_true rfl
  have hL : lv_args 0 [.int j, .int n, va_rf x] = [(0, .int j), (1, .int n), (2, va_rf x)] := by cases x <;> rfl
  refine CT.of (L := [(0, .int j), (1, .int n), (2, va_rf x)]) rfl (by decide) (by decide) hnL hL ?_
  refine r_iload_n 0 dJ3_checkIndex_8e157_0 rfl rfl ?_
  refine r_if_lt 9 (A := True) (B := True) (z := True) (by simp) dJ3_checkIndex_8e157_1 (by decide) (fun h _ => absurd h (nn0 h0)) (fun _ _ => ?_)
  refine r_iload_n 0 dJ3_checkIndex_8e157_4 rfl rfl ?_
  refine r_iload_n 1 dJ3_checkIndex_8e157_5 rfl rfl ?_
  refine r_icmp_lt 16 (A := True) (B := True) (z := True) (by simp) dJ3_checkIndex_8e157_6 (by decide) (fun _ _ => ?_) (fun h _ => absurd (Int32.lt_iff_toInt_lt.mpr h1) h)
  refine r_iload_n 0 dJ3_checkIndex_8e157_16 rfl rfl ?_
  exact r_iret rfl dJ3_checkIndex_8e157_17 rfl
theorem t_jchk {Γ : W0} {σ : Mem} {j n : Int32} (h0 : 0 ≤ j.toInt) (h1 : j.toInt < n.toInt) : CT Γ MD_jchk yJ0_checkIndex_df160 [.int j, .int n] σ (none, σ) := by
  refine CT.of (L := [(0, .int j), (1, .int n)]) rfl (by decide) (by decide) (Nat.le_of_ble_eq_true rfl) rfl ?_
  refine r_iload_n 0 dJ0_checkIndex_df160_0 rfl rfl ?_
  refine r_iload_n 1 dJ0_checkIndex_df160_1 rfl rfl ?_
  refine r_gfm dJ0_checkIndex_df160_2 wt_148 (fun x => ?_)
  refine r_callSr dJ0_checkIndex_df160_5 (⟨wt_150, wt_152, wt_95, ⟨by decide +kernel, by decide +kernel, by decide +kernel⟩⟩ : CS "java/lang/String" 1059 MD_jpre yJ3_checkIndex_8e157 3) wt_151 (by decide) rfl (rest := []) rfl (Or.inl (Nat.le_of_ble_eq_true rfl)) (t_jpre h0 h1) ?_
  refine r_pop dJ0_checkIndex_df160_8 rfl ?_
  exact r_vret rfl dJ0_checkIndex_df160_9 rfl
theorem js_by : ∀ i, i < 5 → ∀ j, j < jsLen.getD i 0 → ((((jsByt.getD i []).getD j 0 &&& 255).toUInt32 % 65536).toInt32 = (jsByt.getD i []).getD j 0) ∧ narrow .char (.int ((jsByt.getD i []).getD j 0)) = .int ((jsByt.getD i []).getD j 0) := by decide +kernel
theorem js_le : ∀ i, i < 5 → (Int32.ofNat (jsLen.getD i 0)).toInt = ((jsLen.getD i 0 : Nat) : Int) := by decide +kernel
theorem ix_nat {k : Int32} {n : Nat} (h : 0 ≤ k.toInt ∧ k.toInt < (n : Int)) : k.toNatClampNeg < n := by
  have : (k.toNatClampNeg : Int) = k.toInt := by
    show ((k.toInt.toNat : Nat) : Int) = k.toInt
    omega
  omega
theorem t_jl1 {Γ : W0} {σ : Mem} {i : Nat} {k : Int32} (hi : i < 5) (h : 0 ≤ k.toInt ∧ k.toInt < ((jsLen.getD i 0 : Nat) : Int)) : CT Γ MD_jl1 yJ1_charAt_3b067 [.ref (wV Γ i), .int k] σ (some (.int ((jsByt.getD i []).getD k.toNatClampNeg 0)), σ) := by
  refine CT.of (L := [(0, .ref (wV Γ i)), (1, .int k)]) rfl (by decide) (by decide) (Nat.le_of_ble_eq_true rfl) rfl ?_
  refine r_iload_n 1 dJ1_charAt_3b067_0 rfl rfl ?_
  refine r_kaload 0 dJ1_charAt_3b067_1 rfl rfl ?_
  refine r_klen hi dJ1_charAt_3b067_2 ?_
  refine r_callSv dJ1_charAt_3b067_3 (⟨wt_145, wt_147, wt_93, ⟨by decide +kernel, by decide +kernel, by decide +kernel⟩⟩ : CS "java/lang/StringLatin1" 9 MD_jchk yJ0_checkIndex_df160 2) wt_146 (by decide) rfl (rest := []) rfl (Or.inl (Nat.le_of_ble_eq_true rfl)) (t_jchk h.1 (by rw [js_le i hi]; exact h.2)) ?_
  refine r_kaload 0 dJ1_charAt_3b067_6 rfl rfl ?_
  refine r_iload_n 1 dJ1_charAt_3b067_7 rfl rfl ?_
  refine r_kby hi (ix_in h) dJ1_charAt_3b067_8 ?_
  refine r_sipush (255 : Int32) dJ1_charAt_3b067_9 (by decide) ?_
  refine r_iand dJ1_charAt_3b067_12 ?_
  have hb := js_by i hi k.toNatClampNeg (ix_nat h)
  refine r_i2c dJ1_charAt_3b067_13 hb.1 ?_
  exact r_nret rfl hb.2 dJ1_charAt_3b067_14 rfl
theorem t_jcha {Γ : W0} {σ : Mem} {i : Nat} {k : Int32} (hi : i < 5) (h : 0 ≤ k.toInt ∧ k.toInt < ((jsLen.getD i 0 : Nat) : Int)) : CT Γ MD_jcha yJ0_charAt_5068e [.ref (wK Γ i), .int k] σ (some (.int ((jsByt.getD i []).getD k.toNatClampNeg 0)), σ) := by
  refine CT.of (L := [(0, .ref (wK Γ i)), (1, .int k)]) rfl (by decide) (by decide) (Nat.le_of_ble_eq_true rfl) rfl ?_
  refine r_kaload 0 dJ0_charAt_5068e_0 rfl rfl ?_
  refine r_callK hi dJ0_charAt_5068e_1 (⟨wt_138, wt_141, wt_93, ⟨by decide +kernel, by decide +kernel, by decide +kernel⟩⟩ : CS "java/lang/String" 492 MD_jlat yJ0_isLatin1_aae02 0) wt_139 wt_140 (by decide) rfl (rest := []) rfl (Nat.le_of_ble_eq_true rfl) (t_jlat hi) ?_
  refine r_if_eq 16 (A := True) (B := True) (z := True) (by simp) dJ0_charAt_5068e_4 (by decide) (fun h _ => absurd h (by decide)) (fun _ _ => ?_)
  refine r_kaload 0 dJ0_charAt_5068e_7 rfl rfl ?_
  refine r_kval hi dJ0_charAt_5068e_8 wt_1555 ?_
  refine r_iload_n 1 dJ0_charAt_5068e_11 rfl rfl ?_
  refine r_callSr dJ0_charAt_5068e_12 (⟨wt_142, wt_144, wt_94, ⟨by decide +kernel, by decide +kernel, by decide +kernel⟩⟩ : CS "java/lang/String" 495 MD_jl1 yJ1_charAt_3b067 2) wt_143 (by decide) rfl (rest := []) rfl (Or.inl (Nat.le_of_ble_eq_true rfl)) (t_jl1 hi h) ?_
  exact r_nret rfl (js_by i hi k.toNatClampNeg (ix_nat h)).2 dJ0_charAt_5068e_15 rfl
section RU
variable {Γ : W0} {M : MD} {σ0 σ : Mem} {r : RT} {pc : Nat} {L : List (Nat × Value)} {st : List Value}
theorem r_sLen {i index : Nat} {ρ : Type} {F : Int32 → Option ρ} {z : ρ} (hf : (sLen i).bind F = some z) (hd : decode M.2.1 pc = .ok (.invokevirtual index, 3)) (hlk : Cond.methodLink M.1 index ⟨"java/lang/String", "length", "()I"⟩ ∈ GW) (hfr : MD_jlen.2.2.2.2.2.1 + 1 ≤ M.2.2.2.2.2.1 ∧ 8 + (MD_jlen.2.2.1 + 11) + MD_jlen.2.2.2.2.2.2 ≤ M.2.2.2.2.2.2) (hR : st.length ≤ 4) (kk : ∀ v, sLen i = some v → F v = some z → V Γ M σ0 r σ (pc + 3) L (.int v :: st)) : V Γ M σ0 r σ pc L (.ref (wK Γ i) :: st) := by
  refine ibd hf fun hi hg => ?_
  have kk := kk _ (by simp [sLen, hi]) hg
  exact r_callK hi hd (⟨hlk, wt_127, wt_93, ⟨by decide +kernel, by decide +kernel, by decide +kernel⟩⟩ : CS M.1 index MD_jlen yJ0_length_8abf5 0) wt_125 wt_126 hfr rfl (as := []) rfl hR (t_jlen hi) kk
theorem r_sCh {i index : Nat} {k : Int32} {ρ : Type} {F : Int32 → Option ρ} {z : ρ} (hf : (sCh i k).bind F = some z) (hd : decode M.2.1 pc = .ok (.invokevirtual index, 3)) (hlk : Cond.methodLink M.1 index ⟨"java/lang/String", "charAt", "(I)C"⟩ ∈ GW) (hfr : MD_jcha.2.2.2.2.2.1 + 1 ≤ M.2.2.2.2.2.1 ∧ 8 + (MD_jcha.2.2.1 + 11) + MD_jcha.2.2.2.2.2.2 ≤ M.2.2.2.2.2.2) (hR : st.length ≤ 4) (kk : ∀ v, sCh i k = some v → F v = some z → V Γ M σ0 r σ (pc + 3) L (.int v :: st)) : V Γ M σ0 r σ pc L (.int k :: .ref (wK Γ i) :: st) := by
  refine ibd hf fun hi hg => ?_
  have kk := kk _ (by unfold sCh; rw [if_pos hi]) hg
  exact r_callK hi.1 hd (⟨hlk, wt_137, wt_93, ⟨by decide +kernel, by decide +kernel, by decide +kernel⟩⟩ : CS M.1 index MD_jcha yJ0_charAt_5068e 1) wt_135 wt_136 hfr rfl (as := [.int k]) rfl hR (t_jcha hi.1 hi.2) kk
end RU
