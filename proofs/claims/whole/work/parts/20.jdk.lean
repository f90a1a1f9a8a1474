/-! ===== printed by wip/whole/emit.py: methods as pieces ===== -/
def y_S6_indexOf : MethodName := ⟨"java/lang/StringUTF16", "indexOf", "([BIII)I"⟩
abbrev c_S6_indexOf : ByteArray := prog_29_method_40_code
theorem mt_S6_indexOf : JMt y_S6_indexOf c_S6_indexOf 4 (some .int) 4 := ⟨(List.mem_of_getElem? (i := 692) (by decide +kernel)), (List.mem_of_getElem? (i := 136) (by decide +kernel)), ⟨by decide +kernel, by decide +kernel⟩, by decide +kernel, by decide⟩
theorem st_S6_indexOf : Cond.static y_S6_indexOf ∈ lw_tbl := (List.mem_of_getElem? (i := 691) (by decide +kernel))
def y_Ma_min : MethodName := ⟨"java/lang/Math", "min", "(II)I"⟩
abbrev c_Ma_min : ByteArray := prog_24_method_69_code
theorem mt_Ma_min : JMt y_Ma_min c_Ma_min 2 (some .int) 2 := ⟨(List.mem_of_getElem? (i := 264) (by decide +kernel)), (List.mem_of_getElem? (i := 125) (by decide +kernel)), ⟨by decide +kernel, by decide +kernel⟩, by decide +kernel, by decide⟩
theorem st_Ma_min : Cond.static y_Ma_min ∈ lw_tbl := (List.mem_of_getElem? (i := 263) (by decide +kernel))
noncomputable def qp_Ma_min : JP := (jb_sq (jb_sq (jb_sq (jb_if (jx_run [(2, 0, 0), (2, 1, 0)]) 10 9 5) 5 (jb_go (jx_run [(2, 0, 0)]) 10)) 9 (jb_go (jx_run [(2, 1, 0)]) 10)) 10 (jb_rt (jx_run []) 1))
noncomputable def q_Ma_min : JF := jf_of qp_Ma_min 2
set_option maxRecDepth 20000 in
theorem fr_Ma_min (G : JG) : JFr G 14 false c_Ma_min 0 2 (some .int) 0 qp_Ma_min := (jfr_sq (jfr_sq (jfr_sq (jfr_if (j := 2) (jsl_run (by decide +kernel)) (by decide +kernel) (by decide)) (jfr_go (j := 6) (jsl_run (by decide +kernel)) (by decide +kernel) (by decide)) (by decide)) (jfr_go (j := 10) (jsl_run (by decide +kernel)) (by decide +kernel) (by decide)) (by decide)) (jfr_rt (j := 10) (jsl_run (by decide +kernel)) (by decide +kernel)) (by decide))
theorem se_Ma_min (G : JG) : JSem G y_Ma_min c_Ma_min 2 (some .int) 0 q_Ma_min := jsem_of (by decide +kernel) rfl (by intro h; cases h) (fr_Ma_min G)
def y_In_bitCount : MethodName := ⟨"java/lang/Integer", "bitCount", "(I)I"⟩
abbrev c_In_bitCount : ByteArray := prog_22_method_49_code
theorem mt_In_bitCount : JMt y_In_bitCount c_In_bitCount 1 (some .int) 1 := ⟨(List.mem_of_getElem? (i := 422) (by decide +kernel)), (List.mem_of_getElem? (i := 131) (by decide +kernel)), ⟨by decide +kernel, by decide +kernel⟩, by decide +kernel, by decide⟩
theorem st_In_bitCount : Cond.static y_In_bitCount ∈ lw_tbl := (List.mem_of_getElem? (i := 421) (by decide +kernel))
noncomputable def qp_In_bitCount : JP := (jb_rt (jx_run [(2, 0, 0), (2, 0, 0), (0, 0, 1), (21, 0, 0), (0, 0, 1431655765), (16, 0, 0), (11, 0, 0), (5, 0, 0), (2, 0, 0), (0, 0, 858993459), (16, 0, 0), (2, 0, 0), (0, 0, 2), (21, 0, 0), (0, 0, 858993459), (16, 0, 0), (10, 0, 0), (5, 0, 0), (2, 0, 0), (2, 0, 0), (0, 0, 4), (21, 0, 0), (10, 0, 0), (0, 0, 252645135), (16, 0, 0), (5, 0, 0), (2, 0, 0), (2, 0, 0), (0, 0, 8), (21, 0, 0), (10, 0, 0), (5, 0, 0), (2, 0, 0), (2, 0, 0), (0, 0, 16), (21, 0, 0), (10, 0, 0), (5, 0, 0), (2, 0, 0), (0, 0, 63), (16, 0, 0)]) 1)
noncomputable def q_In_bitCount : JF := jf_of qp_In_bitCount 1
set_option maxRecDepth 20000 in
theorem fr_In_bitCount (G : JG) : JFr G 15 false c_In_bitCount 0 1 (some .int) 0 qp_In_bitCount := (jfr_rt (j := 52) (jsl_run (by decide +kernel)) (by decide +kernel))
theorem se_In_bitCount (G : JG) : JSem G y_In_bitCount c_In_bitCount 1 (some .int) 0 q_In_bitCount := jsem_of (by decide +kernel) rfl (by intro h; cases h) (fr_In_bitCount G)
def y_Ma_max : MethodName := ⟨"java/lang/Math", "max", "(II)I"⟩
abbrev c_Ma_max : ByteArray := prog_24_method_65_code
theorem mt_Ma_max : JMt y_Ma_max c_Ma_max 2 (some .int) 2 := ⟨(List.mem_of_getElem? (i := 685) (by decide +kernel)), (List.mem_of_getElem? (i := 125) (by decide +kernel)), ⟨by decide +kernel, by decide +kernel⟩, by decide +kernel, by decide⟩
theorem st_Ma_max : Cond.static y_Ma_max ∈ lw_tbl := (List.mem_of_getElem? (i := 684) (by decide +kernel))
noncomputable def qp_Ma_max : JP := (jb_sq (jb_sq (jb_sq (jb_if (jx_run [(2, 0, 0), (2, 1, 0)]) 8 9 5) 5 (jb_go (jx_run [(2, 0, 0)]) 10)) 9 (jb_go (jx_run [(2, 1, 0)]) 10)) 10 (jb_rt (jx_run []) 1))
noncomputable def q_Ma_max : JF := jf_of qp_Ma_max 2
set_option maxRecDepth 20000 in
theorem fr_Ma_max (G : JG) : JFr G 14 false c_Ma_max 0 2 (some .int) 0 qp_Ma_max := (jfr_sq (jfr_sq (jfr_sq (jfr_if (j := 2) (jsl_run (by decide +kernel)) (by decide +kernel) (by decide)) (jfr_go (j := 6) (jsl_run (by decide +kernel)) (by decide +kernel) (by decide)) (by decide)) (jfr_go (j := 10) (jsl_run (by decide +kernel)) (by decide +kernel) (by decide)) (by decide)) (jfr_rt (j := 10) (jsl_run (by decide +kernel)) (by decide +kernel)) (by decide))
theorem se_Ma_max (G : JG) : JSem G y_Ma_max c_Ma_max 2 (some .int) 0 q_Ma_max := jsem_of (by decide +kernel) rfl (by intro h; cases h) (fr_Ma_max G)
def y_Lo_bitCount : MethodName := ⟨"java/lang/Long", "bitCount", "(J)I"⟩
abbrev c_Lo_bitCount : ByteArray := prog_23_method_50_code
theorem mt_Lo_bitCount : JMt y_Lo_bitCount c_Lo_bitCount 2 (some .int) 1 := ⟨(List.mem_of_getElem? (i := 1061) (by decide +kernel)), (List.mem_of_getElem? (i := 141) (by decide +kernel)), ⟨by decide +kernel, by decide +kernel⟩, by decide +kernel, by decide⟩
theorem st_Lo_bitCount : Cond.static y_Lo_bitCount ∈ lw_tbl := (List.mem_of_getElem? (i := 1060) (by decide +kernel))
noncomputable def qp_Lo_bitCount : JP := (jb_rt (jx_run [(3, 0, 0), (3, 0, 0), (0, 0, 1), (32, 0, 0), (1, 0, 6148914691236517205), (27, 0, 0), (23, 0, 0), (6, 0, 0), (3, 0, 0), (1, 0, 3689348814741910323), (27, 0, 0), (3, 0, 0), (0, 0, 2), (32, 0, 0), (1, 0, 3689348814741910323), (27, 0, 0), (22, 0, 0), (6, 0, 0), (3, 0, 0), (3, 0, 0), (0, 0, 4), (32, 0, 0), (22, 0, 0), (1, 0, 1085102592571150095), (27, 0, 0), (6, 0, 0), (3, 0, 0), (3, 0, 0), (0, 0, 8), (32, 0, 0), (22, 0, 0), (6, 0, 0), (3, 0, 0), (3, 0, 0), (0, 0, 16), (32, 0, 0), (22, 0, 0), (6, 0, 0), (3, 0, 0), (3, 0, 0), (0, 0, 32), (32, 0, 0), (22, 0, 0), (6, 0, 0), (3, 0, 0), (35, 0, 0), (0, 0, 127), (16, 0, 0)]) 1)
noncomputable def q_Lo_bitCount : JF := jf_of qp_Lo_bitCount 2
set_option maxRecDepth 20000 in
theorem fr_Lo_bitCount (G : JG) : JFr G 16 false c_Lo_bitCount 0 2 (some .int) 0 qp_Lo_bitCount := (jfr_rt (j := 60) (jsl_run (by decide +kernel)) (by decide +kernel))
theorem se_Lo_bitCount (G : JG) : JSem G y_Lo_bitCount c_Lo_bitCount 2 (some .int) 0 q_Lo_bitCount := jsem_of (by decide +kernel) rfl (by intro h; cases h) (fr_Lo_bitCount G)
def y_In_numberOfTrailingZeros : MethodName := ⟨"java/lang/Integer", "numberOfTrailingZeros", "(I)I"⟩
abbrev c_In_numberOfTrailingZeros : ByteArray := prog_22_method_48_code
theorem mt_In_numberOfTrailingZeros : JMt y_In_numberOfTrailingZeros c_In_numberOfTrailingZeros 2 (some .int) 1 := ⟨(List.mem_of_getElem? (i := 1120) (by decide +kernel)), (List.mem_of_getElem? (i := 131) (by decide +kernel)), ⟨by decide +kernel, by decide +kernel⟩, by decide +kernel, by decide⟩
theorem st_In_numberOfTrailingZeros : Cond.static y_In_numberOfTrailingZeros ∈ lw_tbl := (List.mem_of_getElem? (i := 1119) (by decide +kernel))
noncomputable def qp_In_numberOfTrailingZeros : JP := (jb_sq (jb_sq (jb_if (jx_run [(2, 0, 0), (0, 0, -1), (18, 0, 0), (2, 0, 0), (0, 0, 1), (11, 0, 0), (16, 0, 0), (5, 0, 0), (2, 0, 0)]) 4 17 12) 12 (jb_rt (jx_run [(2, 0, 0), (0, 0, 32), (16, 0, 0)]) 1)) 17 (jb_sq (jb_sq (jb_if (jx_run [(0, 0, 1), (5, 1, 0), (2, 0, 0), (0, 0, 65536)]) 11 34 26) 26 (jb_go (jx_run [(8, 1, 16), (2, 0, 0), (0, 0, 16), (21, 0, 0), (5, 0, 0)]) 34)) 34 (jb_sq (jb_sq (jb_if (jx_run [(2, 0, 0), (0, 0, 256)]) 11 49 41) 41 (jb_go (jx_run [(8, 1, 8), (2, 0, 0), (0, 0, 8), (21, 0, 0), (5, 0, 0)]) 49)) 49 (jb_sq (jb_sq (jb_if (jx_run [(2, 0, 0), (0, 0, 16)]) 11 62 55) 55 (jb_go (jx_run [(8, 1, 4), (2, 0, 0), (0, 0, 4), (21, 0, 0), (5, 0, 0)]) 62)) 62 (jb_sq (jb_sq (jb_if (jx_run [(2, 0, 0), (0, 0, 4)]) 11 74 67) 67 (jb_go (jx_run [(8, 1, 2), (2, 0, 0), (0, 0, 2), (21, 0, 0), (5, 0, 0)]) 74)) 74 (jb_rt (jx_run [(2, 1, 0), (2, 0, 0), (0, 0, 1), (21, 0, 0), (10, 0, 0)]) 1))))))
noncomputable def q_In_numberOfTrailingZeros : JF := jf_of qp_In_numberOfTrailingZeros 2
set_option maxRecDepth 20000 in
theorem fr_In_numberOfTrailingZeros (G : JG) : JFr G 15 false c_In_numberOfTrailingZeros 0 2 (some .int) 0 qp_In_numberOfTrailingZeros := (jfr_sq (jfr_sq (jfr_if (j := 9) (jsl_run (by decide +kernel)) (by decide +kernel) (by decide)) (jfr_rt (j := 16) (jsl_run (by decide +kernel)) (by decide +kernel)) (by decide)) (jfr_sq (jfr_sq (jfr_if (j := 23) (jsl_run (by decide +kernel)) (by decide +kernel) (by decide)) (jfr_go (j := 34) (jsl_run (by decide +kernel)) (by decide +kernel) (by decide)) (by decide)) (jfr_sq (jfr_sq (jfr_if (j := 38) (jsl_run (by decide +kernel)) (by decide +kernel) (by decide)) (jfr_go (j := 49) (jsl_run (by decide +kernel)) (by decide +kernel) (by decide)) (by decide)) (jfr_sq (jfr_sq (jfr_if (j := 52) (jsl_run (by decide +kernel)) (by decide +kernel) (by decide)) (jfr_go (j := 62) (jsl_run (by decide +kernel)) (by decide +kernel) (by decide)) (by decide)) (jfr_sq (jfr_sq (jfr_if (j := 64) (jsl_run (by decide +kernel)) (by decide +kernel) (by decide)) (jfr_go (j := 74) (jsl_run (by decide +kernel)) (by decide +kernel) (by decide)) (by decide)) (jfr_rt (j := 79) (jsl_run (by decide +kernel)) (by decide +kernel)) (by decide)) (by decide)) (by decide)) (by decide)) (by decide))
theorem se_In_numberOfTrailingZeros (G : JG) : JSem G y_In_numberOfTrailingZeros c_In_numberOfTrailingZeros 2 (some .int) 0 q_In_numberOfTrailingZeros := jsem_of (by decide +kernel) rfl (by intro h; cases h) (fr_In_numberOfTrailingZeros G)
def y_Lo_numberOfTrailingZeros : MethodName := ⟨"java/lang/Long", "numberOfTrailingZeros", "(J)I"⟩
abbrev c_Lo_numberOfTrailingZeros : ByteArray := prog_23_method_49_code
theorem mt_Lo_numberOfTrailingZeros : JMt y_Lo_numberOfTrailingZeros c_Lo_numberOfTrailingZeros 3 (some .int) 1 := ⟨(List.mem_of_getElem? (i := 1117) (by decide +kernel)), (List.mem_of_getElem? (i := 141) (by decide +kernel)), ⟨by decide +kernel, by decide +kernel⟩, by decide +kernel, by decide⟩
theorem st_Lo_numberOfTrailingZeros : Cond.static y_Lo_numberOfTrailingZeros ∈ lw_tbl := (List.mem_of_getElem? (i := 1116) (by decide +kernel))
noncomputable def qp_Lo_numberOfTrailingZeros : JP := (jb_sq (jb_sq (jb_sq (jb_if (jx_run [(3, 0, 0), (35, 0, 0), (5, 2, 0), (2, 2, 0)]) 1 21 7) 7 (jb_go (jn (jx_run [(0, 0, 32), (3, 0, 0), (0, 0, 32), (32, 0, 0), (35, 0, 0)]) (jn (jx_cs 1 q_In_numberOfTrailingZeros) (jx_run [(10, 0, 0)]))) 25)) 21 (jb_go (jn (jx_run [(2, 2, 0)]) (jx_cs 1 q_In_numberOfTrailingZeros)) 25)) 25 (jb_rt (jx_run []) 1))
noncomputable def q_Lo_numberOfTrailingZeros : JF := jf_of qp_Lo_numberOfTrailingZeros 3
set_option maxRecDepth 20000 in
theorem fr_Lo_numberOfTrailingZeros (G : JG) : JFr G 16 false c_Lo_numberOfTrailingZeros 1 3 (some .int) 0 qp_Lo_numberOfTrailingZeros := (jfr_sq (jfr_sq (jfr_sq (jfr_if (j := 4) (jsl_run (by decide +kernel)) (by decide +kernel) (by decide)) (jfr_go (j := 18) (jsl_n (j := 14) (jsl_run (by decide +kernel)) (jsl_n (j := 17) (jsl_cs (ix := 311) mt_In_numberOfTrailingZeros st_In_numberOfTrailingZeros (se_In_numberOfTrailingZeros _) (by decide) (List.mem_of_getElem? (i := 1118) (by decide +kernel)) (by decide +kernel)) (jsl_run (by decide +kernel)))) (by decide +kernel) (by decide)) (by decide)) (jfr_go (j := 25) (jsl_n (j := 22) (jsl_run (by decide +kernel)) (jsl_cs (ix := 311) mt_In_numberOfTrailingZeros st_In_numberOfTrailingZeros (se_In_numberOfTrailingZeros _) (by decide) (List.mem_of_getElem? (i := 1118) (by decide +kernel)) (by decide +kernel))) (by decide +kernel) (by decide)) (by decide)) (jfr_rt (j := 25) (jsl_run (by decide +kernel)) (by decide +kernel)) (by decide))
theorem se_Lo_numberOfTrailingZeros (G : JG) : JSem G y_Lo_numberOfTrailingZeros c_Lo_numberOfTrailingZeros 3 (some .int) 1 q_Lo_numberOfTrailingZeros := jsem_of (by decide +kernel) rfl (by intro h; cases h) (fr_Lo_numberOfTrailingZeros G)
def y_Sg_isLatin1 : MethodName := ⟨"java/lang/String", "isLatin1", "()Z"⟩
abbrev c_Sg_isLatin1 : ByteArray := prog_27_method_154_code
theorem mt_Sg_isLatin1 : JMt y_Sg_isLatin1 c_Sg_isLatin1 1 (some .boolean) 0 := ⟨(List.mem_of_getElem? (i := 666) (by decide +kernel)), (List.mem_of_getElem? (i := 134) (by decide +kernel)), ⟨by decide +kernel, by decide +kernel⟩, by decide +kernel, by decide⟩
theorem in_Sg_isLatin1 : Cond.instanceMethod y_Sg_isLatin1 ∈ lw_tbl := (List.mem_of_getElem? (i := 664) (by decide +kernel))
theorem sl_Sg_isLatin1 : Cond.selects y_Sg_isLatin1.cls y_Sg_isLatin1 y_Sg_isLatin1 ∈ lw_tbl := (List.mem_of_getElem? (i := 665) (by decide +kernel))
noncomputable def qp_Sg_isLatin1 : JP := (jb_sq (jb_sq (jb_sq (jb_if (jx_run [(0, 0, 1)]) 0 17 6) 6 (jb_sq (jb_if (jx_run [(4, 0, 0), (40, 51, 0)]) 1 17 13) 13 (jb_go (jx_run [(0, 0, 1)]) 18))) 17 (jb_go (jx_run [(0, 0, 0)]) 18)) 18 (jb_rt (jx_run []) 4))
noncomputable def q_Sg_isLatin1 : JF := jf_of qp_Sg_isLatin1 1
set_option maxRecDepth 20000 in
theorem fr_Sg_isLatin1 (G : JG) : JFr G 18 false c_Sg_isLatin1 0 1 (some .boolean) 0 qp_Sg_isLatin1 := (jfr_sq (jfr_sq (jfr_sq (jfr_if (j := 3) (jsl_run (by decide +kernel)) (by decide +kernel) (by decide)) (jfr_sq (jfr_if (j := 10) (jsl_run (by decide +kernel)) (by decide +kernel) (by decide)) (jfr_go (j := 14) (jsl_run (by decide +kernel)) (by decide +kernel) (by decide)) (by decide)) (by decide)) (jfr_go (j := 18) (jsl_run (by decide +kernel)) (by decide +kernel) (by decide)) (by decide)) (jfr_rt (j := 18) (jsl_run (by decide +kernel)) (by decide +kernel)) (by decide))
theorem se_Sg_isLatin1 (G : JG) : JSem G y_Sg_isLatin1 c_Sg_isLatin1 1 (some .boolean) 0 q_Sg_isLatin1 := jsem_of (by decide +kernel) rfl (by intro h; cases h) (fr_Sg_isLatin1 G)
def y_Sg_coder : MethodName := ⟨"java/lang/String", "coder", "()B"⟩
abbrev c_Sg_coder : ByteArray := prog_27_method_152_code
theorem mt_Sg_coder : JMt y_Sg_coder c_Sg_coder 1 (some .byte) 0 := ⟨(List.mem_of_getElem? (i := 676) (by decide +kernel)), (List.mem_of_getElem? (i := 134) (by decide +kernel)), ⟨by decide +kernel, by decide +kernel⟩, by decide +kernel, by decide⟩
theorem in_Sg_coder : Cond.instanceMethod y_Sg_coder ∈ lw_tbl := (List.mem_of_getElem? (i := 674) (by decide +kernel))
theorem sl_Sg_coder : Cond.selects y_Sg_coder.cls y_Sg_coder y_Sg_coder ∈ lw_tbl := (List.mem_of_getElem? (i := 675) (by decide +kernel))
noncomputable def qp_Sg_coder : JP := (jb_sq (jb_sq (jb_sq (jb_if (jx_run [(0, 0, 1)]) 0 13 6) 6 (jb_go (jx_run [(4, 0, 0), (40, 51, 0)]) 14)) 13 (jb_go (jx_run [(0, 0, 1)]) 14)) 14 (jb_rt (jx_run []) 5))
noncomputable def q_Sg_coder : JF := jf_of qp_Sg_coder 1
set_option maxRecDepth 20000 in
theorem fr_Sg_coder (G : JG) : JFr G 18 false c_Sg_coder 0 1 (some .byte) 0 qp_Sg_coder := (jfr_sq (jfr_sq (jfr_sq (jfr_if (j := 3) (jsl_run (by decide +kernel)) (by decide +kernel) (by decide)) (jfr_go (j := 10) (jsl_run (by decide +kernel)) (by decide +kernel) (by decide)) (by decide)) (jfr_go (j := 14) (jsl_run (by decide +kernel)) (by decide +kernel) (by decide)) (by decide)) (jfr_rt (j := 14) (jsl_run (by decide +kernel)) (by decide +kernel)) (by decide))
theorem se_Sg_coder (G : JG) : JSem G y_Sg_coder c_Sg_coder 1 (some .byte) 0 q_Sg_coder := jsem_of (by decide +kernel) rfl (by intro h; cases h) (fr_Sg_coder G)
def y_Sg_length : MethodName := ⟨"java/lang/String", "length", "()I"⟩
abbrev c_Sg_length : ByteArray := prog_27_method_54_code
theorem mt_Sg_length : JMt y_Sg_length c_Sg_length 1 (some .int) 0 := ⟨(List.mem_of_getElem? (i := 672) (by decide +kernel)), (List.mem_of_getElem? (i := 134) (by decide +kernel)), ⟨by decide +kernel, by decide +kernel⟩, by decide +kernel, by decide⟩
theorem in_Sg_length : Cond.instanceMethod y_Sg_length ∈ lw_tbl := (List.mem_of_getElem? (i := 670) (by decide +kernel))
theorem sl_Sg_length : Cond.selects y_Sg_length.cls y_Sg_length y_Sg_length ∈ lw_tbl := (List.mem_of_getElem? (i := 671) (by decide +kernel))
noncomputable def qp_Sg_length : JP := (jb_rt (jn (jx_run [(4, 0, 0), (42, 51, 1), (60, 0, 0), (4, 0, 0)]) (jn (jx_cv 1 51 q_Sg_coder) (jx_run [(20, 0, 0)]))) 1)
noncomputable def q_Sg_length : JF := jf_of qp_Sg_length 1
set_option maxRecDepth 20000 in
theorem fr_Sg_length (G : JG) : JFr G 18 false c_Sg_length 1 1 (some .int) 0 qp_Sg_length := (jfr_rt (j := 10) (jsl_n (j := 6) (jsl_run (by decide +kernel)) (jsl_n (j := 9) (jsl_cvs (ix := 335) mt_Sg_coder in_Sg_coder sl_Sg_coder rfl (se_Sg_coder _) (by decide) (List.mem_of_getElem? (i := 673) (by decide +kernel)) (by decide +kernel)) (jsl_run (by decide +kernel)))) (by decide +kernel))
theorem se_Sg_length (G : JG) : JSem G y_Sg_length c_Sg_length 1 (some .int) 1 q_Sg_length := jsem_of (by decide +kernel) rfl (by intro h; cases h) (fr_Sg_length G)
def y_S1_canEncode : MethodName := ⟨"java/lang/StringLatin1", "canEncode", "(I)Z"⟩
abbrev c_S1_canEncode : ByteArray := prog_28_method_4_code
theorem mt_S1_canEncode : JMt y_S1_canEncode c_S1_canEncode 1 (some .boolean) 1 := ⟨(List.mem_of_getElem? (i := 682) (by decide +kernel)), (List.mem_of_getElem? (i := 135) (by decide +kernel)), ⟨by decide +kernel, by decide +kernel⟩, by decide +kernel, by decide⟩
theorem st_S1_canEncode : Cond.static y_S1_canEncode ∈ lw_tbl := (List.mem_of_getElem? (i := 681) (by decide +kernel))
noncomputable def qp_S1_canEncode : JP := (jb_sq (jb_sq (jb_sq (jb_if (jx_run [(2, 0, 0)]) 2 15 4) 4 (jb_sq (jb_if (jx_run [(2, 0, 0), (0, 0, 255)]) 10 15 11) 11 (jb_go (jx_run [(0, 0, 1)]) 16))) 15 (jb_go (jx_run [(0, 0, 0)]) 16)) 16 (jb_rt (jx_run []) 4))
noncomputable def q_S1_canEncode : JF := jf_of qp_S1_canEncode 1
set_option maxRecDepth 20000 in
theorem fr_S1_canEncode (G : JG) : JFr G 19 false c_S1_canEncode 0 1 (some .boolean) 0 qp_S1_canEncode := (jfr_sq (jfr_sq (jfr_sq (jfr_if (j := 1) (jsl_run (by decide +kernel)) (by decide +kernel) (by decide)) (jfr_sq (jfr_if (j := 8) (jsl_run (by decide +kernel)) (by decide +kernel) (by decide)) (jfr_go (j := 12) (jsl_run (by decide +kernel)) (by decide +kernel) (by decide)) (by decide)) (by decide)) (jfr_go (j := 16) (jsl_run (by decide +kernel)) (by decide +kernel) (by decide)) (by decide)) (jfr_rt (j := 16) (jsl_run (by decide +kernel)) (by decide +kernel)) (by decide))
theorem se_S1_canEncode (G : JG) : JSem G y_S1_canEncode c_S1_canEncode 1 (some .boolean) 0 q_S1_canEncode := jsem_of (by decide +kernel) rfl (by intro h; cases h) (fr_S1_canEncode G)
def y_S1_indexOfChar : MethodName := ⟨"java/lang/StringLatin1", "indexOfChar", "([BIII)I"⟩
abbrev c_S1_indexOfChar : ByteArray := prog_28_method_23_code
theorem mt_S1_indexOfChar : JMt y_S1_indexOfChar c_S1_indexOfChar 6 (some .int) 4 := ⟨(List.mem_of_getElem? (i := 689) (by decide +kernel)), (List.mem_of_getElem? (i := 135) (by decide +kernel)), ⟨by decide +kernel, by decide +kernel⟩, by decide +kernel, by decide⟩
theorem st_S1_indexOfChar : Cond.static y_S1_indexOfChar ∈ lw_tbl := (List.mem_of_getElem? (i := 688) (by decide +kernel))
noncomputable def qp_S1_indexOfChar : JP := (jb_sq (jb_go (jx_run [(2, 1, 0), (36, 0, 0), (5, 4, 0), (2, 2, 0), (5, 5, 0)]) 7) 7 (jb_sq (jb_lp 7 (jb_sq (jb_if (jx_run [(2, 5, 0), (2, 3, 0)]) 9 31 13) 13 (jb_sq (jb_sq (jb_if (jx_run [(4, 0, 0), (2, 5, 0), (52, 0, 0), (2, 4, 0)]) 7 25 22) 22 (jb_rt (jx_run [(2, 5, 0)]) 1)) 25 (jb_go (jx_run [(8, 5, 1)]) 7)))) 31 (jb_rt (jx_run [(0, 0, -1)]) 1)))
noncomputable def q_S1_indexOfChar : JF := jf_of qp_S1_indexOfChar 6
set_option maxRecDepth 20000 in
theorem fr_S1_indexOfChar (G : JG) : JFr G 19 false c_S1_indexOfChar 0 6 (some .int) 0 qp_S1_indexOfChar := (jfr_sq (jfr_go (j := 7) (jsl_run (by decide +kernel)) (by decide +kernel) (by decide)) (jfr_sq (jfr_lp (jfr_sq (jfr_if (j := 10) (jsl_run (by decide +kernel)) (by decide +kernel) (by decide)) (jfr_sq (jfr_sq (jfr_if (j := 19) (jsl_run (by decide +kernel)) (by decide +kernel) (by decide)) (jfr_rt (j := 24) (jsl_run (by decide +kernel)) (by decide +kernel)) (by decide)) (jfr_go (j := 28) (jsl_run (by decide +kernel)) (by decide +kernel) (by decide)) (by decide)) (by decide)) (by decide)) (jfr_rt (j := 32) (jsl_run (by decide +kernel)) (by decide +kernel)) (by decide)) (by decide))
theorem se_S1_indexOfChar (G : JG) : JSem G y_S1_indexOfChar c_S1_indexOfChar 6 (some .int) 0 q_S1_indexOfChar := jsem_of (by decide +kernel) rfl (by intro h; cases h) (fr_S1_indexOfChar G)
def y_S1_indexOf : MethodName := ⟨"java/lang/StringLatin1", "indexOf", "([BIII)I"⟩
abbrev c_S1_indexOf : ByteArray := prog_28_method_22_code
theorem mt_S1_indexOf : JMt y_S1_indexOf c_S1_indexOf 4 (some .int) 4 := ⟨(List.mem_of_getElem? (i := 679) (by decide +kernel)), (List.mem_of_getElem? (i := 135) (by decide +kernel)), ⟨by decide +kernel, by decide +kernel⟩, by decide +kernel, by decide⟩
theorem st_S1_indexOf : Cond.static y_S1_indexOf ∈ lw_tbl := (List.mem_of_getElem? (i := 678) (by decide +kernel))
noncomputable def qp_S1_indexOf : JP := (jb_sq (jb_sq (jb_if (jn (jx_run [(2, 1, 0)]) (jx_cs 1 q_S1_canEncode)) 1 9 7) 7 (jb_rt (jx_run [(0, 0, -1)]) 1)) 9 (jb_sq (jb_sq (jb_if (jn (jx_run [(2, 2, 0), (0, 0, 0)]) (jn (jx_cs 2 q_Ma_max) (jn (jx_run [(5, 2, 0), (2, 3, 0), (4, 0, 0), (60, 0, 0)]) (jn (jx_cs 2 q_Ma_min) (jx_run [(5, 3, 0), (2, 2, 0), (2, 3, 0)]))))) 8 29 27) 27 (jb_rt (jx_run [(0, 0, -1)]) 1)) 29 (jb_rt (jn (jx_run [(4, 0, 0), (2, 1, 0), (2, 2, 0), (2, 3, 0)]) (jx_cs 4 q_S1_indexOfChar)) 1)))
noncomputable def q_S1_indexOf : JF := jf_of qp_S1_indexOf 4
set_option maxRecDepth 20000 in
theorem fr_S1_indexOf (G : JG) : JFr G 19 false c_S1_indexOf 1 4 (some .int) 0 qp_S1_indexOf := (jfr_sq (jfr_sq (jfr_if (j := 4) (jsl_n (j := 1) (jsl_run (by decide +kernel)) (jsl_cs (ix := 88) mt_S1_canEncode st_S1_canEncode (se_S1_canEncode _) (by decide) (List.mem_of_getElem? (i := 680) (by decide +kernel)) (by decide +kernel))) (by decide +kernel) (by decide)) (jfr_rt (j := 8) (jsl_run (by decide +kernel)) (by decide +kernel)) (by decide)) (jfr_sq (jfr_sq (jfr_if (j := 24) (jsl_n (j := 11) (jsl_run (by decide +kernel)) (jsl_n (j := 14) (jsl_cs (ix := 92) mt_Ma_max st_Ma_max (se_Ma_max _) (by decide) (List.mem_of_getElem? (i := 683) (by decide +kernel)) (by decide +kernel)) (jsl_n (j := 18) (jsl_run (by decide +kernel)) (jsl_n (j := 21) (jsl_cs (ix := 38) mt_Ma_min st_Ma_min (se_Ma_min _) (by decide) (List.mem_of_getElem? (i := 686) (by decide +kernel)) (by decide +kernel)) (jsl_run (by decide +kernel)))))) (by decide +kernel) (by decide)) (jfr_rt (j := 28) (jsl_run (by decide +kernel)) (by decide +kernel)) (by decide)) (jfr_rt (j := 36) (jsl_n (j := 33) (jsl_run (by decide +kernel)) (jsl_cs (ix := 95) mt_S1_indexOfChar st_S1_indexOfChar (se_S1_indexOfChar _) (by decide) (List.mem_of_getElem? (i := 687) (by decide +kernel)) (by decide +kernel))) (by decide +kernel)) (by decide)) (by decide))
theorem se_S1_indexOf (G : JG) : JSem G y_S1_indexOf c_S1_indexOf 4 (some .int) 1 q_S1_indexOf := jsem_of (by decide +kernel) rfl (by intro h; cases h) (fr_S1_indexOf G)
def y_Sg_indexOf2 : MethodName := ⟨"java/lang/String", "indexOf", "(II)I"⟩
abbrev c_Sg_indexOf2 : ByteArray := prog_27_method_80_code
theorem mt_Sg_indexOf2 : JMt y_Sg_indexOf2 c_Sg_indexOf2 3 (some .int) 2 := ⟨(List.mem_of_getElem? (i := 662) (by decide +kernel)), (List.mem_of_getElem? (i := 134) (by decide +kernel)), ⟨by decide +kernel, by decide +kernel⟩, by decide +kernel, by decide⟩
theorem in_Sg_indexOf2 : Cond.instanceMethod y_Sg_indexOf2 ∈ lw_tbl := (List.mem_of_getElem? (i := 660) (by decide +kernel))
theorem sl_Sg_indexOf2 : Cond.selects y_Sg_indexOf2.cls y_Sg_indexOf2 y_Sg_indexOf2 ∈ lw_tbl := (List.mem_of_getElem? (i := 661) (by decide +kernel))
noncomputable def qp_Sg_indexOf2 : JP := (jb_sq (jb_sq (jb_sq (jb_if (jn (jx_run [(4, 0, 0)]) (jx_cv 1 51 q_Sg_isLatin1)) 0 23 7) 7 (jb_go (jn (jx_run [(4, 0, 0), (42, 51, 1), (2, 1, 0), (2, 2, 0), (4, 0, 0)]) (jn (jx_cv 1 51 q_Sg_length) (jx_cs 4 q_S1_indexOf))) 36)) 23 (jb_go (jn (jx_run [(4, 0, 0), (42, 51, 1), (2, 1, 0), (2, 2, 0), (4, 0, 0)]) (jn (jx_cv 1 51 q_Sg_length) (jx_cs 4 jf_no))) 36)) 36 (jb_rt (jx_run []) 1))
noncomputable def q_Sg_indexOf2 : JF := jf_of qp_Sg_indexOf2 3
set_option maxRecDepth 20000 in
theorem fr_Sg_indexOf2 (G : JG) : JFr G 18 false c_Sg_indexOf2 2 3 (some .int) 0 qp_Sg_indexOf2 := (jfr_sq (jfr_sq (jfr_sq (jfr_if (j := 4) (jsl_n (j := 1) (jsl_run (by decide +kernel)) (jsl_cvs (ix := 492) mt_Sg_isLatin1 in_Sg_isLatin1 sl_Sg_isLatin1 rfl (se_Sg_isLatin1 _) (by decide) (List.mem_of_getElem? (i := 663) (by decide +kernel)) (by decide +kernel))) (by decide +kernel) (by decide)) (jfr_go (j := 20) (jsl_n (j := 14) (jsl_run (by decide +kernel)) (jsl_n (j := 17) (jsl_cvs (ix := 505) mt_Sg_length in_Sg_length sl_Sg_length rfl (se_Sg_length _) (by decide) (List.mem_of_getElem? (i := 669) (by decide +kernel)) (by decide +kernel)) (jsl_cs (ix := 637) mt_S1_indexOf st_S1_indexOf (se_S1_indexOf _) (by decide) (List.mem_of_getElem? (i := 677) (by decide +kernel)) (by decide +kernel)))) (by decide +kernel) (by decide)) (by decide)) (jfr_go (j := 36) (jsl_n (j := 30) (jsl_run (by decide +kernel)) (jsl_n (j := 33) (jsl_cvs (ix := 505) mt_Sg_length in_Sg_length sl_Sg_length rfl (se_Sg_length _) (by decide) (List.mem_of_getElem? (i := 669) (by decide +kernel)) (by decide +kernel)) (jsl_cs (ix := 640) mt_S6_indexOf st_S6_indexOf (jsem_no _ _ _ _ 0) (by decide) (List.mem_of_getElem? (i := 690) (by decide +kernel)) (by decide +kernel)))) (by decide +kernel) (by decide)) (by decide)) (jfr_rt (j := 36) (jsl_run (by decide +kernel)) (by decide +kernel)) (by decide))
theorem se_Sg_indexOf2 (G : JG) : JSem G y_Sg_indexOf2 c_Sg_indexOf2 3 (some .int) 2 q_Sg_indexOf2 := jsem_of (by decide +kernel) rfl (by intro h; cases h) (fr_Sg_indexOf2 G)
def y_Sg_indexOf1 : MethodName := ⟨"java/lang/String", "indexOf", "(I)I"⟩
abbrev c_Sg_indexOf1 : ByteArray := prog_27_method_79_code
theorem mt_Sg_indexOf1 : JMt y_Sg_indexOf1 c_Sg_indexOf1 2 (some .int) 1 := ⟨(List.mem_of_getElem? (i := 658) (by decide +kernel)), (List.mem_of_getElem? (i := 134) (by decide +kernel)), ⟨by decide +kernel, by decide +kernel⟩, by decide +kernel, by decide⟩
theorem in_Sg_indexOf1 : Cond.instanceMethod y_Sg_indexOf1 ∈ lw_tbl := (List.mem_of_getElem? (i := 656) (by decide +kernel))
theorem sl_Sg_indexOf1 : Cond.selects y_Sg_indexOf1.cls y_Sg_indexOf1 y_Sg_indexOf1 ∈ lw_tbl := (List.mem_of_getElem? (i := 657) (by decide +kernel))
noncomputable def qp_Sg_indexOf1 : JP := (jb_rt (jn (jx_run [(4, 0, 0), (2, 1, 0), (0, 0, 0)]) (jx_cv 3 51 q_Sg_indexOf2)) 1)
noncomputable def q_Sg_indexOf1 : JF := jf_of qp_Sg_indexOf1 2
set_option maxRecDepth 20000 in
theorem fr_Sg_indexOf1 (G : JG) : JFr G 18 false c_Sg_indexOf1 3 2 (some .int) 0 qp_Sg_indexOf1 := (jfr_rt (j := 6) (jsl_n (j := 3) (jsl_run (by decide +kernel)) (jsl_cvs (ix := 633) mt_Sg_indexOf2 in_Sg_indexOf2 sl_Sg_indexOf2 rfl (se_Sg_indexOf2 _) (by decide) (List.mem_of_getElem? (i := 659) (by decide +kernel)) (by decide +kernel))) (by decide +kernel))
theorem se_Sg_indexOf1 (G : JG) : JSem G y_Sg_indexOf1 c_Sg_indexOf1 2 (some .int) 3 q_Sg_indexOf1 := jsem_of (by decide +kernel) rfl (by intro h; cases h) (fr_Sg_indexOf1 G)
def y_Ma_floorMod : MethodName := ⟨"java/lang/Math", "floorMod", "(II)I"⟩
abbrev c_Ma_floorMod : ByteArray := prog_24_method_50_code
theorem mt_Ma_floorMod : JMt y_Ma_floorMod c_Ma_floorMod 3 (some .int) 2 := ⟨(List.mem_of_getElem? (i := 938) (by decide +kernel)), (List.mem_of_getElem? (i := 125) (by decide +kernel)), ⟨by decide +kernel, by decide +kernel⟩, by decide +kernel, by decide⟩
theorem st_Ma_floorMod : Cond.static y_Ma_floorMod ∈ lw_tbl := (List.mem_of_getElem? (i := 937) (by decide +kernel))
noncomputable def qp_Ma_floorMod : JP := (jb_sq (jb_sq (jb_if (jx_run [(2, 0, 0), (2, 1, 0), (14, 0, 0), (5, 2, 0), (2, 0, 0), (2, 1, 0), (18, 0, 0)]) 3 18 10) 10 (jb_sq (jb_if (jx_run [(2, 2, 0)]) 0 18 14) 14 (jb_rt (jx_run [(2, 2, 0), (2, 1, 0), (10, 0, 0)]) 1))) 18 (jb_rt (jx_run [(2, 2, 0)]) 1))
noncomputable def q_Ma_floorMod : JF := jf_of qp_Ma_floorMod 3
set_option maxRecDepth 20000 in
theorem fr_Ma_floorMod (G : JG) : JFr G 14 false c_Ma_floorMod 0 3 (some .int) 0 qp_Ma_floorMod := (jfr_sq (jfr_sq (jfr_if (j := 7) (jsl_run (by decide +kernel)) (by decide +kernel) (by decide)) (jfr_sq (jfr_if (j := 11) (jsl_run (by decide +kernel)) (by decide +kernel) (by decide)) (jfr_rt (j := 17) (jsl_run (by decide +kernel)) (by decide +kernel)) (by decide)) (by decide)) (jfr_rt (j := 19) (jsl_run (by decide +kernel)) (by decide +kernel)) (by decide))
theorem se_Ma_floorMod (G : JG) : JSem G y_Ma_floorMod c_Ma_floorMod 3 (some .int) 0 q_Ma_floorMod := jsem_of (by decide +kernel) rfl (by intro h; cases h) (fr_Ma_floorMod G)
def y_En_ordinal : MethodName := ⟨"java/lang/Enum", "ordinal", "()I"⟩
abbrev c_En_ordinal : ByteArray := prog_20_method_2_code
theorem mt_En_ordinal : JMt y_En_ordinal c_En_ordinal 1 (some .int) 0 := ⟨(List.mem_of_getElem? (i := 754) (by decide +kernel)), (List.mem_of_getElem? (i := 119) (by decide +kernel)), ⟨by decide +kernel, by decide +kernel⟩, by decide +kernel, by decide⟩
theorem in_En_ordinal : Cond.instanceMethod y_En_ordinal ∈ lw_tbl := (List.mem_of_getElem? (i := 753) (by decide +kernel))
noncomputable def qp_En_ordinal : JP := (jb_rt (jx_run [(4, 0, 0), (40, 50, 0)]) 1)
noncomputable def q_En_ordinal : JF := jf_of qp_En_ordinal 1
set_option maxRecDepth 20000 in
theorem fr_En_ordinal (G : JG) : JFr G 17 false c_En_ordinal 0 1 (some .int) 0 qp_En_ordinal := (jfr_rt (j := 4) (jsl_run (by decide +kernel)) (by decide +kernel))
theorem se_En_ordinal (G : JG) : JSem G y_En_ordinal c_En_ordinal 1 (some .int) 0 q_En_ordinal := jsem_of (by decide +kernel) rfl (by intro h; cases h) (fr_En_ordinal G)
