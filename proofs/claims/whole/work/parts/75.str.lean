/-! ===== the words of the JDK's methods that isName calls ===== -/
theorem ws_1_10 : Cond.initialized RJ0 ∈ WT := wtm (tb1 (List.mem_of_getElem? (i := 10) rfl)) rfl
theorem ws_1_11 : Cond.initialized RJ1 ∈ WT := wtm (tb1 (List.mem_of_getElem? (i := 11) rfl)) rfl
theorem ws_1_12 : Cond.initialized RJ3 ∈ WT := wtm (tb1 (List.mem_of_getElem? (i := 12) rfl)) rfl
theorem ws_2_135 : Cond.methodLink RX5 44 yJ0_length_8abf5 ∈ WT := wtm (tb2 (List.mem_of_getElem? (i := 135) rfl)) rfl
theorem ws_2_136 : Cond.instanceMethod yJ0_length_8abf5 ∈ WT := wtm (tb2 (List.mem_of_getElem? (i := 136) rfl)) rfl
theorem ws_2_137 : Cond.selects RJ0 yJ0_length_8abf5 yJ0_length_8abf5 ∈ WT := wtm (tb2 (List.mem_of_getElem? (i := 137) rfl)) rfl
theorem ws_2_138 : Cond.code yJ0_length_8abf5 cJ0_length_8abf5 1 (some .int) ∈ WT := wtm (tb2 (List.mem_of_getElem? (i := 138) rfl)) rfl
theorem ws_2_139 : Cond.methodLink RJ0 335 yJ0_coder_7d493 ∈ WT := wtm (tb2 (List.mem_of_getElem? (i := 139) rfl)) rfl
theorem ws_2_140 : Cond.instanceMethod yJ0_coder_7d493 ∈ WT := wtm (tb2 (List.mem_of_getElem? (i := 140) rfl)) rfl
theorem ws_2_141 : Cond.selects RJ0 yJ0_coder_7d493 yJ0_coder_7d493 ∈ WT := wtm (tb2 (List.mem_of_getElem? (i := 141) rfl)) rfl
theorem ws_2_142 : Cond.code yJ0_coder_7d493 cJ0_coder_7d493 1 (some .byte) ∈ WT := wtm (tb2 (List.mem_of_getElem? (i := 142) rfl)) rfl
theorem ws_2_143 : Cond.fieldLink RJ0 38 "java/lang/String" "COMPACT_STRINGS" "Z" ∈ WT := wtm (tb2 (List.mem_of_getElem? (i := 143) rfl)) rfl
theorem ws_2_145 : Cond.methodLink RX5 49 yJ0_charAt_5068e ∈ WT := wtm (tb2 (List.mem_of_getElem? (i := 145) rfl)) rfl
theorem ws_2_146 : Cond.instanceMethod yJ0_charAt_5068e ∈ WT := wtm (tb2 (List.mem_of_getElem? (i := 146) rfl)) rfl
theorem ws_2_147 : Cond.selects RJ0 yJ0_charAt_5068e yJ0_charAt_5068e ∈ WT := wtm (tb2 (List.mem_of_getElem? (i := 147) rfl)) rfl
theorem ws_2_148 : Cond.code yJ0_charAt_5068e cJ0_charAt_5068e 2 (some .char) ∈ WT := wtm (tb2 (List.mem_of_getElem? (i := 148) rfl)) rfl
theorem ws_2_149 : Cond.methodLink RJ0 492 yJ0_isLatin1_aae02 ∈ WT := wtm (tb2 (List.mem_of_getElem? (i := 149) rfl)) rfl
theorem ws_2_150 : Cond.instanceMethod yJ0_isLatin1_aae02 ∈ WT := wtm (tb2 (List.mem_of_getElem? (i := 150) rfl)) rfl
theorem ws_2_151 : Cond.selects RJ0 yJ0_isLatin1_aae02 yJ0_isLatin1_aae02 ∈ WT := wtm (tb2 (List.mem_of_getElem? (i := 151) rfl)) rfl
theorem ws_2_152 : Cond.code yJ0_isLatin1_aae02 cJ0_isLatin1_aae02 1 (some .boolean) ∈ WT := wtm (tb2 (List.mem_of_getElem? (i := 152) rfl)) rfl
theorem ws_2_153 : Cond.methodLink RJ0 495 yJ1_charAt_3b067 ∈ WT := wtm (tb2 (List.mem_of_getElem? (i := 153) rfl)) rfl
theorem ws_2_154 : Cond.static yJ1_charAt_3b067 ∈ WT := wtm (tb2 (List.mem_of_getElem? (i := 154) rfl)) rfl
theorem ws_2_155 : Cond.code yJ1_charAt_3b067 cJ1_charAt_3b067 2 (some .char) ∈ WT := wtm (tb2 (List.mem_of_getElem? (i := 155) rfl)) rfl
theorem ws_2_156 : Cond.methodLink RJ1 9 yJ0_checkIndex_df160 ∈ WT := wtm (tb2 (List.mem_of_getElem? (i := 156) rfl)) rfl
theorem ws_2_157 : Cond.static yJ0_checkIndex_df160 ∈ WT := wtm (tb2 (List.mem_of_getElem? (i := 157) rfl)) rfl
theorem ws_2_158 : Cond.code yJ0_checkIndex_df160 cJ0_checkIndex_df160 2 none ∈ WT := wtm (tb2 (List.mem_of_getElem? (i := 158) rfl)) rfl
theorem ws_2_159 : Cond.fieldLink RJ0 1053 "jdk/internal/util/Preconditions" "SIOOBE_FORMATTER" "Ljava/util/function/BiFunction;" ∈ WT := wtm (tb2 (List.mem_of_getElem? (i := 159) rfl)) rfl
theorem ws_2_161 : Cond.methodLink RJ0 1059 yJ3_checkIndex_8e157 ∈ WT := wtm (tb2 (List.mem_of_getElem? (i := 161) rfl)) rfl
theorem ws_2_162 : Cond.static yJ3_checkIndex_8e157 ∈ WT := wtm (tb2 (List.mem_of_getElem? (i := 162) rfl)) rfl
theorem ws_2_163 : Cond.code yJ3_checkIndex_8e157 cJ3_checkIndex_8e157 3 (some .int) ∈ WT := wtm (tb2 (List.mem_of_getElem? (i := 163) rfl)) rfl
theorem ws_6_56 : Cond.fieldLink RJ0 9 "java/lang/String" "value" "[B" ∈ WT := wtm (tb6 (List.mem_of_getElem? (i := 56) rfl)) rfl
theorem ws_6_57 : Cond.fieldLink RJ0 15 "java/lang/String" "coder" "B" ∈ WT := wtm (tb6 (List.mem_of_getElem? (i := 57) rfl)) rfl
def MJ0_length_8abf5 : MI := (yJ0_length_8abf5, cJ0_length_8abf5, 1, (some .int), 1)
theorem kJ0_length_8abf5 : MOK MJ0_length_8abf5 0 := ⟨ws_2_138, ws_1_10, ⟨show RJ0 ≠ _ by decide +kernel, show RJ0 ≠ _ by decide +kernel, show Option.map (fun d => d.parameters.length) (parseMethodDescriptor (yJ0_length_8abf5).desc) = some 0 by decide +kernel⟩, leb rfl⟩
theorem sJ0_length_8abf5 : MOV MJ0_length_8abf5 := ⟨ws_2_136, ws_2_137⟩
def MJ0_coder_7d493 : MI := (yJ0_coder_7d493, cJ0_coder_7d493, 1, (some .byte), 0)
theorem kJ0_coder_7d493 : MOK MJ0_coder_7d493 0 := ⟨ws_2_142, ws_1_10, ⟨show RJ0 ≠ _ by decide +kernel, show RJ0 ≠ _ by decide +kernel, show Option.map (fun d => d.parameters.length) (parseMethodDescriptor (yJ0_coder_7d493).desc) = some 0 by decide +kernel⟩, leb rfl⟩
theorem sJ0_coder_7d493 : MOV MJ0_coder_7d493 := ⟨ws_2_140, ws_2_141⟩
def MJ0_charAt_5068e : MI := (yJ0_charAt_5068e, cJ0_charAt_5068e, 2, (some .char), 3)
theorem kJ0_charAt_5068e : MOK MJ0_charAt_5068e 1 := ⟨ws_2_148, ws_1_10, ⟨show RJ0 ≠ _ by decide +kernel, show RJ0 ≠ _ by decide +kernel, show Option.map (fun d => d.parameters.length) (parseMethodDescriptor (yJ0_charAt_5068e).desc) = some 1 by decide +kernel⟩, leb rfl⟩
theorem sJ0_charAt_5068e : MOV MJ0_charAt_5068e := ⟨ws_2_146, ws_2_147⟩
def MJ0_isLatin1_aae02 : MI := (yJ0_isLatin1_aae02, cJ0_isLatin1_aae02, 1, (some .boolean), 0)
theorem kJ0_isLatin1_aae02 : MOK MJ0_isLatin1_aae02 0 := ⟨ws_2_152, ws_1_10, ⟨show RJ0 ≠ _ by decide +kernel, show RJ0 ≠ _ by decide +kernel, show Option.map (fun d => d.parameters.length) (parseMethodDescriptor (yJ0_isLatin1_aae02).desc) = some 0 by decide +kernel⟩, leb rfl⟩
theorem sJ0_isLatin1_aae02 : MOV MJ0_isLatin1_aae02 := ⟨ws_2_150, ws_2_151⟩
def MJ1_charAt_3b067 : MI := (yJ1_charAt_3b067, cJ1_charAt_3b067, 2, (some .char), 2)
theorem kJ1_charAt_3b067 : MOK MJ1_charAt_3b067 2 := ⟨ws_2_155, ws_1_11, ⟨show RJ1 ≠ _ by decide +kernel, show RJ1 ≠ _ by decide +kernel, show Option.map (fun d => d.parameters.length) (parseMethodDescriptor (yJ1_charAt_3b067).desc) = some 2 by decide +kernel⟩, leb rfl⟩
theorem sJ1_charAt_3b067 : Cond.static (mY MJ1_charAt_3b067) ∈ WT := ws_2_154
def MJ0_checkIndex_df160 : MI := (yJ0_checkIndex_df160, cJ0_checkIndex_df160, 2, none, 1)
theorem kJ0_checkIndex_df160 : MOK MJ0_checkIndex_df160 2 := ⟨ws_2_158, ws_1_10, ⟨show RJ0 ≠ _ by decide +kernel, show RJ0 ≠ _ by decide +kernel, show Option.map (fun d => d.parameters.length) (parseMethodDescriptor (yJ0_checkIndex_df160).desc) = some 2 by decide +kernel⟩, leb rfl⟩
theorem sJ0_checkIndex_df160 : Cond.static (mY MJ0_checkIndex_df160) ∈ WT := ws_2_157
def MJ3_checkIndex_8e157 : MI := (yJ3_checkIndex_8e157, cJ3_checkIndex_8e157, 3, (some .int), 0)
theorem kJ3_checkIndex_8e157 : MOK MJ3_checkIndex_8e157 3 := ⟨ws_2_163, ws_1_12, ⟨show RJ3 ≠ _ by decide +kernel, show RJ3 ≠ _ by decide +kernel, show Option.map (fun d => d.parameters.length) (parseMethodDescriptor (yJ3_checkIndex_8e157).desc) = some 3 by decide +kernel⟩, leb rfl⟩
theorem sJ3_checkIndex_8e157 : Cond.static (mY MJ3_checkIndex_8e157) ∈ WT := ws_2_162
theorem plJ0 : plainName RJ0 = true ∧ plainName RJ1 = true ∧ plainName RJ3 = true := by decide +kernel
