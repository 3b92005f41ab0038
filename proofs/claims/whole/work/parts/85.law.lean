theorem wl_13 : Cond.methodLink (mY MLaw).cls 13 (mY MX7_feed) ∈ WT := wtm (tb2 (List.mem_of_getElem? (i := 43) rfl)) rfl
theorem wl_17 : Cond.methodLink (mY MLaw).cls 17 (mY MX8_feed) ∈ WT := wtm (tb4 (List.mem_of_getElem? (i := 205) rfl)) rfl
theorem wl_18 : Cond.methodLink (mY MLaw).cls 18 (mY MX7_end) ∈ WT := wtm (tb2 (List.mem_of_getElem? (i := 54) rfl)) rfl
theorem wl_21 : Cond.methodLink (mY MLaw).cls 21 (mY MX8_end) ∈ WT := wtm (tb4 (List.mem_of_getElem? (i := 213) rfl)) rfl
theorem wl_22 : Cond.methodLink (mY MLaw).cls 22 (mY MX7_text) ∈ WT := wtm (tb2 (List.mem_of_getElem? (i := 58) rfl)) rfl
theorem wl_26 : Cond.methodLink (mY MLaw).cls 26 (mY MX8_text) ∈ WT := wtm (tb4 (List.mem_of_getElem? (i := 217) rfl)) rfl
theorem wl_27 : Cond.methodLink (mY MLaw).cls 27 (mY MX7_fault) ∈ WT := wtm (tb2 (List.mem_of_getElem? (i := 199) rfl)) rfl
theorem wl_30 : Cond.methodLink (mY MLaw).cls 30 (mY MX8_fault) ∈ WT := wtm (tb5 (List.mem_of_getElem? (i := 17) rfl)) rfl
theorem wl_31 : Cond.methodLink (mY MLaw).cls 31 (mY MX7_rule) ∈ WT := wtm (tb2 (List.mem_of_getElem? (i := 203) rfl)) rfl
theorem wl_34 : Cond.methodLink (mY MLaw).cls 34 (mY MX8_rule) ∈ WT := wtm (tb5 (List.mem_of_getElem? (i := 21) rfl)) rfl
theorem wl_35 : Cond.methodLink (mY MLaw).cls 35 (mY MX7_heir) ∈ WT := wtm (tb3 (List.mem_of_getElem? (i := 32) rfl)) rfl
theorem wl_39 : Cond.methodLink (mY MLaw).cls 39 (mY MX8_heir) ∈ WT := wtm (tb5 (List.mem_of_getElem? (i := 57) rfl)) rfl
theorem wl_40 : Cond.methodLink (mY MLaw).cls 40 (mY MX7_told) ∈ WT := wtm (tb3 (List.mem_of_getElem? (i := 51) rfl)) rfl
theorem wl_44 : Cond.methodLink (mY MLaw).cls 44 (mY MX8_told) ∈ WT := wtm (tb5 (List.mem_of_getElem? (i := 73) rfl)) rfl
theorem wl_45 : Cond.methodLink (mY MLaw).cls 45 (mY MX7_sum) ∈ WT := wtm (tb3 (List.mem_of_getElem? (i := 65) rfl)) rfl
theorem wl_49 : Cond.methodLink (mY MLaw).cls 49 (mY MX8_sum) ∈ WT := wtm (tb5 (List.mem_of_getElem? (i := 87) rfl)) rfl
theorem wl_50 : Cond.methodLink (mY MLaw).cls 50 (mY MX7_over) ∈ WT := wtm (tb3 (List.mem_of_getElem? (i := 69) rfl)) rfl
theorem wl_53 : Cond.methodLink (mY MLaw).cls 53 (mY MX8_over) ∈ WT := wtm (tb5 (List.mem_of_getElem? (i := 91) rfl)) rfl
theorem wl_54 : Cond.methodLink (mY MLaw).cls 54 (mY MX7_alter) ∈ WT := wtm (tb3 (List.mem_of_getElem? (i := 73) rfl)) rfl
theorem wl_58 : Cond.methodLink (mY MLaw).cls 58 (mY MX8_alter) ∈ WT := wtm (tb5 (List.mem_of_getElem? (i := 95) rfl)) rfl
theorem wl_59 : Cond.methodLink (mY MLaw).cls 59 (mY MX7_herd) ∈ WT := wtm (tb3 (List.mem_of_getElem? (i := 77) rfl)) rfl
theorem wl_62 : Cond.methodLink (mY MLaw).cls 62 (mY MX8_herd) ∈ WT := wtm (tb5 (List.mem_of_getElem? (i := 105) rfl)) rfl
theorem wl_63 : Cond.methodLink (mY MLaw).cls 63 (mY MX7_judge) ∈ WT := wtm (tb3 (List.mem_of_getElem? (i := 82) rfl)) rfl
theorem wl_66 : Cond.methodLink (mY MLaw).cls 66 (mY MX8_judge) ∈ WT := wtm (tb5 (List.mem_of_getElem? (i := 110) rfl)) rfl
theorem wl_67 : Cond.methodLink (mY MLaw).cls 67 (mY MX7_bear) ∈ WT := wtm (tb3 (List.mem_of_getElem? (i := 87) rfl)) rfl
theorem wl_70 : Cond.methodLink (mY MLaw).cls 70 (mY MX8_bear) ∈ WT := wtm (tb5 (List.mem_of_getElem? (i := 117) rfl)) rfl
theorem wl_71 : Cond.methodLink (mY MLaw).cls 71 (mY MX7_dies) ∈ WT := wtm (tb3 (List.mem_of_getElem? (i := 92) rfl)) rfl
theorem wl_74 : Cond.methodLink (mY MLaw).cls 74 (mY MX8_dies) ∈ WT := wtm (tb5 (List.mem_of_getElem? (i := 121) rfl)) rfl
theorem wl_75 : Cond.methodLink (mY MLaw).cls 75 (mY MX7_lend) ∈ WT := wtm (tb3 (List.mem_of_getElem? (i := 101) rfl)) rfl
theorem wl_78 : Cond.methodLink (mY MLaw).cls 78 (mY MX8_lend) ∈ WT := wtm (tb5 (List.mem_of_getElem? (i := 129) rfl)) rfl
theorem wl_79 : Cond.methodLink (mY MLaw).cls 79 (mY MX7_share) ∈ WT := wtm (tb3 (List.mem_of_getElem? (i := 113) rfl)) rfl
theorem wl_82 : Cond.methodLink (mY MLaw).cls 82 (mY MX8_share) ∈ WT := wtm (tb5 (List.mem_of_getElem? (i := 137) rfl)) rfl
theorem wl_83 : Cond.methodLink (mY MLaw).cls 83 (mY MX7_wills) ∈ WT := wtm (tb3 (List.mem_of_getElem? (i := 117) rfl)) rfl
theorem wl_86 : Cond.methodLink (mY MLaw).cls 86 (mY MX8_wills) ∈ WT := wtm (tb5 (List.mem_of_getElem? (i := 141) rfl)) rfl
theorem wl_87 : Cond.methodLink (mY MLaw).cls 87 (mY MX7_will) ∈ WT := wtm (tb3 (List.mem_of_getElem? (i := 141) rfl)) rfl
theorem wl_91 : Cond.methodLink (mY MLaw).cls 91 (mY MX8_will) ∈ WT := wtm (tb5 (List.mem_of_getElem? (i := 153) rfl)) rfl
theorem wl_92 : Cond.methodLink (mY MLaw).cls 92 (mY MX7_by) ∈ WT := wtm (tb3 (List.mem_of_getElem? (i := 145) rfl)) rfl
theorem wl_95 : Cond.methodLink (mY MLaw).cls 95 (mY MX8_by) ∈ WT := wtm (tb5 (List.mem_of_getElem? (i := 157) rfl)) rfl
theorem wl_96 : Cond.methodLink (mY MLaw).cls 96 (mY MX7_of) ∈ WT := wtm (tb3 (List.mem_of_getElem? (i := 149) rfl)) rfl
theorem wl_99 : Cond.methodLink (mY MLaw).cls 99 (mY MX8_of) ∈ WT := wtm (tb5 (List.mem_of_getElem? (i := 161) rfl)) rfl
theorem wl_100 : Cond.methodLink (mY MLaw).cls 100 (mY MX7_loses) ∈ WT := wtm (tb3 (List.mem_of_getElem? (i := 153) rfl)) rfl
theorem wl_103 : Cond.methodLink (mY MLaw).cls 103 (mY MX8_loses) ∈ WT := wtm (tb5 (List.mem_of_getElem? (i := 165) rfl)) rfl
theorem wl_104 : Cond.methodLink (mY MLaw).cls 104 (mY MX7_keeps) ∈ WT := wtm (tb3 (List.mem_of_getElem? (i := 166) rfl)) rfl
theorem wl_107 : Cond.methodLink (mY MLaw).cls 107 (mY MX8_keeps) ∈ WT := wtm (tb5 (List.mem_of_getElem? (i := 174) rfl)) rfl
theorem wl_108 : Cond.methodLink (mY MLaw).cls 108 (mY MX7_unlike) ∈ WT := wtm (tb3 (List.mem_of_getElem? (i := 175) rfl)) rfl
theorem wl_111 : Cond.methodLink (mY MLaw).cls 111 (mY MX8_unlike) ∈ WT := wtm (tb5 (List.mem_of_getElem? (i := 182) rfl)) rfl
theorem wl_112 : Cond.methodLink (mY MLaw).cls 112 (mY MX7_best) ∈ WT := wtm (tb3 (List.mem_of_getElem? (i := 184) rfl)) rfl
theorem wl_115 : Cond.methodLink (mY MLaw).cls 115 (mY MX8_best) ∈ WT := wtm (tb5 (List.mem_of_getElem? (i := 186) rfl)) rfl
theorem wl_116 : Cond.methodLink (mY MLaw).cls 116 (mY MX7_gains) ∈ WT := wtm (tb3 (List.mem_of_getElem? (i := 188) rfl)) rfl
theorem wl_119 : Cond.methodLink (mY MLaw).cls 119 (mY MX8_gains) ∈ WT := wtm (tb5 (List.mem_of_getElem? (i := 190) rfl)) rfl
theorem wl_120 : Cond.methodLink (mY MLaw).cls 120 (mY MX7_wants) ∈ WT := wtm (tb3 (List.mem_of_getElem? (i := 196) rfl)) rfl
theorem wl_123 : Cond.methodLink (mY MLaw).cls 123 (mY MX8_wants) ∈ WT := wtm (tb5 (List.mem_of_getElem? (i := 194) rfl)) rfl
theorem wl_124 : Cond.methodLink (mY MLaw).cls 124 (mY MX7_mean) ∈ WT := wtm (tb3 (List.mem_of_getElem? (i := 200) rfl)) rfl
theorem wl_128 : Cond.methodLink (mY MLaw).cls 128 (mY MX8_mean) ∈ WT := wtm (tb5 (List.mem_of_getElem? (i := 198) rfl)) rfl
theorem wl_129 : Cond.methodLink (mY MLaw).cls 129 (mY MX7_luck) ∈ WT := wtm (tb3 (List.mem_of_getElem? (i := 211) rfl)) rfl
theorem wl_133 : Cond.methodLink (mY MLaw).cls 133 (mY MX8_luck) ∈ WT := wtm (tb5 (List.mem_of_getElem? (i := 208) rfl)) rfl
theorem wl_134 : Cond.methodLink (mY MLaw).cls 134 (mY MX7_see) ∈ WT := wtm (tb3 (List.mem_of_getElem? (i := 215) rfl)) rfl
theorem wl_137 : Cond.methodLink (mY MLaw).cls 137 (mY MX8_see) ∈ WT := wtm (tb5 (List.mem_of_getElem? (i := 212) rfl)) rfl
theorem wl_138 : Cond.methodLink (mY MLaw).cls 138 (mY MX7_forget) ∈ WT := wtm (tb3 (List.mem_of_getElem? (i := 223) rfl)) rfl
theorem wl_141 : Cond.methodLink (mY MLaw).cls 141 (mY MX8_forget) ∈ WT := wtm (tb5 (List.mem_of_getElem? (i := 216) rfl)) rfl
theorem wl_142 : Cond.methodLink (mY MLaw).cls 142 (mY MX7_judges) ∈ WT := wtm (tb3 (List.mem_of_getElem? (i := 227) rfl)) rfl
theorem wl_145 : Cond.methodLink (mY MLaw).cls 145 (mY MX8_judges) ∈ WT := wtm (tb5 (List.mem_of_getElem? (i := 220) rfl)) rfl
theorem wl_146 : Cond.methodLink (mY MLaw).cls 146 (mY MX7_herds) ∈ WT := wtm (tb3 (List.mem_of_getElem? (i := 235) rfl)) rfl
theorem wl_149 : Cond.methodLink (mY MLaw).cls 149 (mY MX8_herds) ∈ WT := wtm (tb5 (List.mem_of_getElem? (i := 228) rfl)) rfl
theorem wl_150 : Cond.methodLink (mY MLaw).cls 150 (mY MX7_downs) ∈ WT := wtm (tb4 (List.mem_of_getElem? (i := 15) rfl)) rfl
theorem wl_153 : Cond.methodLink (mY MLaw).cls 153 (mY MX8_downs) ∈ WT := wtm (tb6 (List.mem_of_getElem? (i := 1) rfl)) rfl
theorem wl_154 : Cond.methodLink (mY MLaw).cls 154 (mY MX7_ask) ∈ WT := wtm (tb4 (List.mem_of_getElem? (i := 19) rfl)) rfl
theorem wl_157 : Cond.methodLink (mY MLaw).cls 157 (mY MX8_ask) ∈ WT := wtm (tb6 (List.mem_of_getElem? (i := 9) rfl)) rfl
theorem wl_158 : Cond.methodLink (mY MLaw).cls 158 (mY MX7_drift) ∈ WT := wtm (tb4 (List.mem_of_getElem? (i := 30) rfl)) rfl
theorem wl_161 : Cond.methodLink (mY MLaw).cls 161 (mY MX8_drift) ∈ WT := wtm (tb6 (List.mem_of_getElem? (i := 13) rfl)) rfl
theorem wl_162 : Cond.methodLink (mY MLaw).cls 162 (mY MX7_keep) ∈ WT := wtm (tb4 (List.mem_of_getElem? (i := 35) rfl)) rfl
theorem wl_165 : Cond.methodLink (mY MLaw).cls 165 (mY MX8_keep) ∈ WT := wtm (tb6 (List.mem_of_getElem? (i := 19) rfl)) rfl
theorem wl_166 : Cond.methodLink (mY MLaw).cls 166 (mY MX7_back) ∈ WT := wtm (tb4 (List.mem_of_getElem? (i := 39) rfl)) rfl
theorem wl_169 : Cond.methodLink (mY MLaw).cls 169 (mY MX8_back) ∈ WT := wtm (tb6 (List.mem_of_getElem? (i := 27) rfl)) rfl
theorem wl_170 : Cond.methodLink (mY MLaw).cls 170 (mY MX7_sheet) ∈ WT := wtm (tb4 (List.mem_of_getElem? (i := 43) rfl)) rfl
theorem wl_173 : Cond.methodLink (mY MLaw).cls 173 (mY MX8_sheet) ∈ WT := wtm (tb6 (List.mem_of_getElem? (i := 31) rfl)) rfl
theorem wl_174 : Cond.methodLink (mY MLaw).cls 174 (mY MX7_lay) ∈ WT := wtm (tb4 (List.mem_of_getElem? (i := 58) rfl)) rfl
theorem wl_177 : Cond.methodLink (mY MLaw).cls 177 (mY MX8_lay) ∈ WT := wtm (tb6 (List.mem_of_getElem? (i := 38) rfl)) rfl
theorem wl_178 : Cond.methodLink (mY MLaw).cls 178 (mY MX7_read) ∈ WT := wtm (tb4 (List.mem_of_getElem? (i := 71) rfl)) rfl
theorem wl_181 : Cond.methodLink (mY MLaw).cls 181 (mY MX8_read) ∈ WT := wtm (tb6 (List.mem_of_getElem? (i := 42) rfl)) rfl
theorem wl_182 : Cond.methodLink (mY MLaw).cls 182 (mY MX7_torn) ∈ WT := wtm (tb4 (List.mem_of_getElem? (i := 83) rfl)) rfl
theorem wl_185 : Cond.methodLink (mY MLaw).cls 185 (mY MX8_torn) ∈ WT := wtm (tb6 (List.mem_of_getElem? (i := 48) rfl)) rfl
theorem wl_186 : Cond.methodLink (mY MLaw).cls 186 (mY MX7_count) ∈ WT := wtm (tb4 (List.mem_of_getElem? (i := 87) rfl)) rfl
theorem wl_189 : Cond.methodLink (mY MLaw).cls 189 (mY MX8_count) ∈ WT := wtm (tb6 (List.mem_of_getElem? (i := 52) rfl)) rfl
theorem okn : ∀ v ∈ ([] : List AV), okV v := fun _ h => by cases h
section LC
variable {nc ns : Nat} {p : Program} {l : Launch} {e : Env} {Rm : Room} {s : State} {m : MethodId} {args : Array Value} {below : List Frame} {meth : Method} {c : Code} {g FC FM : Nat → Nat} {D : va_G} {cA : Nat → ClassId} {A : Nat → Prop} {b L : Nat} {xs : Nat → Int32} {σ τ : Mem} {H : Heap} {locs : List Loc} {pc : Nat} {Q : State → Prop} {lr : Array Slot} {rest : List Value} {n : Nat}
theorem case_0 (B : LB nc ns p Rm s m args c g FC FM D cA A b L xs) (hW : LW D cA A s FC FM σ τ H locs) (hR : Rel σ τ) (hl : lv_has lr 4 (lvL FC FM b n)) (hn : n + 4 < L)
    (kk : ∀ σ' τ' H1 locs1, LW D cA A s FC FM σ' τ' H1 locs1 → Rel σ' τ' → W p l e Rm s m args below meth c H1 locs1 nc ns Q (F0 m 1487 lr [])) : W p l e Rm s m args below meth c H locs nc ns Q (F0 m 216 lr []) := by
  refine lv_aload_n B.1.1 B.1.2.1 dL_law_216 rfl (lv_at hl 2 rfl) ?_
  refine L_arg (j := 1) (nj := n + 1) B hW.2.2.1 hl (by omega) (by omega) dL_law_217 dL_law_218 dL_law_219 dL_law_220 dL_law_221 ?_
  refine L_TI (pc2 := 231) (as := [vI (xs (n + 1)).toInt]) B hW (T_feed hR _) (okc (i32in _) okn) rfl hl.1 kX7_feed sX7_feed rfl wl_13 (ltb rfl) rfl kX8_feed sX8_feed rfl wl_17 (ltb rfl) rfl dL_law_222 dL_law_231 dL_law_234 (by decide) (fun v H1 locs1 hS k => ?_) kk
  refine lv_aload_n B.1.1 B.1.2.1 dL_law_225 rfl (lv_at hl 1 rfl) ?_
  refine L_arg (j := 1) (nj := n + 1) B hS hl (by omega) (by omega) dL_law_226 dL_law_227 dL_law_228 dL_law_229 dL_law_230 ?_
  exact k
theorem case_1 (B : LB nc ns p Rm s m args c g FC FM D cA A b L xs) (hW : LW D cA A s FC FM σ τ H locs) (hR : Rel σ τ) (hl : lv_has lr 4 (lvL FC FM b n)) (hn : n + 4 < L)
    (kk : ∀ σ' τ' H1 locs1, LW D cA A s FC FM σ' τ' H1 locs1 → Rel σ' τ' → W p l e Rm s m args below meth c H1 locs1 nc ns Q (F0 m 1487 lr [])) : W p l e Rm s m args below meth c H locs nc ns Q (F0 m 239 lr []) := by
  refine lv_aload_n B.1.1 B.1.2.1 dL_law_239 rfl (lv_at hl 2 rfl) ?_
  refine L_arg (j := 1) (nj := n + 1) B hW.2.2.1 hl (by omega) (by omega) dL_law_240 dL_law_241 dL_law_242 dL_law_243 dL_law_244 ?_
  refine L_TI (pc2 := 254) (as := [vI (xs (n + 1)).toInt]) B hW (T_end hR _) (okc (i32in _) okn) rfl hl.1 kX7_end sX7_end rfl wl_18 (ltb rfl) rfl kX8_end sX8_end rfl wl_21 (ltb rfl) rfl dL_law_245 dL_law_254 dL_law_257 (by decide) (fun v H1 locs1 hS k => ?_) kk
  refine lv_aload_n B.1.1 B.1.2.1 dL_law_248 rfl (lv_at hl 1 rfl) ?_
  refine L_arg (j := 1) (nj := n + 1) B hS hl (by omega) (by omega) dL_law_249 dL_law_250 dL_law_251 dL_law_252 dL_law_253 ?_
  exact k
theorem case_2 (B : LB nc ns p Rm s m args c g FC FM D cA A b L xs) (hW : LW D cA A s FC FM σ τ H locs) (hR : Rel σ τ) (hl : lv_has lr 4 (lvL FC FM b n)) (hn : n + 4 < L)
    (kk : ∀ σ' τ' H1 locs1, LW D cA A s FC FM σ' τ' H1 locs1 → Rel σ' τ' → W p l e Rm s m args below meth c H1 locs1 nc ns Q (F0 m 1487 lr [])) : W p l e Rm s m args below meth c H locs nc ns Q (F0 m 262 lr []) := by
  refine lv_aload_n B.1.1 B.1.2.1 dL_law_262 rfl (lv_at hl 2 rfl) ?_
  refine L_TI (pc2 := 267) (as := []) B hW (T_text nameSpec hR) okn rfl hl.1 kX7_text sX7_text rfl wl_22 (ltb rfl) rfl kX8_text sX8_text rfl wl_26 (ltb rfl) rfl dL_law_263 dL_law_267 dL_law_270 (by decide) (fun v H1 locs1 hS k => ?_) kk
  refine lv_aload_n B.1.1 B.1.2.1 dL_law_266 rfl (lv_at hl 1 rfl) ?_
  exact k
theorem case_3 (B : LB nc ns p Rm s m args c g FC FM D cA A b L xs) (hW : LW D cA A s FC FM σ τ H locs) (hR : Rel σ τ) (hl : lv_has lr 4 (lvL FC FM b n)) (hn : n + 4 < L)
    (kk : ∀ σ' τ' H1 locs1, LW D cA A s FC FM σ' τ' H1 locs1 → Rel σ' τ' → W p l e Rm s m args below meth c H1 locs1 nc ns Q (F0 m 1487 lr [])) : W p l e Rm s m args below meth c H locs nc ns Q (F0 m 275 lr []) := by
  refine lv_aload_n B.1.1 B.1.2.1 dL_law_275 rfl (lv_at hl 2 rfl) ?_
  refine L_TI (pc2 := 280) (as := []) B hW (T_fault hR) okn rfl hl.1 kX7_fault sX7_fault rfl wl_27 (ltb rfl) rfl kX8_fault sX8_fault rfl wl_30 (ltb rfl) rfl dL_law_276 dL_law_280 dL_law_283 (by decide) (fun v H1 locs1 hS k => ?_) kk
  refine lv_aload_n B.1.1 B.1.2.1 dL_law_279 rfl (lv_at hl 1 rfl) ?_
  exact k
theorem case_4 (B : LB nc ns p Rm s m args c g FC FM D cA A b L xs) (hW : LW D cA A s FC FM σ τ H locs) (hR : Rel σ τ) (hl : lv_has lr 4 (lvL FC FM b n)) (hn : n + 4 < L)
    (kk : ∀ σ' τ' H1 locs1, LW D cA A s FC FM σ' τ' H1 locs1 → Rel σ' τ' → W p l e Rm s m args below meth c H1 locs1 nc ns Q (F0 m 1487 lr [])) : W p l e Rm s m args below meth c H locs nc ns Q (F0 m 288 lr []) := by
  refine lv_aload_n B.1.1 B.1.2.1 dL_law_288 rfl (lv_at hl 2 rfl) ?_
  refine L_arg (j := 1) (nj := n + 1) B hW.2.2.1 hl (by omega) (by omega) dL_law_289 dL_law_290 dL_law_291 dL_law_292 dL_law_293 ?_
  refine L_TI (pc2 := 303) (as := [vI (xs (n + 1)).toInt]) B hW (T_rule hR _) (okc (i32in _) okn) rfl hl.1 kX7_rule sX7_rule rfl wl_31 (ltb rfl) rfl kX8_rule sX8_rule rfl wl_34 (ltb rfl) rfl dL_law_294 dL_law_303 dL_law_306 (by decide) (fun v H1 locs1 hS k => ?_) kk
  refine lv_aload_n B.1.1 B.1.2.1 dL_law_297 rfl (lv_at hl 1 rfl) ?_
  refine L_arg (j := 1) (nj := n + 1) B hS hl (by omega) (by omega) dL_law_298 dL_law_299 dL_law_300 dL_law_301 dL_law_302 ?_
  exact k
theorem case_5 (B : LB nc ns p Rm s m args c g FC FM D cA A b L xs) (hW : LW D cA A s FC FM σ τ H locs) (hR : Rel σ τ) (hl : lv_has lr 4 (lvL FC FM b n)) (hn : n + 4 < L)
    (kk : ∀ σ' τ' H1 locs1, LW D cA A s FC FM σ' τ' H1 locs1 → Rel σ' τ' → W p l e Rm s m args below meth c H1 locs1 nc ns Q (F0 m 1487 lr [])) : W p l e Rm s m args below meth c H locs nc ns Q (F0 m 311 lr []) := by
  refine lv_aload_n B.1.1 B.1.2.1 dL_law_311 rfl (lv_at hl 2 rfl) ?_
  refine L_arg (j := 1) (nj := n + 1) B hW.2.2.1 hl (by omega) (by omega) dL_law_312 dL_law_313 dL_law_314 dL_law_315 dL_law_316 ?_
  refine L_arg (j := 2) (nj := n + 2) B hW.2.2.1 hl (by omega) (by omega) dL_law_317 dL_law_318 dL_law_319 dL_law_320 dL_law_321 ?_
  refine L_TI (pc2 := 336) (as := [vI (xs (n + 1)).toInt, vI (xs (n + 2)).toInt]) B hW (T_heir hR _ _) (okc (i32in _) (okc (i32in _) okn)) rfl hl.1 kX7_heir sX7_heir rfl wl_35 (ltb rfl) rfl kX8_heir sX8_heir rfl wl_39 (ltb rfl) rfl dL_law_322 dL_law_336 dL_law_339 (by decide) (fun v H1 locs1 hS k => ?_) kk
  refine lv_aload_n B.1.1 B.1.2.1 dL_law_325 rfl (lv_at hl 1 rfl) ?_
  refine L_arg (j := 1) (nj := n + 1) B hS hl (by omega) (by omega) dL_law_326 dL_law_327 dL_law_328 dL_law_329 dL_law_330 ?_
  refine L_arg (j := 2) (nj := n + 2) B hS hl (by omega) (by omega) dL_law_331 dL_law_332 dL_law_333 dL_law_334 dL_law_335 ?_
  exact k
theorem case_6 (B : LB nc ns p Rm s m args c g FC FM D cA A b L xs) (hW : LW D cA A s FC FM σ τ H locs) (hR : Rel σ τ) (hl : lv_has lr 4 (lvL FC FM b n)) (hn : n + 4 < L)
    (kk : ∀ σ' τ' H1 locs1, LW D cA A s FC FM σ' τ' H1 locs1 → Rel σ' τ' → W p l e Rm s m args below meth c H1 locs1 nc ns Q (F0 m 1487 lr [])) : W p l e Rm s m args below meth c H locs nc ns Q (F0 m 344 lr []) := by
  refine lv_aload_n B.1.1 B.1.2.1 dL_law_344 rfl (lv_at hl 2 rfl) ?_
  refine L_arg (j := 1) (nj := n + 1) B hW.2.2.1 hl (by omega) (by omega) dL_law_345 dL_law_346 dL_law_347 dL_law_348 dL_law_349 ?_
  refine L_arg (j := 2) (nj := n + 2) B hW.2.2.1 hl (by omega) (by omega) dL_law_350 dL_law_351 dL_law_352 dL_law_353 dL_law_354 ?_
  refine L_TJ (pc2 := 369) (as := [vI (xs (n + 1)).toInt, vI (xs (n + 2)).toInt]) B hW (T_told hR _ _) (okc (i32in _) (okc (i32in _) okn)) rfl hl.1 kX7_told sX7_told rfl wl_40 (ltb rfl) rfl kX8_told sX8_told rfl wl_44 (ltb rfl) rfl dL_law_355 dL_law_369 dL_law_372 dL_law_373 (by decide) (fun v H1 locs1 hS k => ?_) kk
  refine lv_aload_n B.1.1 B.1.2.1 dL_law_358 rfl (lv_at hl 1 rfl) ?_
  refine L_arg (j := 1) (nj := n + 1) B hS hl (by omega) (by omega) dL_law_359 dL_law_360 dL_law_361 dL_law_362 dL_law_363 ?_
  refine L_arg (j := 2) (nj := n + 2) B hS hl (by omega) (by omega) dL_law_364 dL_law_365 dL_law_366 dL_law_367 dL_law_368 ?_
  exact k
theorem case_7 (B : LB nc ns p Rm s m args c g FC FM D cA A b L xs) (hW : LW D cA A s FC FM σ τ H locs) (hR : Rel σ τ) (hl : lv_has lr 4 (lvL FC FM b n)) (hn : n + 4 < L)
    (kk : ∀ σ' τ' H1 locs1, LW D cA A s FC FM σ' τ' H1 locs1 → Rel σ' τ' → W p l e Rm s m args below meth c H1 locs1 nc ns Q (F0 m 1487 lr [])) : W p l e Rm s m args below meth c H locs nc ns Q (F0 m 378 lr []) := by
  refine lv_aload_n B.1.1 B.1.2.1 dL_law_378 rfl (lv_at hl 2 rfl) ?_
  refine L_arg (j := 1) (nj := n + 1) B hW.2.2.1 hl (by omega) (by omega) dL_law_379 dL_law_380 dL_law_381 dL_law_382 dL_law_383 ?_
  refine L_TJ (pc2 := 393) (as := [vI (xs (n + 1)).toInt]) B hW (T_sum hR _) (okc (i32in _) okn) rfl hl.1 kX7_sum sX7_sum rfl wl_45 (ltb rfl) rfl kX8_sum sX8_sum rfl wl_49 (ltb rfl) rfl dL_law_384 dL_law_393 dL_law_396 dL_law_397 (by decide) (fun v H1 locs1 hS k => ?_) kk
  refine lv_aload_n B.1.1 B.1.2.1 dL_law_387 rfl (lv_at hl 1 rfl) ?_
  refine L_arg (j := 1) (nj := n + 1) B hS hl (by omega) (by omega) dL_law_388 dL_law_389 dL_law_390 dL_law_391 dL_law_392 ?_
  exact k
theorem case_8 (B : LB nc ns p Rm s m args c g FC FM D cA A b L xs) (hW : LW D cA A s FC FM σ τ H locs) (hR : Rel σ τ) (hl : lv_has lr 4 (lvL FC FM b n)) (hn : n + 4 < L)
    (kk : ∀ σ' τ' H1 locs1, LW D cA A s FC FM σ' τ' H1 locs1 → Rel σ' τ' → W p l e Rm s m args below meth c H1 locs1 nc ns Q (F0 m 1487 lr [])) : W p l e Rm s m args below meth c H locs nc ns Q (F0 m 402 lr []) := by
  refine lv_aload_n B.1.1 B.1.2.1 dL_law_402 rfl (lv_at hl 2 rfl) ?_
  refine L_arg (j := 1) (nj := n + 1) B hW.2.2.1 hl (by omega) (by omega) dL_law_403 dL_law_404 dL_law_405 dL_law_406 dL_law_407 ?_
  refine L_arg (j := 2) (nj := n + 2) B hW.2.2.1 hl (by omega) (by omega) dL_law_408 dL_law_409 dL_law_410 dL_law_411 dL_law_412 ?_
  refine L_TJ (pc2 := 427) (as := [vI (xs (n + 1)).toInt, vI (xs (n + 2)).toInt]) B hW (T_over hR _ _) (okc (i32in _) (okc (i32in _) okn)) rfl hl.1 kX7_over sX7_over rfl wl_50 (ltb rfl) rfl kX8_over sX8_over rfl wl_53 (ltb rfl) rfl dL_law_413 dL_law_427 dL_law_430 dL_law_431 (by decide) (fun v H1 locs1 hS k => ?_) kk
  refine lv_aload_n B.1.1 B.1.2.1 dL_law_416 rfl (lv_at hl 1 rfl) ?_
  refine L_arg (j := 1) (nj := n + 1) B hS hl (by omega) (by omega) dL_law_417 dL_law_418 dL_law_419 dL_law_420 dL_law_421 ?_
  refine L_arg (j := 2) (nj := n + 2) B hS hl (by omega) (by omega) dL_law_422 dL_law_423 dL_law_424 dL_law_425 dL_law_426 ?_
  exact k
theorem case_9 (B : LB nc ns p Rm s m args c g FC FM D cA A b L xs) (hW : LW D cA A s FC FM σ τ H locs) (hR : Rel σ τ) (hl : lv_has lr 4 (lvL FC FM b n)) (hn : n + 4 < L)
    (kk : ∀ σ' τ' H1 locs1, LW D cA A s FC FM σ' τ' H1 locs1 → Rel σ' τ' → W p l e Rm s m args below meth c H1 locs1 nc ns Q (F0 m 1487 lr [])) : W p l e Rm s m args below meth c H locs nc ns Q (F0 m 436 lr []) := by
  refine lv_aload_n B.1.1 B.1.2.1 dL_law_436 rfl (lv_at hl 2 rfl) ?_
  refine L_arg (j := 1) (nj := n + 1) B hW.2.2.1 hl (by omega) (by omega) dL_law_437 dL_law_438 dL_law_439 dL_law_440 dL_law_441 ?_
  refine L_arg (j := 2) (nj := n + 2) B hW.2.2.1 hl (by omega) (by omega) dL_law_442 dL_law_443 dL_law_444 dL_law_445 dL_law_446 ?_
  refine L_arg (j := 3) (nj := n + 3) B hW.2.2.1 hl (by omega) (by omega) dL_law_447 dL_law_448 dL_law_449 dL_law_450 dL_law_451 ?_
  refine L_TI (pc2 := 471) (as := [vI (xs (n + 1)).toInt, vI (xs (n + 2)).toInt, vI (xs (n + 3)).toInt]) B hW (T_alter hR _ _ _) (okc (i32in _) (okc (i32in _) (okc (i32in _) okn))) rfl hl.1 kX7_alter sX7_alter rfl wl_54 (ltb rfl) rfl kX8_alter sX8_alter rfl wl_58 (ltb rfl) rfl dL_law_452 dL_law_471 dL_law_474 (by decide) (fun v H1 locs1 hS k => ?_) kk
  refine lv_aload_n B.1.1 B.1.2.1 dL_law_455 rfl (lv_at hl 1 rfl) ?_
  refine L_arg (j := 1) (nj := n + 1) B hS hl (by omega) (by omega) dL_law_456 dL_law_457 dL_law_458 dL_law_459 dL_law_460 ?_
  refine L_arg (j := 2) (nj := n + 2) B hS hl (by omega) (by omega) dL_law_461 dL_law_462 dL_law_463 dL_law_464 dL_law_465 ?_
  refine L_arg (j := 3) (nj := n + 3) B hS hl (by omega) (by omega) dL_law_466 dL_law_467 dL_law_468 dL_law_469 dL_law_470 ?_
  exact k
theorem case_10 (B : LB nc ns p Rm s m args c g FC FM D cA A b L xs) (hW : LW D cA A s FC FM σ τ H locs) (hR : Rel σ τ) (hl : lv_has lr 4 (lvL FC FM b n)) (hn : n + 4 < L)
    (kk : ∀ σ' τ' H1 locs1, LW D cA A s FC FM σ' τ' H1 locs1 → Rel σ' τ' → W p l e Rm s m args below meth c H1 locs1 nc ns Q (F0 m 1487 lr [])) : W p l e Rm s m args below meth c H locs nc ns Q (F0 m 479 lr []) := by
  refine lv_aload_n B.1.1 B.1.2.1 dL_law_479 rfl (lv_at hl 2 rfl) ?_
  refine L_arg (j := 1) (nj := n + 1) B hW.2.2.1 hl (by omega) (by omega) dL_law_480 dL_law_481 dL_law_482 dL_law_483 dL_law_484 ?_
  refine L_TI (pc2 := 494) (as := [vI (xs (n + 1)).toInt]) B hW (T_herd hR _) (okc (i32in _) okn) rfl hl.1 kX7_herd sX7_herd rfl wl_59 (ltb rfl) rfl kX8_herd sX8_herd rfl wl_62 (ltb rfl) rfl dL_law_485 dL_law_494 dL_law_497 (by decide) (fun v H1 locs1 hS k => ?_) kk
  refine lv_aload_n B.1.1 B.1.2.1 dL_law_488 rfl (lv_at hl 1 rfl) ?_
  refine L_arg (j := 1) (nj := n + 1) B hS hl (by omega) (by omega) dL_law_489 dL_law_490 dL_law_491 dL_law_492 dL_law_493 ?_
  exact k
theorem case_11 (B : LB nc ns p Rm s m args c g FC FM D cA A b L xs) (hW : LW D cA A s FC FM σ τ H locs) (hR : Rel σ τ) (hl : lv_has lr 4 (lvL FC FM b n)) (hn : n + 4 < L)
    (kk : ∀ σ' τ' H1 locs1, LW D cA A s FC FM σ' τ' H1 locs1 → Rel σ' τ' → W p l e Rm s m args below meth c H1 locs1 nc ns Q (F0 m 1487 lr [])) : W p l e Rm s m args below meth c H locs nc ns Q (F0 m 502 lr []) := by
  refine lv_aload_n B.1.1 B.1.2.1 dL_law_502 rfl (lv_at hl 2 rfl) ?_
  refine L_arg (j := 1) (nj := n + 1) B hW.2.2.1 hl (by omega) (by omega) dL_law_503 dL_law_504 dL_law_505 dL_law_506 dL_law_507 ?_
  refine L_TI (pc2 := 517) (as := [vI (xs (n + 1)).toInt]) B hW (T_judge hR _) (okc (i32in _) okn) rfl hl.1 kX7_judge sX7_judge rfl wl_63 (ltb rfl) rfl kX8_judge sX8_judge rfl wl_66 (ltb rfl) rfl dL_law_508 dL_law_517 dL_law_520 (by decide) (fun v H1 locs1 hS k => ?_) kk
  refine lv_aload_n B.1.1 B.1.2.1 dL_law_511 rfl (lv_at hl 1 rfl) ?_
  refine L_arg (j := 1) (nj := n + 1) B hS hl (by omega) (by omega) dL_law_512 dL_law_513 dL_law_514 dL_law_515 dL_law_516 ?_
  exact k
theorem case_12 (B : LB nc ns p Rm s m args c g FC FM D cA A b L xs) (hW : LW D cA A s FC FM σ τ H locs) (hR : Rel σ τ) (hl : lv_has lr 4 (lvL FC FM b n)) (hn : n + 4 < L)
    (kk : ∀ σ' τ' H1 locs1, LW D cA A s FC FM σ' τ' H1 locs1 → Rel σ' τ' → W p l e Rm s m args below meth c H1 locs1 nc ns Q (F0 m 1487 lr [])) : W p l e Rm s m args below meth c H locs nc ns Q (F0 m 525 lr []) := by
  refine lv_aload_n B.1.1 B.1.2.1 dL_law_525 rfl (lv_at hl 2 rfl) ?_
  refine L_arg (j := 1) (nj := n + 1) B hW.2.2.1 hl (by omega) (by omega) dL_law_526 dL_law_527 dL_law_528 dL_law_529 dL_law_530 ?_
  refine L_arg (j := 2) (nj := n + 2) B hW.2.2.1 hl (by omega) (by omega) dL_law_531 dL_law_532 dL_law_533 dL_law_534 dL_law_535 ?_
  refine L_TI (pc2 := 550) (as := [vI (xs (n + 1)).toInt, vI (xs (n + 2)).toInt]) B hW (T_bear hR _ _) (okc (i32in _) (okc (i32in _) okn)) rfl hl.1 kX7_bear sX7_bear rfl wl_67 (ltb rfl) rfl kX8_bear sX8_bear rfl wl_70 (ltb rfl) rfl dL_law_536 dL_law_550 dL_law_553 (by decide) (fun v H1 locs1 hS k => ?_) kk
  refine lv_aload_n B.1.1 B.1.2.1 dL_law_539 rfl (lv_at hl 1 rfl) ?_
  refine L_arg (j := 1) (nj := n + 1) B hS hl (by omega) (by omega) dL_law_540 dL_law_541 dL_law_542 dL_law_543 dL_law_544 ?_
  refine L_arg (j := 2) (nj := n + 2) B hS hl (by omega) (by omega) dL_law_545 dL_law_546 dL_law_547 dL_law_548 dL_law_549 ?_
  exact k
theorem case_13 (B : LB nc ns p Rm s m args c g FC FM D cA A b L xs) (hW : LW D cA A s FC FM σ τ H locs) (hR : Rel σ τ) (hl : lv_has lr 4 (lvL FC FM b n)) (hn : n + 4 < L)
    (kk : ∀ σ' τ' H1 locs1, LW D cA A s FC FM σ' τ' H1 locs1 → Rel σ' τ' → W p l e Rm s m args below meth c H1 locs1 nc ns Q (F0 m 1487 lr [])) : W p l e Rm s m args below meth c H locs nc ns Q (F0 m 558 lr []) := by
  refine lv_aload_n B.1.1 B.1.2.1 dL_law_558 rfl (lv_at hl 2 rfl) ?_
  refine L_arg (j := 1) (nj := n + 1) B hW.2.2.1 hl (by omega) (by omega) dL_law_559 dL_law_560 dL_law_561 dL_law_562 dL_law_563 ?_
  refine L_TI (pc2 := 573) (as := [vI (xs (n + 1)).toInt]) B hW (T_dies hR _) (okc (i32in _) okn) rfl hl.1 kX7_dies sX7_dies rfl wl_71 (ltb rfl) rfl kX8_dies sX8_dies rfl wl_74 (ltb rfl) rfl dL_law_564 dL_law_573 dL_law_576 (by decide) (fun v H1 locs1 hS k => ?_) kk
  refine lv_aload_n B.1.1 B.1.2.1 dL_law_567 rfl (lv_at hl 1 rfl) ?_
  refine L_arg (j := 1) (nj := n + 1) B hS hl (by omega) (by omega) dL_law_568 dL_law_569 dL_law_570 dL_law_571 dL_law_572 ?_
  exact k
theorem case_14 (B : LB nc ns p Rm s m args c g FC FM D cA A b L xs) (hW : LW D cA A s FC FM σ τ H locs) (hR : Rel σ τ) (hl : lv_has lr 4 (lvL FC FM b n)) (hn : n + 4 < L)
    (kk : ∀ σ' τ' H1 locs1, LW D cA A s FC FM σ' τ' H1 locs1 → Rel σ' τ' → W p l e Rm s m args below meth c H1 locs1 nc ns Q (F0 m 1487 lr [])) : W p l e Rm s m args below meth c H locs nc ns Q (F0 m 581 lr []) := by
  refine lv_aload_n B.1.1 B.1.2.1 dL_law_581 rfl (lv_at hl 2 rfl) ?_
  refine L_arg (j := 1) (nj := n + 1) B hW.2.2.1 hl (by omega) (by omega) dL_law_582 dL_law_583 dL_law_584 dL_law_585 dL_law_586 ?_
  refine L_TI (pc2 := 596) (as := [vI (xs (n + 1)).toInt]) B hW (T_lend hR _) (okc (i32in _) okn) rfl hl.1 kX7_lend sX7_lend rfl wl_75 (ltb rfl) rfl kX8_lend sX8_lend rfl wl_78 (ltb rfl) rfl dL_law_587 dL_law_596 dL_law_599 (by decide) (fun v H1 locs1 hS k => ?_) kk
  refine lv_aload_n B.1.1 B.1.2.1 dL_law_590 rfl (lv_at hl 1 rfl) ?_
  refine L_arg (j := 1) (nj := n + 1) B hS hl (by omega) (by omega) dL_law_591 dL_law_592 dL_law_593 dL_law_594 dL_law_595 ?_
  exact k
theorem case_15 (B : LB nc ns p Rm s m args c g FC FM D cA A b L xs) (hW : LW D cA A s FC FM σ τ H locs) (hR : Rel σ τ) (hl : lv_has lr 4 (lvL FC FM b n)) (hn : n + 4 < L)
    (kk : ∀ σ' τ' H1 locs1, LW D cA A s FC FM σ' τ' H1 locs1 → Rel σ' τ' → W p l e Rm s m args below meth c H1 locs1 nc ns Q (F0 m 1487 lr [])) : W p l e Rm s m args below meth c H locs nc ns Q (F0 m 604 lr []) := by
  refine lv_aload_n B.1.1 B.1.2.1 dL_law_604 rfl (lv_at hl 2 rfl) ?_
  refine L_arg (j := 1) (nj := n + 1) B hW.2.2.1 hl (by omega) (by omega) dL_law_605 dL_law_606 dL_law_607 dL_law_608 dL_law_609 ?_
  refine L_arg (j := 2) (nj := n + 2) B hW.2.2.1 hl (by omega) (by omega) dL_law_610 dL_law_611 dL_law_612 dL_law_613 dL_law_614 ?_
  refine L_TI (pc2 := 629) (as := [vI (xs (n + 1)).toInt, vI (xs (n + 2)).toInt]) B hW (T_share hR _ _) (okc (i32in _) (okc (i32in _) okn)) rfl hl.1 kX7_share sX7_share rfl wl_79 (ltb rfl) rfl kX8_share sX8_share rfl wl_82 (ltb rfl) rfl dL_law_615 dL_law_629 dL_law_632 (by decide) (fun v H1 locs1 hS k => ?_) kk
  refine lv_aload_n B.1.1 B.1.2.1 dL_law_618 rfl (lv_at hl 1 rfl) ?_
  refine L_arg (j := 1) (nj := n + 1) B hS hl (by omega) (by omega) dL_law_619 dL_law_620 dL_law_621 dL_law_622 dL_law_623 ?_
  refine L_arg (j := 2) (nj := n + 2) B hS hl (by omega) (by omega) dL_law_624 dL_law_625 dL_law_626 dL_law_627 dL_law_628 ?_
  exact k
theorem case_16 (B : LB nc ns p Rm s m args c g FC FM D cA A b L xs) (hW : LW D cA A s FC FM σ τ H locs) (hR : Rel σ τ) (hl : lv_has lr 4 (lvL FC FM b n)) (hn : n + 4 < L)
    (kk : ∀ σ' τ' H1 locs1, LW D cA A s FC FM σ' τ' H1 locs1 → Rel σ' τ' → W p l e Rm s m args below meth c H1 locs1 nc ns Q (F0 m 1487 lr [])) : W p l e Rm s m args below meth c H locs nc ns Q (F0 m 637 lr []) := by
  refine lv_aload_n B.1.1 B.1.2.1 dL_law_637 rfl (lv_at hl 2 rfl) ?_
  refine L_arg (j := 1) (nj := n + 1) B hW.2.2.1 hl (by omega) (by omega) dL_law_638 dL_law_639 dL_law_640 dL_law_641 dL_law_642 ?_
  refine L_arg (j := 2) (nj := n + 2) B hW.2.2.1 hl (by omega) (by omega) dL_law_643 dL_law_644 dL_law_645 dL_law_646 dL_law_647 ?_
  refine L_TI (pc2 := 662) (as := [vI (xs (n + 1)).toInt, vI (xs (n + 2)).toInt]) B hW (T_wills hR _ _) (okc (i32in _) (okc (i32in _) okn)) rfl hl.1 kX7_wills sX7_wills rfl wl_83 (ltb rfl) rfl kX8_wills sX8_wills rfl wl_86 (ltb rfl) rfl dL_law_648 dL_law_662 dL_law_665 (by decide) (fun v H1 locs1 hS k => ?_) kk
  refine lv_aload_n B.1.1 B.1.2.1 dL_law_651 rfl (lv_at hl 1 rfl) ?_
  refine L_arg (j := 1) (nj := n + 1) B hS hl (by omega) (by omega) dL_law_652 dL_law_653 dL_law_654 dL_law_655 dL_law_656 ?_
  refine L_arg (j := 2) (nj := n + 2) B hS hl (by omega) (by omega) dL_law_657 dL_law_658 dL_law_659 dL_law_660 dL_law_661 ?_
  exact k
theorem case_17 (B : LB nc ns p Rm s m args c g FC FM D cA A b L xs) (hW : LW D cA A s FC FM σ τ H locs) (hR : Rel σ τ) (hl : lv_has lr 4 (lvL FC FM b n)) (hn : n + 4 < L)
    (kk : ∀ σ' τ' H1 locs1, LW D cA A s FC FM σ' τ' H1 locs1 → Rel σ' τ' → W p l e Rm s m args below meth c H1 locs1 nc ns Q (F0 m 1487 lr [])) : W p l e Rm s m args below meth c H locs nc ns Q (F0 m 670 lr []) := by
  refine lv_aload_n B.1.1 B.1.2.1 dL_law_670 rfl (lv_at hl 2 rfl) ?_
  refine L_arg (j := 1) (nj := n + 1) B hW.2.2.1 hl (by omega) (by omega) dL_law_671 dL_law_672 dL_law_673 dL_law_674 dL_law_675 ?_
  refine L_arg (j := 2) (nj := n + 2) B hW.2.2.1 hl (by omega) (by omega) dL_law_676 dL_law_677 dL_law_678 dL_law_679 dL_law_680 ?_
  refine L_arg (j := 3) (nj := n + 3) B hW.2.2.1 hl (by omega) (by omega) dL_law_681 dL_law_682 dL_law_683 dL_law_684 dL_law_685 ?_
  refine L_arg (j := 4) (nj := n + 4) B hW.2.2.1 hl (by omega) (by omega) dL_law_686 dL_law_687 dL_law_688 dL_law_689 dL_law_690 ?_
  refine L_TI (pc2 := 715) (as := [vI (xs (n + 1)).toInt, vI (xs (n + 2)).toInt, vI (xs (n + 3)).toInt, vI (xs (n + 4)).toInt]) B hW (T_will hR _ _ _ _) (okc (i32in _) (okc (i32in _) (okc (i32in _) (okc (i32in _) okn)))) rfl hl.1 kX7_will sX7_will rfl wl_87 (ltb rfl) rfl kX8_will sX8_will rfl wl_91 (ltb rfl) rfl dL_law_691 dL_law_715 dL_law_718 (by decide) (fun v H1 locs1 hS k => ?_) kk
  refine lv_aload_n B.1.1 B.1.2.1 dL_law_694 rfl (lv_at hl 1 rfl) ?_
  refine L_arg (j := 1) (nj := n + 1) B hS hl (by omega) (by omega) dL_law_695 dL_law_696 dL_law_697 dL_law_698 dL_law_699 ?_
  refine L_arg (j := 2) (nj := n + 2) B hS hl (by omega) (by omega) dL_law_700 dL_law_701 dL_law_702 dL_law_703 dL_law_704 ?_
  refine L_arg (j := 3) (nj := n + 3) B hS hl (by omega) (by omega) dL_law_705 dL_law_706 dL_law_707 dL_law_708 dL_law_709 ?_
  refine L_arg (j := 4) (nj := n + 4) B hS hl (by omega) (by omega) dL_law_710 dL_law_711 dL_law_712 dL_law_713 dL_law_714 ?_
  exact k
theorem case_18 (B : LB nc ns p Rm s m args c g FC FM D cA A b L xs) (hW : LW D cA A s FC FM σ τ H locs) (hR : Rel σ τ) (hl : lv_has lr 4 (lvL FC FM b n)) (hn : n + 4 < L)
    (kk : ∀ σ' τ' H1 locs1, LW D cA A s FC FM σ' τ' H1 locs1 → Rel σ' τ' → W p l e Rm s m args below meth c H1 locs1 nc ns Q (F0 m 1487 lr [])) : W p l e Rm s m args below meth c H locs nc ns Q (F0 m 723 lr []) := by
  refine lv_aload_n B.1.1 B.1.2.1 dL_law_723 rfl (lv_at hl 2 rfl) ?_
  refine L_arg (j := 1) (nj := n + 1) B hW.2.2.1 hl (by omega) (by omega) dL_law_724 dL_law_725 dL_law_726 dL_law_727 dL_law_728 ?_
  refine L_arg (j := 2) (nj := n + 2) B hW.2.2.1 hl (by omega) (by omega) dL_law_729 dL_law_730 dL_law_731 dL_law_732 dL_law_733 ?_
  refine L_TI (pc2 := 748) (as := [vI (xs (n + 1)).toInt, vI (xs (n + 2)).toInt]) B hW (T_by hR _ _) (okc (i32in _) (okc (i32in _) okn)) rfl hl.1 kX7_by sX7_by rfl wl_92 (ltb rfl) rfl kX8_by sX8_by rfl wl_95 (ltb rfl) rfl dL_law_734 dL_law_748 dL_law_751 (by decide) (fun v H1 locs1 hS k => ?_) kk
  refine lv_aload_n B.1.1 B.1.2.1 dL_law_737 rfl (lv_at hl 1 rfl) ?_
  refine L_arg (j := 1) (nj := n + 1) B hS hl (by omega) (by omega) dL_law_738 dL_law_739 dL_law_740 dL_law_741 dL_law_742 ?_
  refine L_arg (j := 2) (nj := n + 2) B hS hl (by omega) (by omega) dL_law_743 dL_law_744 dL_law_745 dL_law_746 dL_law_747 ?_
  exact k
theorem case_19 (B : LB nc ns p Rm s m args c g FC FM D cA A b L xs) (hW : LW D cA A s FC FM σ τ H locs) (hR : Rel σ τ) (hl : lv_has lr 4 (lvL FC FM b n)) (hn : n + 4 < L)
    (kk : ∀ σ' τ' H1 locs1, LW D cA A s FC FM σ' τ' H1 locs1 → Rel σ' τ' → W p l e Rm s m args below meth c H1 locs1 nc ns Q (F0 m 1487 lr [])) : W p l e Rm s m args below meth c H locs nc ns Q (F0 m 756 lr []) := by
  refine lv_aload_n B.1.1 B.1.2.1 dL_law_756 rfl (lv_at hl 2 rfl) ?_
  refine L_arg (j := 1) (nj := n + 1) B hW.2.2.1 hl (by omega) (by omega) dL_law_757 dL_law_758 dL_law_759 dL_law_760 dL_law_761 ?_
  refine L_arg (j := 2) (nj := n + 2) B hW.2.2.1 hl (by omega) (by omega) dL_law_762 dL_law_763 dL_law_764 dL_law_765 dL_law_766 ?_
  refine L_TI (pc2 := 781) (as := [vI (xs (n + 1)).toInt, vI (xs (n + 2)).toInt]) B hW (T_of hR _ _) (okc (i32in _) (okc (i32in _) okn)) rfl hl.1 kX7_of sX7_of rfl wl_96 (ltb rfl) rfl kX8_of sX8_of rfl wl_99 (ltb rfl) rfl dL_law_767 dL_law_781 dL_law_784 (by decide) (fun v H1 locs1 hS k => ?_) kk
  refine lv_aload_n B.1.1 B.1.2.1 dL_law_770 rfl (lv_at hl 1 rfl) ?_
  refine L_arg (j := 1) (nj := n + 1) B hS hl (by omega) (by omega) dL_law_771 dL_law_772 dL_law_773 dL_law_774 dL_law_775 ?_
  refine L_arg (j := 2) (nj := n + 2) B hS hl (by omega) (by omega) dL_law_776 dL_law_777 dL_law_778 dL_law_779 dL_law_780 ?_
  exact k
theorem case_20 (B : LB nc ns p Rm s m args c g FC FM D cA A b L xs) (hW : LW D cA A s FC FM σ τ H locs) (hR : Rel σ τ) (hl : lv_has lr 4 (lvL FC FM b n)) (hn : n + 4 < L)
    (kk : ∀ σ' τ' H1 locs1, LW D cA A s FC FM σ' τ' H1 locs1 → Rel σ' τ' → W p l e Rm s m args below meth c H1 locs1 nc ns Q (F0 m 1487 lr [])) : W p l e Rm s m args below meth c H locs nc ns Q (F0 m 789 lr []) := by
  refine lv_aload_n B.1.1 B.1.2.1 dL_law_789 rfl (lv_at hl 2 rfl) ?_
  refine L_arg (j := 1) (nj := n + 1) B hW.2.2.1 hl (by omega) (by omega) dL_law_790 dL_law_791 dL_law_792 dL_law_793 dL_law_794 ?_
  refine L_arg (j := 2) (nj := n + 2) B hW.2.2.1 hl (by omega) (by omega) dL_law_795 dL_law_796 dL_law_797 dL_law_798 dL_law_799 ?_
  refine L_TI (pc2 := 814) (as := [vI (xs (n + 1)).toInt, vI (xs (n + 2)).toInt]) B hW (T_loses hR _ _) (okc (i32in _) (okc (i32in _) okn)) rfl hl.1 kX7_loses sX7_loses rfl wl_100 (ltb rfl) rfl kX8_loses sX8_loses rfl wl_103 (ltb rfl) rfl dL_law_800 dL_law_814 dL_law_817 (by decide) (fun v H1 locs1 hS k => ?_) kk
  refine lv_aload_n B.1.1 B.1.2.1 dL_law_803 rfl (lv_at hl 1 rfl) ?_
  refine L_arg (j := 1) (nj := n + 1) B hS hl (by omega) (by omega) dL_law_804 dL_law_805 dL_law_806 dL_law_807 dL_law_808 ?_
  refine L_arg (j := 2) (nj := n + 2) B hS hl (by omega) (by omega) dL_law_809 dL_law_810 dL_law_811 dL_law_812 dL_law_813 ?_
  exact k
theorem case_21 (B : LB nc ns p Rm s m args c g FC FM D cA A b L xs) (hW : LW D cA A s FC FM σ τ H locs) (hR : Rel σ τ) (hl : lv_has lr 4 (lvL FC FM b n)) (hn : n + 4 < L)
    (kk : ∀ σ' τ' H1 locs1, LW D cA A s FC FM σ' τ' H1 locs1 → Rel σ' τ' → W p l e Rm s m args below meth c H1 locs1 nc ns Q (F0 m 1487 lr [])) : W p l e Rm s m args below meth c H locs nc ns Q (F0 m 822 lr []) := by
  refine lv_aload_n B.1.1 B.1.2.1 dL_law_822 rfl (lv_at hl 2 rfl) ?_
  refine L_arg (j := 1) (nj := n + 1) B hW.2.2.1 hl (by omega) (by omega) dL_law_823 dL_law_824 dL_law_825 dL_law_826 dL_law_827 ?_
  refine L_arg (j := 2) (nj := n + 2) B hW.2.2.1 hl (by omega) (by omega) dL_law_828 dL_law_829 dL_law_830 dL_law_831 dL_law_832 ?_
  refine L_TI (pc2 := 847) (as := [vI (xs (n + 1)).toInt, vI (xs (n + 2)).toInt]) B hW (T_keeps hR _ _) (okc (i32in _) (okc (i32in _) okn)) rfl hl.1 kX7_keeps sX7_keeps rfl wl_104 (ltb rfl) rfl kX8_keeps sX8_keeps rfl wl_107 (ltb rfl) rfl dL_law_833 dL_law_847 dL_law_850 (by decide) (fun v H1 locs1 hS k => ?_) kk
  refine lv_aload_n B.1.1 B.1.2.1 dL_law_836 rfl (lv_at hl 1 rfl) ?_
  refine L_arg (j := 1) (nj := n + 1) B hS hl (by omega) (by omega) dL_law_837 dL_law_838 dL_law_839 dL_law_840 dL_law_841 ?_
  refine L_arg (j := 2) (nj := n + 2) B hS hl (by omega) (by omega) dL_law_842 dL_law_843 dL_law_844 dL_law_845 dL_law_846 ?_
  exact k
theorem case_22 (B : LB nc ns p Rm s m args c g FC FM D cA A b L xs) (hW : LW D cA A s FC FM σ τ H locs) (hR : Rel σ τ) (hl : lv_has lr 4 (lvL FC FM b n)) (hn : n + 4 < L)
    (kk : ∀ σ' τ' H1 locs1, LW D cA A s FC FM σ' τ' H1 locs1 → Rel σ' τ' → W p l e Rm s m args below meth c H1 locs1 nc ns Q (F0 m 1487 lr [])) : W p l e Rm s m args below meth c H locs nc ns Q (F0 m 855 lr []) := by
  refine lv_aload_n B.1.1 B.1.2.1 dL_law_855 rfl (lv_at hl 2 rfl) ?_
  refine L_arg (j := 1) (nj := n + 1) B hW.2.2.1 hl (by omega) (by omega) dL_law_856 dL_law_857 dL_law_858 dL_law_859 dL_law_860 ?_
  refine L_arg (j := 2) (nj := n + 2) B hW.2.2.1 hl (by omega) (by omega) dL_law_861 dL_law_862 dL_law_863 dL_law_864 dL_law_865 ?_
  refine L_TI (pc2 := 880) (as := [vI (xs (n + 1)).toInt, vI (xs (n + 2)).toInt]) B hW (T_unlike hR _ _) (okc (i32in _) (okc (i32in _) okn)) rfl hl.1 kX7_unlike sX7_unlike rfl wl_108 (ltb rfl) rfl kX8_unlike sX8_unlike rfl wl_111 (ltb rfl) rfl dL_law_866 dL_law_880 dL_law_883 (by decide) (fun v H1 locs1 hS k => ?_) kk
  refine lv_aload_n B.1.1 B.1.2.1 dL_law_869 rfl (lv_at hl 1 rfl) ?_
  refine L_arg (j := 1) (nj := n + 1) B hS hl (by omega) (by omega) dL_law_870 dL_law_871 dL_law_872 dL_law_873 dL_law_874 ?_
  refine L_arg (j := 2) (nj := n + 2) B hS hl (by omega) (by omega) dL_law_875 dL_law_876 dL_law_877 dL_law_878 dL_law_879 ?_
  exact k
theorem case_23 (B : LB nc ns p Rm s m args c g FC FM D cA A b L xs) (hW : LW D cA A s FC FM σ τ H locs) (hR : Rel σ τ) (hl : lv_has lr 4 (lvL FC FM b n)) (hn : n + 4 < L)
    (kk : ∀ σ' τ' H1 locs1, LW D cA A s FC FM σ' τ' H1 locs1 → Rel σ' τ' → W p l e Rm s m args below meth c H1 locs1 nc ns Q (F0 m 1487 lr [])) : W p l e Rm s m args below meth c H locs nc ns Q (F0 m 888 lr []) := by
  refine lv_aload_n B.1.1 B.1.2.1 dL_law_888 rfl (lv_at hl 2 rfl) ?_
  refine L_arg (j := 1) (nj := n + 1) B hW.2.2.1 hl (by omega) (by omega) dL_law_889 dL_law_890 dL_law_891 dL_law_892 dL_law_893 ?_
  refine L_TI (pc2 := 903) (as := [vI (xs (n + 1)).toInt]) B hW (T_best hR _) (okc (i32in _) okn) rfl hl.1 kX7_best sX7_best rfl wl_112 (ltb rfl) rfl kX8_best sX8_best rfl wl_115 (ltb rfl) rfl dL_law_894 dL_law_903 dL_law_906 (by decide) (fun v H1 locs1 hS k => ?_) kk
  refine lv_aload_n B.1.1 B.1.2.1 dL_law_897 rfl (lv_at hl 1 rfl) ?_
  refine L_arg (j := 1) (nj := n + 1) B hS hl (by omega) (by omega) dL_law_898 dL_law_899 dL_law_900 dL_law_901 dL_law_902 ?_
  exact k
theorem case_24 (B : LB nc ns p Rm s m args c g FC FM D cA A b L xs) (hW : LW D cA A s FC FM σ τ H locs) (hR : Rel σ τ) (hl : lv_has lr 4 (lvL FC FM b n)) (hn : n + 4 < L)
    (kk : ∀ σ' τ' H1 locs1, LW D cA A s FC FM σ' τ' H1 locs1 → Rel σ' τ' → W p l e Rm s m args below meth c H1 locs1 nc ns Q (F0 m 1487 lr [])) : W p l e Rm s m args below meth c H locs nc ns Q (F0 m 911 lr []) := by
  refine lv_aload_n B.1.1 B.1.2.1 dL_law_911 rfl (lv_at hl 2 rfl) ?_
  refine L_arg (j := 1) (nj := n + 1) B hW.2.2.1 hl (by omega) (by omega) dL_law_912 dL_law_913 dL_law_914 dL_law_915 dL_law_916 ?_
  refine L_arg (j := 2) (nj := n + 2) B hW.2.2.1 hl (by omega) (by omega) dL_law_917 dL_law_918 dL_law_919 dL_law_920 dL_law_921 ?_
  refine L_TI (pc2 := 936) (as := [vI (xs (n + 1)).toInt, vI (xs (n + 2)).toInt]) B hW (T_gains hR _ _) (okc (i32in _) (okc (i32in _) okn)) rfl hl.1 kX7_gains sX7_gains rfl wl_116 (ltb rfl) rfl kX8_gains sX8_gains rfl wl_119 (ltb rfl) rfl dL_law_922 dL_law_936 dL_law_939 (by decide) (fun v H1 locs1 hS k => ?_) kk
  refine lv_aload_n B.1.1 B.1.2.1 dL_law_925 rfl (lv_at hl 1 rfl) ?_
  refine L_arg (j := 1) (nj := n + 1) B hS hl (by omega) (by omega) dL_law_926 dL_law_927 dL_law_928 dL_law_929 dL_law_930 ?_
  refine L_arg (j := 2) (nj := n + 2) B hS hl (by omega) (by omega) dL_law_931 dL_law_932 dL_law_933 dL_law_934 dL_law_935 ?_
  exact k
theorem case_25 (B : LB nc ns p Rm s m args c g FC FM D cA A b L xs) (hW : LW D cA A s FC FM σ τ H locs) (hR : Rel σ τ) (hl : lv_has lr 4 (lvL FC FM b n)) (hn : n + 4 < L)
    (kk : ∀ σ' τ' H1 locs1, LW D cA A s FC FM σ' τ' H1 locs1 → Rel σ' τ' → W p l e Rm s m args below meth c H1 locs1 nc ns Q (F0 m 1487 lr [])) : W p l e Rm s m args below meth c H locs nc ns Q (F0 m 944 lr []) := by
  refine lv_aload_n B.1.1 B.1.2.1 dL_law_944 rfl (lv_at hl 2 rfl) ?_
  refine L_arg (j := 1) (nj := n + 1) B hW.2.2.1 hl (by omega) (by omega) dL_law_945 dL_law_946 dL_law_947 dL_law_948 dL_law_949 ?_
  refine L_arg (j := 2) (nj := n + 2) B hW.2.2.1 hl (by omega) (by omega) dL_law_950 dL_law_951 dL_law_952 dL_law_953 dL_law_954 ?_
  refine L_TI (pc2 := 969) (as := [vI (xs (n + 1)).toInt, vI (xs (n + 2)).toInt]) B hW (T_wants hR _ _) (okc (i32in _) (okc (i32in _) okn)) rfl hl.1 kX7_wants sX7_wants rfl wl_120 (ltb rfl) rfl kX8_wants sX8_wants rfl wl_123 (ltb rfl) rfl dL_law_955 dL_law_969 dL_law_972 (by decide) (fun v H1 locs1 hS k => ?_) kk
  refine lv_aload_n B.1.1 B.1.2.1 dL_law_958 rfl (lv_at hl 1 rfl) ?_
  refine L_arg (j := 1) (nj := n + 1) B hS hl (by omega) (by omega) dL_law_959 dL_law_960 dL_law_961 dL_law_962 dL_law_963 ?_
  refine L_arg (j := 2) (nj := n + 2) B hS hl (by omega) (by omega) dL_law_964 dL_law_965 dL_law_966 dL_law_967 dL_law_968 ?_
  exact k
theorem case_26 (B : LB nc ns p Rm s m args c g FC FM D cA A b L xs) (hW : LW D cA A s FC FM σ τ H locs) (hR : Rel σ τ) (hl : lv_has lr 4 (lvL FC FM b n)) (hn : n + 4 < L)
    (kk : ∀ σ' τ' H1 locs1, LW D cA A s FC FM σ' τ' H1 locs1 → Rel σ' τ' → W p l e Rm s m args below meth c H1 locs1 nc ns Q (F0 m 1487 lr [])) : W p l e Rm s m args below meth c H locs nc ns Q (F0 m 977 lr []) := by
  refine lv_aload_n B.1.1 B.1.2.1 dL_law_977 rfl (lv_at hl 2 rfl) ?_
  refine L_arg (j := 1) (nj := n + 1) B hW.2.2.1 hl (by omega) (by omega) dL_law_978 dL_law_979 dL_law_980 dL_law_981 dL_law_982 ?_
  refine L_arg (j := 2) (nj := n + 2) B hW.2.2.1 hl (by omega) (by omega) dL_law_983 dL_law_984 dL_law_985 dL_law_986 dL_law_987 ?_
  refine L_arg (j := 3) (nj := n + 3) B hW.2.2.1 hl (by omega) (by omega) dL_law_988 dL_law_989 dL_law_990 dL_law_991 dL_law_992 ?_
  refine L_TJ (pc2 := 1012) (as := [vI (xs (n + 1)).toInt, vI (xs (n + 2)).toInt, vI (xs (n + 3)).toInt]) B hW (T_mean hR _ _ _) (okc (i32in _) (okc (i32in _) (okc (i32in _) okn))) rfl hl.1 kX7_mean sX7_mean rfl wl_124 (ltb rfl) rfl kX8_mean sX8_mean rfl wl_128 (ltb rfl) rfl dL_law_993 dL_law_1012 dL_law_1015 dL_law_1016 (by decide) (fun v H1 locs1 hS k => ?_) kk
  refine lv_aload_n B.1.1 B.1.2.1 dL_law_996 rfl (lv_at hl 1 rfl) ?_
  refine L_arg (j := 1) (nj := n + 1) B hS hl (by omega) (by omega) dL_law_997 dL_law_998 dL_law_999 dL_law_1000 dL_law_1001 ?_
  refine L_arg (j := 2) (nj := n + 2) B hS hl (by omega) (by omega) dL_law_1002 dL_law_1003 dL_law_1004 dL_law_1005 dL_law_1006 ?_
  refine L_arg (j := 3) (nj := n + 3) B hS hl (by omega) (by omega) dL_law_1007 dL_law_1008 dL_law_1009 dL_law_1010 dL_law_1011 ?_
  exact k
theorem case_27 (B : LB nc ns p Rm s m args c g FC FM D cA A b L xs) (hW : LW D cA A s FC FM σ τ H locs) (hR : Rel σ τ) (hl : lv_has lr 4 (lvL FC FM b n)) (hn : n + 4 < L)
    (kk : ∀ σ' τ' H1 locs1, LW D cA A s FC FM σ' τ' H1 locs1 → Rel σ' τ' → W p l e Rm s m args below meth c H1 locs1 nc ns Q (F0 m 1487 lr [])) : W p l e Rm s m args below meth c H locs nc ns Q (F0 m 1021 lr []) := by
  refine lv_aload_n B.1.1 B.1.2.1 dL_law_1021 rfl (lv_at hl 2 rfl) ?_
  refine L_arg (j := 1) (nj := n + 1) B hW.2.2.1 hl (by omega) (by omega) dL_law_1022 dL_law_1023 dL_law_1024 dL_law_1025 dL_law_1026 ?_
  refine L_arg (j := 2) (nj := n + 2) B hW.2.2.1 hl (by omega) (by omega) dL_law_1027 dL_law_1028 dL_law_1029 dL_law_1030 dL_law_1031 ?_
  refine L_arg (j := 3) (nj := n + 3) B hW.2.2.1 hl (by omega) (by omega) dL_law_1032 dL_law_1033 dL_law_1034 dL_law_1035 dL_law_1036 ?_
  refine L_arg (j := 4) (nj := n + 4) B hW.2.2.1 hl (by omega) (by omega) dL_law_1037 dL_law_1038 dL_law_1039 dL_law_1040 dL_law_1041 ?_
  refine L_TJ (pc2 := 1066) (as := [vI (xs (n + 1)).toInt, vI (xs (n + 2)).toInt, vI (xs (n + 3)).toInt, vI (xs (n + 4)).toInt]) B hW (T_luck hR _ _ _ _) (okc (i32in _) (okc (i32in _) (okc (i32in _) (okc (i32in _) okn)))) rfl hl.1 kX7_luck sX7_luck rfl wl_129 (ltb rfl) rfl kX8_luck sX8_luck rfl wl_133 (ltb rfl) rfl dL_law_1042 dL_law_1066 dL_law_1069 dL_law_1070 (by decide) (fun v H1 locs1 hS k => ?_) kk
  refine lv_aload_n B.1.1 B.1.2.1 dL_law_1045 rfl (lv_at hl 1 rfl) ?_
  refine L_arg (j := 1) (nj := n + 1) B hS hl (by omega) (by omega) dL_law_1046 dL_law_1047 dL_law_1048 dL_law_1049 dL_law_1050 ?_
  refine L_arg (j := 2) (nj := n + 2) B hS hl (by omega) (by omega) dL_law_1051 dL_law_1052 dL_law_1053 dL_law_1054 dL_law_1055 ?_
  refine L_arg (j := 3) (nj := n + 3) B hS hl (by omega) (by omega) dL_law_1056 dL_law_1057 dL_law_1058 dL_law_1059 dL_law_1060 ?_
  refine L_arg (j := 4) (nj := n + 4) B hS hl (by omega) (by omega) dL_law_1061 dL_law_1062 dL_law_1063 dL_law_1064 dL_law_1065 ?_
  exact k
theorem case_28 (B : LB nc ns p Rm s m args c g FC FM D cA A b L xs) (hW : LW D cA A s FC FM σ τ H locs) (hR : Rel σ τ) (hl : lv_has lr 4 (lvL FC FM b n)) (hn : n + 4 < L)
    (kk : ∀ σ' τ' H1 locs1, LW D cA A s FC FM σ' τ' H1 locs1 → Rel σ' τ' → W p l e Rm s m args below meth c H1 locs1 nc ns Q (F0 m 1487 lr [])) : W p l e Rm s m args below meth c H locs nc ns Q (F0 m 1075 lr []) := by
  refine lv_aload_n B.1.1 B.1.2.1 dL_law_1075 rfl (lv_at hl 2 rfl) ?_
  refine L_arg (j := 1) (nj := n + 1) B hW.2.2.1 hl (by omega) (by omega) dL_law_1076 dL_law_1077 dL_law_1078 dL_law_1079 dL_law_1080 ?_
  refine L_arg (j := 2) (nj := n + 2) B hW.2.2.1 hl (by omega) (by omega) dL_law_1081 dL_law_1082 dL_law_1083 dL_law_1084 dL_law_1085 ?_
  refine L_TI (pc2 := 1100) (as := [vI (xs (n + 1)).toInt, vI (xs (n + 2)).toInt]) B hW (T_see hR _ _) (okc (i32in _) (okc (i32in _) okn)) rfl hl.1 kX7_see sX7_see rfl wl_134 (ltb rfl) rfl kX8_see sX8_see rfl wl_137 (ltb rfl) rfl dL_law_1086 dL_law_1100 dL_law_1103 (by decide) (fun v H1 locs1 hS k => ?_) kk
  refine lv_aload_n B.1.1 B.1.2.1 dL_law_1089 rfl (lv_at hl 1 rfl) ?_
  refine L_arg (j := 1) (nj := n + 1) B hS hl (by omega) (by omega) dL_law_1090 dL_law_1091 dL_law_1092 dL_law_1093 dL_law_1094 ?_
  refine L_arg (j := 2) (nj := n + 2) B hS hl (by omega) (by omega) dL_law_1095 dL_law_1096 dL_law_1097 dL_law_1098 dL_law_1099 ?_
  exact k
theorem case_29 (B : LB nc ns p Rm s m args c g FC FM D cA A b L xs) (hW : LW D cA A s FC FM σ τ H locs) (hR : Rel σ τ) (hl : lv_has lr 4 (lvL FC FM b n)) (hn : n + 4 < L)
    (kk : ∀ σ' τ' H1 locs1, LW D cA A s FC FM σ' τ' H1 locs1 → Rel σ' τ' → W p l e Rm s m args below meth c H1 locs1 nc ns Q (F0 m 1487 lr [])) : W p l e Rm s m args below meth c H locs nc ns Q (F0 m 1108 lr []) := by
  refine lv_aload_n B.1.1 B.1.2.1 dL_law_1108 rfl (lv_at hl 2 rfl) ?_
  refine L_arg (j := 1) (nj := n + 1) B hW.2.2.1 hl (by omega) (by omega) dL_law_1109 dL_law_1110 dL_law_1111 dL_law_1112 dL_law_1113 ?_
  refine L_TI (pc2 := 1123) (as := [vI (xs (n + 1)).toInt]) B hW (T_forget hR _) (okc (i32in _) okn) rfl hl.1 kX7_forget sX7_forget rfl wl_138 (ltb rfl) rfl kX8_forget sX8_forget rfl wl_141 (ltb rfl) rfl dL_law_1114 dL_law_1123 dL_law_1126 (by decide) (fun v H1 locs1 hS k => ?_) kk
  refine lv_aload_n B.1.1 B.1.2.1 dL_law_1117 rfl (lv_at hl 1 rfl) ?_
  refine L_arg (j := 1) (nj := n + 1) B hS hl (by omega) (by omega) dL_law_1118 dL_law_1119 dL_law_1120 dL_law_1121 dL_law_1122 ?_
  exact k
theorem case_30 (B : LB nc ns p Rm s m args c g FC FM D cA A b L xs) (hW : LW D cA A s FC FM σ τ H locs) (hR : Rel σ τ) (hl : lv_has lr 4 (lvL FC FM b n)) (hn : n + 4 < L)
    (kk : ∀ σ' τ' H1 locs1, LW D cA A s FC FM σ' τ' H1 locs1 → Rel σ' τ' → W p l e Rm s m args below meth c H1 locs1 nc ns Q (F0 m 1487 lr [])) : W p l e Rm s m args below meth c H locs nc ns Q (F0 m 1131 lr []) := by
  refine lv_aload_n B.1.1 B.1.2.1 dL_law_1131 rfl (lv_at hl 2 rfl) ?_
  refine L_TI (pc2 := 1136) (as := []) B hW (T_judges hR) okn rfl hl.1 kX7_judges sX7_judges rfl wl_142 (ltb rfl) rfl kX8_judges sX8_judges rfl wl_145 (ltb rfl) rfl dL_law_1132 dL_law_1136 dL_law_1139 (by decide) (fun v H1 locs1 hS k => ?_) kk
  refine lv_aload_n B.1.1 B.1.2.1 dL_law_1135 rfl (lv_at hl 1 rfl) ?_
  exact k
theorem case_31 (B : LB nc ns p Rm s m args c g FC FM D cA A b L xs) (hW : LW D cA A s FC FM σ τ H locs) (hR : Rel σ τ) (hl : lv_has lr 4 (lvL FC FM b n)) (hn : n + 4 < L)
    (kk : ∀ σ' τ' H1 locs1, LW D cA A s FC FM σ' τ' H1 locs1 → Rel σ' τ' → W p l e Rm s m args below meth c H1 locs1 nc ns Q (F0 m 1487 lr [])) : W p l e Rm s m args below meth c H locs nc ns Q (F0 m 1144 lr []) := by
  refine lv_aload_n B.1.1 B.1.2.1 dL_law_1144 rfl (lv_at hl 2 rfl) ?_
  refine L_arg (j := 1) (nj := n + 1) B hW.2.2.1 hl (by omega) (by omega) dL_law_1145 dL_law_1146 dL_law_1147 dL_law_1148 dL_law_1149 ?_
  refine L_TI (pc2 := 1159) (as := [vI (xs (n + 1)).toInt]) B hW (T_herds hR _) (okc (i32in _) okn) rfl hl.1 kX7_herds sX7_herds rfl wl_146 (ltb rfl) rfl kX8_herds sX8_herds rfl wl_149 (ltb rfl) rfl dL_law_1150 dL_law_1159 dL_law_1162 (by decide) (fun v H1 locs1 hS k => ?_) kk
  refine lv_aload_n B.1.1 B.1.2.1 dL_law_1153 rfl (lv_at hl 1 rfl) ?_
  refine L_arg (j := 1) (nj := n + 1) B hS hl (by omega) (by omega) dL_law_1154 dL_law_1155 dL_law_1156 dL_law_1157 dL_law_1158 ?_
  exact k
theorem case_32 (B : LB nc ns p Rm s m args c g FC FM D cA A b L xs) (hW : LW D cA A s FC FM σ τ H locs) (hR : Rel σ τ) (hl : lv_has lr 4 (lvL FC FM b n)) (hn : n + 4 < L)
    (kk : ∀ σ' τ' H1 locs1, LW D cA A s FC FM σ' τ' H1 locs1 → Rel σ' τ' → W p l e Rm s m args below meth c H1 locs1 nc ns Q (F0 m 1487 lr [])) : W p l e Rm s m args below meth c H locs nc ns Q (F0 m 1167 lr []) := by
  refine lv_aload_n B.1.1 B.1.2.1 dL_law_1167 rfl (lv_at hl 2 rfl) ?_
  refine L_arg (j := 1) (nj := n + 1) B hW.2.2.1 hl (by omega) (by omega) dL_law_1168 dL_law_1169 dL_law_1170 dL_law_1171 dL_law_1172 ?_
  refine L_arg (j := 2) (nj := n + 2) B hW.2.2.1 hl (by omega) (by omega) dL_law_1173 dL_law_1174 dL_law_1175 dL_law_1176 dL_law_1177 ?_
  refine L_TI (pc2 := 1192) (as := [vI (xs (n + 1)).toInt, vI (xs (n + 2)).toInt]) B hW (T_downs hR _ _) (okc (i32in _) (okc (i32in _) okn)) rfl hl.1 kX7_downs sX7_downs rfl wl_150 (ltb rfl) rfl kX8_downs sX8_downs rfl wl_153 (ltb rfl) rfl dL_law_1178 dL_law_1192 dL_law_1195 (by decide) (fun v H1 locs1 hS k => ?_) kk
  refine lv_aload_n B.1.1 B.1.2.1 dL_law_1181 rfl (lv_at hl 1 rfl) ?_
  refine L_arg (j := 1) (nj := n + 1) B hS hl (by omega) (by omega) dL_law_1182 dL_law_1183 dL_law_1184 dL_law_1185 dL_law_1186 ?_
  refine L_arg (j := 2) (nj := n + 2) B hS hl (by omega) (by omega) dL_law_1187 dL_law_1188 dL_law_1189 dL_law_1190 dL_law_1191 ?_
  exact k
theorem case_33 (B : LB nc ns p Rm s m args c g FC FM D cA A b L xs) (hW : LW D cA A s FC FM σ τ H locs) (hR : Rel σ τ) (hl : lv_has lr 4 (lvL FC FM b n)) (hn : n + 4 < L)
    (kk : ∀ σ' τ' H1 locs1, LW D cA A s FC FM σ' τ' H1 locs1 → Rel σ' τ' → W p l e Rm s m args below meth c H1 locs1 nc ns Q (F0 m 1487 lr [])) : W p l e Rm s m args below meth c H locs nc ns Q (F0 m 1200 lr []) := by
  refine lv_aload_n B.1.1 B.1.2.1 dL_law_1200 rfl (lv_at hl 2 rfl) ?_
  refine L_arg (j := 1) (nj := n + 1) B hW.2.2.1 hl (by omega) (by omega) dL_law_1201 dL_law_1202 dL_law_1203 dL_law_1204 dL_law_1205 ?_
  refine L_TI (pc2 := 1215) (as := [vI (xs (n + 1)).toInt]) B hW (T_ask hR _) (okc (i32in _) okn) rfl hl.1 kX7_ask sX7_ask rfl wl_154 (ltb rfl) rfl kX8_ask sX8_ask rfl wl_157 (ltb rfl) rfl dL_law_1206 dL_law_1215 dL_law_1218 (by decide) (fun v H1 locs1 hS k => ?_) kk
  refine lv_aload_n B.1.1 B.1.2.1 dL_law_1209 rfl (lv_at hl 1 rfl) ?_
  refine L_arg (j := 1) (nj := n + 1) B hS hl (by omega) (by omega) dL_law_1210 dL_law_1211 dL_law_1212 dL_law_1213 dL_law_1214 ?_
  exact k
theorem case_34 (B : LB nc ns p Rm s m args c g FC FM D cA A b L xs) (hW : LW D cA A s FC FM σ τ H locs) (hR : Rel σ τ) (hl : lv_has lr 4 (lvL FC FM b n)) (hn : n + 4 < L)
    (kk : ∀ σ' τ' H1 locs1, LW D cA A s FC FM σ' τ' H1 locs1 → Rel σ' τ' → W p l e Rm s m args below meth c H1 locs1 nc ns Q (F0 m 1487 lr [])) : W p l e Rm s m args below meth c H locs nc ns Q (F0 m 1223 lr []) := by
  refine lv_aload_n B.1.1 B.1.2.1 dL_law_1223 rfl (lv_at hl 2 rfl) ?_
  refine L_arg (j := 1) (nj := n + 1) B hW.2.2.1 hl (by omega) (by omega) dL_law_1224 dL_law_1225 dL_law_1226 dL_law_1227 dL_law_1228 ?_
  refine L_arg (j := 2) (nj := n + 2) B hW.2.2.1 hl (by omega) (by omega) dL_law_1229 dL_law_1230 dL_law_1231 dL_law_1232 dL_law_1233 ?_
  refine L_arg (j := 3) (nj := n + 3) B hW.2.2.1 hl (by omega) (by omega) dL_law_1234 dL_law_1235 dL_law_1236 dL_law_1237 dL_law_1238 ?_
  refine L_TI (pc2 := 1258) (as := [vI (xs (n + 1)).toInt, vI (xs (n + 2)).toInt, vI (xs (n + 3)).toInt]) B hW (T_drift hR _ _ _) (okc (i32in _) (okc (i32in _) (okc (i32in _) okn))) rfl hl.1 kX7_drift sX7_drift rfl wl_158 (ltb rfl) rfl kX8_drift sX8_drift rfl wl_161 (ltb rfl) rfl dL_law_1239 dL_law_1258 dL_law_1261 (by decide) (fun v H1 locs1 hS k => ?_) kk
  refine lv_aload_n B.1.1 B.1.2.1 dL_law_1242 rfl (lv_at hl 1 rfl) ?_
  refine L_arg (j := 1) (nj := n + 1) B hS hl (by omega) (by omega) dL_law_1243 dL_law_1244 dL_law_1245 dL_law_1246 dL_law_1247 ?_
  refine L_arg (j := 2) (nj := n + 2) B hS hl (by omega) (by omega) dL_law_1248 dL_law_1249 dL_law_1250 dL_law_1251 dL_law_1252 ?_
  refine L_arg (j := 3) (nj := n + 3) B hS hl (by omega) (by omega) dL_law_1253 dL_law_1254 dL_law_1255 dL_law_1256 dL_law_1257 ?_
  exact k
theorem case_35 (B : LB nc ns p Rm s m args c g FC FM D cA A b L xs) (hW : LW D cA A s FC FM σ τ H locs) (hR : Rel σ τ) (hl : lv_has lr 4 (lvL FC FM b n)) (hn : n + 4 < L)
    (kk : ∀ σ' τ' H1 locs1, LW D cA A s FC FM σ' τ' H1 locs1 → Rel σ' τ' → W p l e Rm s m args below meth c H1 locs1 nc ns Q (F0 m 1487 lr [])) : W p l e Rm s m args below meth c H locs nc ns Q (F0 m 1266 lr []) := by
  refine lv_aload_n B.1.1 B.1.2.1 dL_law_1266 rfl (lv_at hl 2 rfl) ?_
  refine L_arg (j := 1) (nj := n + 1) B hW.2.2.1 hl (by omega) (by omega) dL_law_1267 dL_law_1268 dL_law_1269 dL_law_1270 dL_law_1271 ?_
  refine L_TI (pc2 := 1281) (as := [vI (xs (n + 1)).toInt]) B hW (T_keep hR _) (okc (i32in _) okn) rfl hl.1 kX7_keep sX7_keep rfl wl_162 (ltb rfl) rfl kX8_keep sX8_keep rfl wl_165 (ltb rfl) rfl dL_law_1272 dL_law_1281 dL_law_1284 (by decide) (fun v H1 locs1 hS k => ?_) kk
  refine lv_aload_n B.1.1 B.1.2.1 dL_law_1275 rfl (lv_at hl 1 rfl) ?_
  refine L_arg (j := 1) (nj := n + 1) B hS hl (by omega) (by omega) dL_law_1276 dL_law_1277 dL_law_1278 dL_law_1279 dL_law_1280 ?_
  exact k
theorem case_36 (B : LB nc ns p Rm s m args c g FC FM D cA A b L xs) (hW : LW D cA A s FC FM σ τ H locs) (hR : Rel σ τ) (hl : lv_has lr 4 (lvL FC FM b n)) (hn : n + 4 < L)
    (kk : ∀ σ' τ' H1 locs1, LW D cA A s FC FM σ' τ' H1 locs1 → Rel σ' τ' → W p l e Rm s m args below meth c H1 locs1 nc ns Q (F0 m 1487 lr [])) : W p l e Rm s m args below meth c H locs nc ns Q (F0 m 1289 lr []) := by
  refine lv_aload_n B.1.1 B.1.2.1 dL_law_1289 rfl (lv_at hl 2 rfl) ?_
  refine L_arg (j := 1) (nj := n + 1) B hW.2.2.1 hl (by omega) (by omega) dL_law_1290 dL_law_1291 dL_law_1292 dL_law_1293 dL_law_1294 ?_
  refine L_TI (pc2 := 1304) (as := [vI (xs (n + 1)).toInt]) B hW (T_back hR _) (okc (i32in _) okn) rfl hl.1 kX7_back sX7_back rfl wl_166 (ltb rfl) rfl kX8_back sX8_back rfl wl_169 (ltb rfl) rfl dL_law_1295 dL_law_1304 dL_law_1307 (by decide) (fun v H1 locs1 hS k => ?_) kk
  refine lv_aload_n B.1.1 B.1.2.1 dL_law_1298 rfl (lv_at hl 1 rfl) ?_
  refine L_arg (j := 1) (nj := n + 1) B hS hl (by omega) (by omega) dL_law_1299 dL_law_1300 dL_law_1301 dL_law_1302 dL_law_1303 ?_
  exact k
theorem case_37 (B : LB nc ns p Rm s m args c g FC FM D cA A b L xs) (hW : LW D cA A s FC FM σ τ H locs) (hR : Rel σ τ) (hl : lv_has lr 4 (lvL FC FM b n)) (hn : n + 4 < L)
    (kk : ∀ σ' τ' H1 locs1, LW D cA A s FC FM σ' τ' H1 locs1 → Rel σ' τ' → W p l e Rm s m args below meth c H1 locs1 nc ns Q (F0 m 1487 lr [])) : W p l e Rm s m args below meth c H locs nc ns Q (F0 m 1312 lr []) := by
  refine lv_aload_n B.1.1 B.1.2.1 dL_law_1312 rfl (lv_at hl 2 rfl) ?_
  refine L_arg (j := 1) (nj := n + 1) B hW.2.2.1 hl (by omega) (by omega) dL_law_1313 dL_law_1314 dL_law_1315 dL_law_1316 dL_law_1317 ?_
  refine L_arg (j := 2) (nj := n + 2) B hW.2.2.1 hl (by omega) (by omega) dL_law_1318 dL_law_1319 dL_law_1320 dL_law_1321 dL_law_1322 ?_
  refine L_arg (j := 3) (nj := n + 3) B hW.2.2.1 hl (by omega) (by omega) dL_law_1323 dL_law_1324 dL_law_1325 dL_law_1326 dL_law_1327 ?_
  refine L_TI (pc2 := 1347) (as := [vI (xs (n + 1)).toInt, vI (xs (n + 2)).toInt, vI (xs (n + 3)).toInt]) B hW (T_sheet hR _ _ _) (okc (i32in _) (okc (i32in _) (okc (i32in _) okn))) rfl hl.1 kX7_sheet sX7_sheet rfl wl_170 (ltb rfl) rfl kX8_sheet sX8_sheet rfl wl_173 (ltb rfl) rfl dL_law_1328 dL_law_1347 dL_law_1350 (by decide) (fun v H1 locs1 hS k => ?_) kk
  refine lv_aload_n B.1.1 B.1.2.1 dL_law_1331 rfl (lv_at hl 1 rfl) ?_
  refine L_arg (j := 1) (nj := n + 1) B hS hl (by omega) (by omega) dL_law_1332 dL_law_1333 dL_law_1334 dL_law_1335 dL_law_1336 ?_
  refine L_arg (j := 2) (nj := n + 2) B hS hl (by omega) (by omega) dL_law_1337 dL_law_1338 dL_law_1339 dL_law_1340 dL_law_1341 ?_
  refine L_arg (j := 3) (nj := n + 3) B hS hl (by omega) (by omega) dL_law_1342 dL_law_1343 dL_law_1344 dL_law_1345 dL_law_1346 ?_
  exact k
theorem case_38 (B : LB nc ns p Rm s m args c g FC FM D cA A b L xs) (hW : LW D cA A s FC FM σ τ H locs) (hR : Rel σ τ) (hl : lv_has lr 4 (lvL FC FM b n)) (hn : n + 4 < L)
    (kk : ∀ σ' τ' H1 locs1, LW D cA A s FC FM σ' τ' H1 locs1 → Rel σ' τ' → W p l e Rm s m args below meth c H1 locs1 nc ns Q (F0 m 1487 lr [])) : W p l e Rm s m args below meth c H locs nc ns Q (F0 m 1355 lr []) := by
  refine lv_aload_n B.1.1 B.1.2.1 dL_law_1355 rfl (lv_at hl 2 rfl) ?_
  refine L_arg (j := 1) (nj := n + 1) B hW.2.2.1 hl (by omega) (by omega) dL_law_1356 dL_law_1357 dL_law_1358 dL_law_1359 dL_law_1360 ?_
  refine L_arg (j := 2) (nj := n + 2) B hW.2.2.1 hl (by omega) (by omega) dL_law_1361 dL_law_1362 dL_law_1363 dL_law_1364 dL_law_1365 ?_
  refine L_arg (j := 3) (nj := n + 3) B hW.2.2.1 hl (by omega) (by omega) dL_law_1366 dL_law_1367 dL_law_1368 dL_law_1369 dL_law_1370 ?_
  refine L_TI (pc2 := 1390) (as := [vI (xs (n + 1)).toInt, vI (xs (n + 2)).toInt, vI (xs (n + 3)).toInt]) B hW (T_lay hR _ _ _) (okc (i32in _) (okc (i32in _) (okc (i32in _) okn))) rfl hl.1 kX7_lay sX7_lay rfl wl_174 (ltb rfl) rfl kX8_lay sX8_lay rfl wl_177 (ltb rfl) rfl dL_law_1371 dL_law_1390 dL_law_1393 (by decide) (fun v H1 locs1 hS k => ?_) kk
  refine lv_aload_n B.1.1 B.1.2.1 dL_law_1374 rfl (lv_at hl 1 rfl) ?_
  refine L_arg (j := 1) (nj := n + 1) B hS hl (by omega) (by omega) dL_law_1375 dL_law_1376 dL_law_1377 dL_law_1378 dL_law_1379 ?_
  refine L_arg (j := 2) (nj := n + 2) B hS hl (by omega) (by omega) dL_law_1380 dL_law_1381 dL_law_1382 dL_law_1383 dL_law_1384 ?_
  refine L_arg (j := 3) (nj := n + 3) B hS hl (by omega) (by omega) dL_law_1385 dL_law_1386 dL_law_1387 dL_law_1388 dL_law_1389 ?_
  exact k
theorem case_39 (B : LB nc ns p Rm s m args c g FC FM D cA A b L xs) (hW : LW D cA A s FC FM σ τ H locs) (hR : Rel σ τ) (hl : lv_has lr 4 (lvL FC FM b n)) (hn : n + 4 < L)
    (kk : ∀ σ' τ' H1 locs1, LW D cA A s FC FM σ' τ' H1 locs1 → Rel σ' τ' → W p l e Rm s m args below meth c H1 locs1 nc ns Q (F0 m 1487 lr [])) : W p l e Rm s m args below meth c H locs nc ns Q (F0 m 1398 lr []) := by
  refine lv_aload_n B.1.1 B.1.2.1 dL_law_1398 rfl (lv_at hl 2 rfl) ?_
  refine L_arg (j := 1) (nj := n + 1) B hW.2.2.1 hl (by omega) (by omega) dL_law_1399 dL_law_1400 dL_law_1401 dL_law_1402 dL_law_1403 ?_
  refine L_arg (j := 2) (nj := n + 2) B hW.2.2.1 hl (by omega) (by omega) dL_law_1404 dL_law_1405 dL_law_1406 dL_law_1407 dL_law_1408 ?_
  refine L_arg (j := 3) (nj := n + 3) B hW.2.2.1 hl (by omega) (by omega) dL_law_1409 dL_law_1410 dL_law_1411 dL_law_1412 dL_law_1413 ?_
  refine L_arg (j := 4) (nj := n + 4) B hW.2.2.1 hl (by omega) (by omega) dL_law_1414 dL_law_1415 dL_law_1416 dL_law_1417 dL_law_1418 ?_
  refine L_TI (pc2 := 1443) (as := [vI (xs (n + 1)).toInt, vI (xs (n + 2)).toInt, vI (xs (n + 3)).toInt, vI (xs (n + 4)).toInt]) B hW (T_read hR _ _ _ _ (i32in _)) (okc (i32in _) (okc (i32in _) (okc (i32in _) (okc (i32in _) okn)))) rfl hl.1 kX7_read sX7_read rfl wl_178 (ltb rfl) rfl kX8_read sX8_read rfl wl_181 (ltb rfl) rfl dL_law_1419 dL_law_1443 dL_law_1446 (by decide) (fun v H1 locs1 hS k => ?_) kk
  refine lv_aload_n B.1.1 B.1.2.1 dL_law_1422 rfl (lv_at hl 1 rfl) ?_
  refine L_arg (j := 1) (nj := n + 1) B hS hl (by omega) (by omega) dL_law_1423 dL_law_1424 dL_law_1425 dL_law_1426 dL_law_1427 ?_
  refine L_arg (j := 2) (nj := n + 2) B hS hl (by omega) (by omega) dL_law_1428 dL_law_1429 dL_law_1430 dL_law_1431 dL_law_1432 ?_
  refine L_arg (j := 3) (nj := n + 3) B hS hl (by omega) (by omega) dL_law_1433 dL_law_1434 dL_law_1435 dL_law_1436 dL_law_1437 ?_
  refine L_arg (j := 4) (nj := n + 4) B hS hl (by omega) (by omega) dL_law_1438 dL_law_1439 dL_law_1440 dL_law_1441 dL_law_1442 ?_
  exact k
theorem case_40 (B : LB nc ns p Rm s m args c g FC FM D cA A b L xs) (hW : LW D cA A s FC FM σ τ H locs) (hR : Rel σ τ) (hl : lv_has lr 4 (lvL FC FM b n)) (hn : n + 4 < L)
    (kk : ∀ σ' τ' H1 locs1, LW D cA A s FC FM σ' τ' H1 locs1 → Rel σ' τ' → W p l e Rm s m args below meth c H1 locs1 nc ns Q (F0 m 1487 lr [])) : W p l e Rm s m args below meth c H locs nc ns Q (F0 m 1451 lr []) := by
  refine lv_aload_n B.1.1 B.1.2.1 dL_law_1451 rfl (lv_at hl 2 rfl) ?_
  refine L_TI (pc2 := 1456) (as := []) B hW (T_torn hR) okn rfl hl.1 kX7_torn sX7_torn rfl wl_182 (ltb rfl) rfl kX8_torn sX8_torn rfl wl_185 (ltb rfl) rfl dL_law_1452 dL_law_1456 dL_law_1459 (by decide) (fun v H1 locs1 hS k => ?_) kk
  refine lv_aload_n B.1.1 B.1.2.1 dL_law_1455 rfl (lv_at hl 1 rfl) ?_
  exact k
theorem case_41 (B : LB nc ns p Rm s m args c g FC FM D cA A b L xs) (hW : LW D cA A s FC FM σ τ H locs) (hR : Rel σ τ) (hl : lv_has lr 4 (lvL FC FM b n)) (hn : n + 4 < L)
    (kk : ∀ σ' τ' H1 locs1, LW D cA A s FC FM σ' τ' H1 locs1 → Rel σ' τ' → W p l e Rm s m args below meth c H1 locs1 nc ns Q (F0 m 1487 lr [])) : W p l e Rm s m args below meth c H locs nc ns Q (F0 m 1464 lr []) := by
  refine lv_aload_n B.1.1 B.1.2.1 dL_law_1464 rfl (lv_at hl 2 rfl) ?_
  refine L_arg (j := 1) (nj := n + 1) B hW.2.2.1 hl (by omega) (by omega) dL_law_1465 dL_law_1466 dL_law_1467 dL_law_1468 dL_law_1469 ?_
  refine L_TI (pc2 := 1479) (as := [vI (xs (n + 1)).toInt]) B hW (T_count hR _) (okc (i32in _) okn) rfl hl.1 kX7_count sX7_count rfl wl_186 (ltb rfl) rfl kX8_count sX8_count rfl wl_189 (ltb rfl) rfl dL_law_1470 dL_law_1479 dL_law_1482 (by decide) (fun v H1 locs1 hS k => ?_) kk
  refine lv_aload_n B.1.1 B.1.2.1 dL_law_1473 rfl (lv_at hl 1 rfl) ?_
  refine L_arg (j := 1) (nj := n + 1) B hS hl (by omega) (by omega) dL_law_1474 dL_law_1475 dL_law_1476 dL_law_1477 dL_law_1478 ?_
  exact k
end LC
