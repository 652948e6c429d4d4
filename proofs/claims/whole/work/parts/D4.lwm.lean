/-! The law: what it calls -/
theorem mkX9_type : sl_MK mX9_type 1 := ⟨gl_2 (List.mem_of_getElem? (i := 159) rfl) rfl, gl_1 (List.mem_of_getElem? (i := 1) rfl) rfl, by decide +kernel⟩
theorem mvX9_type : sl_MV mX9_type := ⟨gl_2 (List.mem_of_getElem? (i := 157) rfl) rfl, gl_2 (List.mem_of_getElem? (i := 158) rfl) rfl⟩
theorem mkX10_type : sl_MK mX10_type 1 := ⟨gl_5 (List.mem_of_getElem? (i := 117) rfl) rfl, gl_1 (List.mem_of_getElem? (i := 11) rfl) rfl, by decide +kernel⟩
theorem mvX10_type : sl_MV mX10_type := ⟨gl_5 (List.mem_of_getElem? (i := 115) rfl) rfl, gl_5 (List.mem_of_getElem? (i := 116) rfl) rfl⟩
theorem mkX9_clear : sl_MK mX9_clear 0 := ⟨gl_2 (List.mem_of_getElem? (i := 167) rfl) rfl, gl_1 (List.mem_of_getElem? (i := 1) rfl) rfl, by decide +kernel⟩
theorem mvX9_clear : sl_MV mX9_clear := ⟨gl_2 (List.mem_of_getElem? (i := 165) rfl) rfl, gl_2 (List.mem_of_getElem? (i := 166) rfl) rfl⟩
theorem mkX10_clear : sl_MK mX10_clear 0 := ⟨gl_5 (List.mem_of_getElem? (i := 132) rfl) rfl, gl_1 (List.mem_of_getElem? (i := 11) rfl) rfl, by decide +kernel⟩
theorem mvX10_clear : sl_MV mX10_clear := ⟨gl_5 (List.mem_of_getElem? (i := 130) rfl) rfl, gl_5 (List.mem_of_getElem? (i := 131) rfl) rfl⟩
theorem mkX9_reads : sl_MK mX9_reads 0 := ⟨gl_2 (List.mem_of_getElem? (i := 171) rfl) rfl, gl_1 (List.mem_of_getElem? (i := 1) rfl) rfl, by decide +kernel⟩
theorem mvX9_reads : sl_MV mX9_reads := ⟨gl_2 (List.mem_of_getElem? (i := 169) rfl) rfl, gl_2 (List.mem_of_getElem? (i := 170) rfl) rfl⟩
theorem mkX10_reads : sl_MK mX10_reads 0 := ⟨gl_5 (List.mem_of_getElem? (i := 136) rfl) rfl, gl_1 (List.mem_of_getElem? (i := 11) rfl) rfl, by decide +kernel⟩
theorem mvX10_reads : sl_MV mX10_reads := ⟨gl_5 (List.mem_of_getElem? (i := 134) rfl) rfl, gl_5 (List.mem_of_getElem? (i := 135) rfl) rfl⟩
theorem mkX9_statement : sl_MK mX9_statement 2 := ⟨gl_3 (List.mem_of_getElem? (i := 8) rfl) rfl, gl_1 (List.mem_of_getElem? (i := 1) rfl) rfl, by decide +kernel⟩
theorem mvX9_statement : sl_MV mX9_statement := ⟨gl_3 (List.mem_of_getElem? (i := 6) rfl) rfl, gl_3 (List.mem_of_getElem? (i := 7) rfl) rfl⟩
theorem mkX10_statement : sl_MK mX10_statement 2 := ⟨gl_6 (List.mem_of_getElem? (i := 134) rfl) rfl, gl_1 (List.mem_of_getElem? (i := 11) rfl) rfl, by decide +kernel⟩
theorem mvX10_statement : sl_MV mX10_statement := ⟨gl_6 (List.mem_of_getElem? (i := 132) rfl) rfl, gl_6 (List.mem_of_getElem? (i := 133) rfl) rfl⟩
theorem mkX9_sign : sl_MK mX9_sign 2 := ⟨gl_3 (List.mem_of_getElem? (i := 28) rfl) rfl, gl_1 (List.mem_of_getElem? (i := 1) rfl) rfl, by decide +kernel⟩
theorem mvX9_sign : sl_MV mX9_sign := ⟨gl_3 (List.mem_of_getElem? (i := 26) rfl) rfl, gl_3 (List.mem_of_getElem? (i := 27) rfl) rfl⟩
theorem mkX10_sign : sl_MK mX10_sign 2 := ⟨gl_6 (List.mem_of_getElem? (i := 142) rfl) rfl, gl_1 (List.mem_of_getElem? (i := 11) rfl) rfl, by decide +kernel⟩
theorem mvX10_sign : sl_MV mX10_sign := ⟨gl_6 (List.mem_of_getElem? (i := 140) rfl) rfl, gl_6 (List.mem_of_getElem? (i := 141) rfl) rfl⟩
theorem mkX9_runs : sl_MK mX9_runs 2 := ⟨gl_3 (List.mem_of_getElem? (i := 36) rfl) rfl, gl_1 (List.mem_of_getElem? (i := 1) rfl) rfl, by decide +kernel⟩
theorem mvX9_runs : sl_MV mX9_runs := ⟨gl_3 (List.mem_of_getElem? (i := 34) rfl) rfl, gl_3 (List.mem_of_getElem? (i := 35) rfl) rfl⟩
theorem mkX10_runs : sl_MK mX10_runs 2 := ⟨gl_6 (List.mem_of_getElem? (i := 150) rfl) rfl, gl_1 (List.mem_of_getElem? (i := 11) rfl) rfl, by decide +kernel⟩
theorem mvX10_runs : sl_MV mX10_runs := ⟨gl_6 (List.mem_of_getElem? (i := 148) rfl) rfl, gl_6 (List.mem_of_getElem? (i := 149) rfl) rfl⟩
theorem mkX9_ran : sl_MK mX9_ran 2 := ⟨gl_3 (List.mem_of_getElem? (i := 105) rfl) rfl, gl_1 (List.mem_of_getElem? (i := 1) rfl) rfl, by decide +kernel⟩
theorem mvX9_ran : sl_MV mX9_ran := ⟨gl_3 (List.mem_of_getElem? (i := 103) rfl) rfl, gl_3 (List.mem_of_getElem? (i := 104) rfl) rfl⟩
theorem mkX10_ran : sl_MK mX10_ran 2 := ⟨gl_6 (List.mem_of_getElem? (i := 181) rfl) rfl, gl_1 (List.mem_of_getElem? (i := 11) rfl) rfl, by decide +kernel⟩
theorem mvX10_ran : sl_MV mX10_ran := ⟨gl_6 (List.mem_of_getElem? (i := 179) rfl) rfl, gl_6 (List.mem_of_getElem? (i := 180) rfl) rfl⟩
theorem mkX9_span : sl_MK mX9_span 3 := ⟨gl_3 (List.mem_of_getElem? (i := 109) rfl) rfl, gl_1 (List.mem_of_getElem? (i := 1) rfl) rfl, by decide +kernel⟩
theorem mvX9_span : sl_MV mX9_span := ⟨gl_3 (List.mem_of_getElem? (i := 107) rfl) rfl, gl_3 (List.mem_of_getElem? (i := 108) rfl) rfl⟩
theorem mkX10_span : sl_MK mX10_span 3 := ⟨gl_5 (List.mem_of_getElem? (i := 178) rfl) rfl, gl_1 (List.mem_of_getElem? (i := 11) rfl) rfl, by decide +kernel⟩
theorem mvX10_span : sl_MV mX10_span := ⟨gl_5 (List.mem_of_getElem? (i := 176) rfl) rfl, gl_5 (List.mem_of_getElem? (i := 177) rfl) rfl⟩
theorem mkX9_hands : sl_MK mX9_hands 4 := ⟨gl_3 (List.mem_of_getElem? (i := 181) rfl) rfl, gl_1 (List.mem_of_getElem? (i := 1) rfl) rfl, by decide +kernel⟩
theorem mvX9_hands : sl_MV mX9_hands := ⟨gl_3 (List.mem_of_getElem? (i := 179) rfl) rfl, gl_3 (List.mem_of_getElem? (i := 180) rfl) rfl⟩
theorem mkX10_hands : sl_MK mX10_hands 4 := ⟨gl_6 (List.mem_of_getElem? (i := 30) rfl) rfl, gl_1 (List.mem_of_getElem? (i := 11) rfl) rfl, by decide +kernel⟩
theorem mvX10_hands : sl_MV mX10_hands := ⟨gl_6 (List.mem_of_getElem? (i := 28) rfl) rfl, gl_6 (List.mem_of_getElem? (i := 29) rfl) rfl⟩
theorem mkX9_live : sl_MK mX9_live 4 := ⟨gl_3 (List.mem_of_getElem? (i := 191) rfl) rfl, gl_1 (List.mem_of_getElem? (i := 1) rfl) rfl, by decide +kernel⟩
theorem mvX9_live : sl_MV mX9_live := ⟨gl_3 (List.mem_of_getElem? (i := 189) rfl) rfl, gl_3 (List.mem_of_getElem? (i := 190) rfl) rfl⟩
theorem mkX10_live : sl_MK mX10_live 4 := ⟨gl_6 (List.mem_of_getElem? (i := 46) rfl) rfl, gl_1 (List.mem_of_getElem? (i := 11) rfl) rfl, by decide +kernel⟩
theorem mvX10_live : sl_MV mX10_live := ⟨gl_6 (List.mem_of_getElem? (i := 44) rfl) rfl, gl_6 (List.mem_of_getElem? (i := 45) rfl) rfl⟩
theorem mkX9_sure : sl_MK mX9_sure 2 := ⟨gl_3 (List.mem_of_getElem? (i := 195) rfl) rfl, gl_1 (List.mem_of_getElem? (i := 1) rfl) rfl, by decide +kernel⟩
theorem mvX9_sure : sl_MV mX9_sure := ⟨gl_3 (List.mem_of_getElem? (i := 193) rfl) rfl, gl_3 (List.mem_of_getElem? (i := 194) rfl) rfl⟩
theorem mkX10_sure : sl_MK mX10_sure 2 := ⟨gl_6 (List.mem_of_getElem? (i := 50) rfl) rfl, gl_1 (List.mem_of_getElem? (i := 11) rfl) rfl, by decide +kernel⟩
theorem mvX10_sure : sl_MV mX10_sure := ⟨gl_6 (List.mem_of_getElem? (i := 48) rfl) rfl, gl_6 (List.mem_of_getElem? (i := 49) rfl) rfl⟩
theorem mkX9_alike : sl_MK mX9_alike 4 := ⟨gl_3 (List.mem_of_getElem? (i := 199) rfl) rfl, gl_1 (List.mem_of_getElem? (i := 1) rfl) rfl, by decide +kernel⟩
theorem mvX9_alike : sl_MV mX9_alike := ⟨gl_3 (List.mem_of_getElem? (i := 197) rfl) rfl, gl_3 (List.mem_of_getElem? (i := 198) rfl) rfl⟩
theorem mkX10_alike : sl_MK mX10_alike 4 := ⟨gl_6 (List.mem_of_getElem? (i := 54) rfl) rfl, gl_1 (List.mem_of_getElem? (i := 11) rfl) rfl, by decide +kernel⟩
theorem mvX10_alike : sl_MV mX10_alike := ⟨gl_6 (List.mem_of_getElem? (i := 52) rfl) rfl, gl_6 (List.mem_of_getElem? (i := 53) rfl) rfl⟩
theorem mkX9_lifts : sl_MK mX9_lifts 3 := ⟨gl_4 (List.mem_of_getElem? (i := 21) rfl) rfl, gl_1 (List.mem_of_getElem? (i := 1) rfl) rfl, by decide +kernel⟩
theorem mvX9_lifts : sl_MV mX9_lifts := ⟨gl_4 (List.mem_of_getElem? (i := 19) rfl) rfl, gl_4 (List.mem_of_getElem? (i := 20) rfl) rfl⟩
theorem mkX10_lifts : sl_MK mX10_lifts 3 := ⟨gl_6 (List.mem_of_getElem? (i := 86) rfl) rfl, gl_1 (List.mem_of_getElem? (i := 11) rfl) rfl, by decide +kernel⟩
theorem mvX10_lifts : sl_MV mX10_lifts := ⟨gl_6 (List.mem_of_getElem? (i := 84) rfl) rfl, gl_6 (List.mem_of_getElem? (i := 85) rfl) rfl⟩
theorem mkX9_method : sl_MK mX9_method 2 := ⟨gl_4 (List.mem_of_getElem? (i := 97) rfl) rfl, gl_1 (List.mem_of_getElem? (i := 1) rfl) rfl, by decide +kernel⟩
theorem mvX9_method : sl_MV mX9_method := ⟨gl_4 (List.mem_of_getElem? (i := 95) rfl) rfl, gl_4 (List.mem_of_getElem? (i := 96) rfl) rfl⟩
theorem mkX10_method : sl_MK mX10_method 2 := ⟨gl_6 (List.mem_of_getElem? (i := 110) rfl) rfl, gl_1 (List.mem_of_getElem? (i := 11) rfl) rfl, by decide +kernel⟩
theorem mvX10_method : sl_MV mX10_method := ⟨gl_6 (List.mem_of_getElem? (i := 108) rfl) rfl, gl_6 (List.mem_of_getElem? (i := 109) rfl) rfl⟩
theorem mkX9_formal : sl_MK mX9_formal 3 := ⟨gl_4 (List.mem_of_getElem? (i := 125) rfl) rfl, gl_1 (List.mem_of_getElem? (i := 1) rfl) rfl, by decide +kernel⟩
theorem mvX9_formal : sl_MV mX9_formal := ⟨gl_4 (List.mem_of_getElem? (i := 123) rfl) rfl, gl_4 (List.mem_of_getElem? (i := 124) rfl) rfl⟩
theorem mkX10_formal : sl_MK mX10_formal 3 := ⟨gl_6 (List.mem_of_getElem? (i := 130) rfl) rfl, gl_1 (List.mem_of_getElem? (i := 11) rfl) rfl, by decide +kernel⟩
theorem mvX10_formal : sl_MV mX10_formal := ⟨gl_6 (List.mem_of_getElem? (i := 128) rfl) rfl, gl_6 (List.mem_of_getElem? (i := 129) rfl) rfl⟩
theorem mkX9_settles : sl_MK mX9_settles 1 := ⟨gl_4 (List.mem_of_getElem? (i := 130) rfl) rfl, gl_1 (List.mem_of_getElem? (i := 1) rfl) rfl, by decide +kernel⟩
theorem mvX9_settles : sl_MV mX9_settles := ⟨gl_4 (List.mem_of_getElem? (i := 128) rfl) rfl, gl_4 (List.mem_of_getElem? (i := 129) rfl) rfl⟩
theorem mkX10_settles : sl_MK mX10_settles 1 := ⟨gl_6 (List.mem_of_getElem? (i := 102) rfl) rfl, gl_1 (List.mem_of_getElem? (i := 11) rfl) rfl, by decide +kernel⟩
theorem mvX10_settles : sl_MV mX10_settles := ⟨gl_6 (List.mem_of_getElem? (i := 100) rfl) rfl, gl_6 (List.mem_of_getElem? (i := 101) rfl) rfl⟩
theorem mkX9_back : sl_MK mX9_back 0 := ⟨gl_4 (List.mem_of_getElem? (i := 140) rfl) rfl, gl_1 (List.mem_of_getElem? (i := 1) rfl) rfl, by decide +kernel⟩
theorem mvX9_back : sl_MV mX9_back := ⟨gl_4 (List.mem_of_getElem? (i := 138) rfl) rfl, gl_4 (List.mem_of_getElem? (i := 139) rfl) rfl⟩
theorem mkX10_back : sl_MK mX10_back 0 := ⟨gl_6 (List.mem_of_getElem? (i := 185) rfl) rfl, gl_1 (List.mem_of_getElem? (i := 11) rfl) rfl, by decide +kernel⟩
theorem mvX10_back : sl_MV mX10_back := ⟨gl_6 (List.mem_of_getElem? (i := 183) rfl) rfl, gl_6 (List.mem_of_getElem? (i := 184) rfl) rfl⟩
theorem mkX9_told : sl_MK mX9_told 1 := ⟨gl_4 (List.mem_of_getElem? (i := 144) rfl) rfl, gl_1 (List.mem_of_getElem? (i := 1) rfl) rfl, by decide +kernel⟩
theorem mvX9_told : sl_MV mX9_told := ⟨gl_4 (List.mem_of_getElem? (i := 142) rfl) rfl, gl_4 (List.mem_of_getElem? (i := 143) rfl) rfl⟩
theorem mkX10_told : sl_MK mX10_told 1 := ⟨gl_6 (List.mem_of_getElem? (i := 189) rfl) rfl, gl_1 (List.mem_of_getElem? (i := 11) rfl) rfl, by decide +kernel⟩
theorem mvX10_told : sl_MV mX10_told := ⟨gl_6 (List.mem_of_getElem? (i := 187) rfl) rfl, gl_6 (List.mem_of_getElem? (i := 188) rfl) rfl⟩
theorem mkX9_digest : sl_MK mX9_digest 0 := ⟨gl_4 (List.mem_of_getElem? (i := 152) rfl) rfl, gl_1 (List.mem_of_getElem? (i := 1) rfl) rfl, by decide +kernel⟩
theorem mvX9_digest : sl_MV mX9_digest := ⟨gl_4 (List.mem_of_getElem? (i := 150) rfl) rfl, gl_4 (List.mem_of_getElem? (i := 151) rfl) rfl⟩
theorem mkX10_digest : sl_MK mX10_digest 0 := ⟨gl_6 (List.mem_of_getElem? (i := 197) rfl) rfl, gl_1 (List.mem_of_getElem? (i := 11) rfl) rfl, by decide +kernel⟩
theorem mvX10_digest : sl_MV mX10_digest := ⟨gl_6 (List.mem_of_getElem? (i := 195) rfl) rfl, gl_6 (List.mem_of_getElem? (i := 196) rfl) rfl⟩
theorem ll_13 : Cond.methodLink R_law 13 yX9_type ∈ sl_GL := gl_2 (List.mem_of_getElem? (i := 156) rfl) rfl
theorem lmX9_type : lwM mX9_type 0 RX9 1 13 130 := ⟨rfl, rfl, mkX9_type, mvX9_type, ll_13, ⟨nle, nle⟩, dw_130⟩
theorem ll_17 : Cond.methodLink R_law 17 yX10_type ∈ sl_GL := gl_5 (List.mem_of_getElem? (i := 114) rfl) rfl
theorem lmX10_type : lwM mX10_type 1 RX10 1 17 139 := ⟨rfl, rfl, mkX10_type, mvX10_type, ll_17, ⟨nle, nle⟩, dw_139⟩
theorem ll_18 : Cond.methodLink R_law 18 yX9_clear ∈ sl_GL := gl_2 (List.mem_of_getElem? (i := 164) rfl) rfl
theorem lmX9_clear : lwM mX9_clear 0 RX9 0 18 148 := ⟨rfl, rfl, mkX9_clear, mvX9_clear, ll_18, ⟨nle, nle⟩, dw_148⟩
theorem ll_22 : Cond.methodLink R_law 22 yX10_clear ∈ sl_GL := gl_5 (List.mem_of_getElem? (i := 129) rfl) rfl
theorem lmX10_clear : lwM mX10_clear 1 RX10 0 22 152 := ⟨rfl, rfl, mkX10_clear, mvX10_clear, ll_22, ⟨nle, nle⟩, dw_152⟩
theorem ll_23 : Cond.methodLink R_law 23 yX9_reads ∈ sl_GL := gl_2 (List.mem_of_getElem? (i := 168) rfl) rfl
theorem lmX9_reads : lwM mX9_reads 0 RX9 0 23 161 := ⟨rfl, rfl, mkX9_reads, mvX9_reads, ll_23, ⟨nle, nle⟩, dw_161⟩
theorem ll_26 : Cond.methodLink R_law 26 yX10_reads ∈ sl_GL := gl_5 (List.mem_of_getElem? (i := 133) rfl) rfl
theorem lmX10_reads : lwM mX10_reads 1 RX10 0 26 165 := ⟨rfl, rfl, mkX10_reads, mvX10_reads, ll_26, ⟨nle, nle⟩, dw_165⟩
theorem ll_27 : Cond.methodLink R_law 27 yX9_statement ∈ sl_GL := gl_3 (List.mem_of_getElem? (i := 5) rfl) rfl
theorem lmX9_statement : lwM mX9_statement 0 RX9 2 27 184 := ⟨rfl, rfl, mkX9_statement, mvX9_statement, ll_27, ⟨nle, nle⟩, dw_184⟩
theorem ll_31 : Cond.methodLink R_law 31 yX10_statement ∈ sl_GL := gl_6 (List.mem_of_getElem? (i := 131) rfl) rfl
theorem lmX10_statement : lwM mX10_statement 1 RX10 2 31 198 := ⟨rfl, rfl, mkX10_statement, mvX10_statement, ll_31, ⟨nle, nle⟩, dw_198⟩
theorem ll_32 : Cond.methodLink R_law 32 yX9_sign ∈ sl_GL := gl_3 (List.mem_of_getElem? (i := 25) rfl) rfl
theorem lmX9_sign : lwM mX9_sign 0 RX9 2 32 217 := ⟨rfl, rfl, mkX9_sign, mvX9_sign, ll_32, ⟨nle, nle⟩, dw_217⟩
theorem ll_35 : Cond.methodLink R_law 35 yX10_sign ∈ sl_GL := gl_6 (List.mem_of_getElem? (i := 139) rfl) rfl
theorem lmX10_sign : lwM mX10_sign 1 RX10 2 35 231 := ⟨rfl, rfl, mkX10_sign, mvX10_sign, ll_35, ⟨nle, nle⟩, dw_231⟩
theorem ll_36 : Cond.methodLink R_law 36 yX9_runs ∈ sl_GL := gl_3 (List.mem_of_getElem? (i := 33) rfl) rfl
theorem lmX9_runs : lwM mX9_runs 0 RX9 2 36 250 := ⟨rfl, rfl, mkX9_runs, mvX9_runs, ll_36, ⟨nle, nle⟩, dw_250⟩
theorem ll_39 : Cond.methodLink R_law 39 yX10_runs ∈ sl_GL := gl_6 (List.mem_of_getElem? (i := 147) rfl) rfl
theorem lmX10_runs : lwM mX10_runs 1 RX10 2 39 264 := ⟨rfl, rfl, mkX10_runs, mvX10_runs, ll_39, ⟨nle, nle⟩, dw_264⟩
theorem ll_40 : Cond.methodLink R_law 40 yX9_ran ∈ sl_GL := gl_3 (List.mem_of_getElem? (i := 102) rfl) rfl
theorem lmX9_ran : lwM mX9_ran 0 RX9 2 40 283 := ⟨rfl, rfl, mkX9_ran, mvX9_ran, ll_40, ⟨nle, nle⟩, dw_283⟩
theorem ll_43 : Cond.methodLink R_law 43 yX10_ran ∈ sl_GL := gl_6 (List.mem_of_getElem? (i := 178) rfl) rfl
theorem lmX10_ran : lwM mX10_ran 1 RX10 2 43 297 := ⟨rfl, rfl, mkX10_ran, mvX10_ran, ll_43, ⟨nle, nle⟩, dw_297⟩
theorem ll_44 : Cond.methodLink R_law 44 yX9_span ∈ sl_GL := gl_3 (List.mem_of_getElem? (i := 106) rfl) rfl
theorem lmX9_span : lwM mX9_span 0 RX9 3 44 321 := ⟨rfl, rfl, mkX9_span, mvX9_span, ll_44, ⟨nle, nle⟩, dw_321⟩
theorem ll_48 : Cond.methodLink R_law 48 yX10_span ∈ sl_GL := gl_5 (List.mem_of_getElem? (i := 175) rfl) rfl
theorem lmX10_span : lwM mX10_span 1 RX10 3 48 340 := ⟨rfl, rfl, mkX10_span, mvX10_span, ll_48, ⟨nle, nle⟩, dw_340⟩
theorem ll_49 : Cond.methodLink R_law 49 yX9_hands ∈ sl_GL := gl_3 (List.mem_of_getElem? (i := 178) rfl) rfl
theorem lmX9_hands : lwM mX9_hands 0 RX9 4 49 369 := ⟨rfl, rfl, mkX9_hands, mvX9_hands, ll_49, ⟨nle, nle⟩, dw_369⟩
theorem ll_53 : Cond.methodLink R_law 53 yX10_hands ∈ sl_GL := gl_6 (List.mem_of_getElem? (i := 27) rfl) rfl
theorem lmX10_hands : lwM mX10_hands 1 RX10 4 53 393 := ⟨rfl, rfl, mkX10_hands, mvX10_hands, ll_53, ⟨nle, nle⟩, dw_393⟩
theorem ll_54 : Cond.methodLink R_law 54 yX9_live ∈ sl_GL := gl_3 (List.mem_of_getElem? (i := 188) rfl) rfl
theorem lmX9_live : lwM mX9_live 0 RX9 4 54 422 := ⟨rfl, rfl, mkX9_live, mvX9_live, ll_54, ⟨nle, nle⟩, dw_422⟩
theorem ll_57 : Cond.methodLink R_law 57 yX10_live ∈ sl_GL := gl_6 (List.mem_of_getElem? (i := 43) rfl) rfl
theorem lmX10_live : lwM mX10_live 1 RX10 4 57 446 := ⟨rfl, rfl, mkX10_live, mvX10_live, ll_57, ⟨nle, nle⟩, dw_446⟩
theorem ll_58 : Cond.methodLink R_law 58 yX9_sure ∈ sl_GL := gl_3 (List.mem_of_getElem? (i := 192) rfl) rfl
theorem lmX9_sure : lwM mX9_sure 0 RX9 2 58 465 := ⟨rfl, rfl, mkX9_sure, mvX9_sure, ll_58, ⟨nle, nle⟩, dw_465⟩
theorem ll_61 : Cond.methodLink R_law 61 yX10_sure ∈ sl_GL := gl_6 (List.mem_of_getElem? (i := 47) rfl) rfl
theorem lmX10_sure : lwM mX10_sure 1 RX10 2 61 479 := ⟨rfl, rfl, mkX10_sure, mvX10_sure, ll_61, ⟨nle, nle⟩, dw_479⟩
theorem ll_62 : Cond.methodLink R_law 62 yX9_alike ∈ sl_GL := gl_3 (List.mem_of_getElem? (i := 196) rfl) rfl
theorem lmX9_alike : lwM mX9_alike 0 RX9 4 62 508 := ⟨rfl, rfl, mkX9_alike, mvX9_alike, ll_62, ⟨nle, nle⟩, dw_508⟩
theorem ll_65 : Cond.methodLink R_law 65 yX10_alike ∈ sl_GL := gl_6 (List.mem_of_getElem? (i := 51) rfl) rfl
theorem lmX10_alike : lwM mX10_alike 1 RX10 4 65 532 := ⟨rfl, rfl, mkX10_alike, mvX10_alike, ll_65, ⟨nle, nle⟩, dw_532⟩
theorem ll_66 : Cond.methodLink R_law 66 yX9_lifts ∈ sl_GL := gl_4 (List.mem_of_getElem? (i := 18) rfl) rfl
theorem lmX9_lifts : lwM mX9_lifts 0 RX9 3 66 556 := ⟨rfl, rfl, mkX9_lifts, mvX9_lifts, ll_66, ⟨nle, nle⟩, dw_556⟩
theorem ll_69 : Cond.methodLink R_law 69 yX10_lifts ∈ sl_GL := gl_6 (List.mem_of_getElem? (i := 83) rfl) rfl
theorem lmX10_lifts : lwM mX10_lifts 1 RX10 3 69 575 := ⟨rfl, rfl, mkX10_lifts, mvX10_lifts, ll_69, ⟨nle, nle⟩, dw_575⟩
theorem ll_70 : Cond.methodLink R_law 70 yX9_method ∈ sl_GL := gl_4 (List.mem_of_getElem? (i := 94) rfl) rfl
theorem lmX9_method : lwM mX9_method 0 RX9 2 70 594 := ⟨rfl, rfl, mkX9_method, mvX9_method, ll_70, ⟨nle, nle⟩, dw_594⟩
theorem ll_73 : Cond.methodLink R_law 73 yX10_method ∈ sl_GL := gl_6 (List.mem_of_getElem? (i := 107) rfl) rfl
theorem lmX10_method : lwM mX10_method 1 RX10 2 73 608 := ⟨rfl, rfl, mkX10_method, mvX10_method, ll_73, ⟨nle, nle⟩, dw_608⟩
theorem ll_74 : Cond.methodLink R_law 74 yX9_formal ∈ sl_GL := gl_4 (List.mem_of_getElem? (i := 122) rfl) rfl
theorem lmX9_formal : lwM mX9_formal 0 RX9 3 74 632 := ⟨rfl, rfl, mkX9_formal, mvX9_formal, ll_74, ⟨nle, nle⟩, dw_632⟩
theorem ll_77 : Cond.methodLink R_law 77 yX10_formal ∈ sl_GL := gl_6 (List.mem_of_getElem? (i := 127) rfl) rfl
theorem lmX10_formal : lwM mX10_formal 1 RX10 3 77 651 := ⟨rfl, rfl, mkX10_formal, mvX10_formal, ll_77, ⟨nle, nle⟩, dw_651⟩
theorem ll_78 : Cond.methodLink R_law 78 yX9_settles ∈ sl_GL := gl_4 (List.mem_of_getElem? (i := 127) rfl) rfl
theorem lmX9_settles : lwM mX9_settles 0 RX9 1 78 665 := ⟨rfl, rfl, mkX9_settles, mvX9_settles, ll_78, ⟨nle, nle⟩, dw_665⟩
theorem ll_81 : Cond.methodLink R_law 81 yX10_settles ∈ sl_GL := gl_6 (List.mem_of_getElem? (i := 99) rfl) rfl
theorem lmX10_settles : lwM mX10_settles 1 RX10 1 81 674 := ⟨rfl, rfl, mkX10_settles, mvX10_settles, ll_81, ⟨nle, nle⟩, dw_674⟩
theorem ll_82 : Cond.methodLink R_law 82 yX9_back ∈ sl_GL := gl_4 (List.mem_of_getElem? (i := 137) rfl) rfl
theorem lmX9_back : lwM mX9_back 0 RX9 0 82 683 := ⟨rfl, rfl, mkX9_back, mvX9_back, ll_82, ⟨nle, nle⟩, dw_683⟩
theorem ll_85 : Cond.methodLink R_law 85 yX10_back ∈ sl_GL := gl_6 (List.mem_of_getElem? (i := 182) rfl) rfl
theorem lmX10_back : lwM mX10_back 1 RX10 0 85 687 := ⟨rfl, rfl, mkX10_back, mvX10_back, ll_85, ⟨nle, nle⟩, dw_687⟩
theorem ll_86 : Cond.methodLink R_law 86 yX9_told ∈ sl_GL := gl_4 (List.mem_of_getElem? (i := 141) rfl) rfl
theorem lmX9_told : lwM mX9_told 0 RX9 1 86 701 := ⟨rfl, rfl, mkX9_told, mvX9_told, ll_86, ⟨nle, nle⟩, dw_701⟩
theorem ll_89 : Cond.methodLink R_law 89 yX10_told ∈ sl_GL := gl_6 (List.mem_of_getElem? (i := 186) rfl) rfl
theorem lmX10_told : lwM mX10_told 1 RX10 1 89 710 := ⟨rfl, rfl, mkX10_told, mvX10_told, ll_89, ⟨nle, nle⟩, dw_710⟩
theorem ll_90 : Cond.methodLink R_law 90 yX9_digest ∈ sl_GL := gl_4 (List.mem_of_getElem? (i := 149) rfl) rfl
theorem lmX9_digest : lwM mX9_digest 0 RX9 0 90 719 := ⟨rfl, rfl, mkX9_digest, mvX9_digest, ll_90, ⟨nle, nle⟩, dw_719⟩
theorem ll_94 : Cond.methodLink R_law 94 yX10_digest ∈ sl_GL := gl_6 (List.mem_of_getElem? (i := 194) rfl) rfl
theorem lmX10_digest : lwM mX10_digest 1 RX10 0 94 723 := ⟨rfl, rfl, mkX10_digest, mvX10_digest, ll_94, ⟨nle, nle⟩, dw_723⟩
