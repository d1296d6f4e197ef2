/-! the law's own methods: decoded code, links; by program (wip/whole/mklaw.py) -/
abbrev mL_one : Mx := (yL_one, cL_one, 5, some .int)
abbrev mL_row : Mx := (yL_row, cL_row, 4, some .int)
abbrev mL_law : Mx := (yL_law, cL_law, 8, ret)
def kL_one : List (Nat × Instr × Nat) := [(0, .aload_n 3, 1), (1, .iconst 0, 1), (2, .aload_n 0, 1), (3, .iload_n 1, 1), (4, .iload_n 2, 1), (5, .invokevirtual 7, 3), (8, .i2l, 1), (9, .lastore, 1), (10, .goto 7, 3), (13, .astore 4, 2), (15, .iconst 1, 1), (16, .ireturn, 1), (17, .iconst 0, 1), (18, .ireturn, 1)]
theorem okL_one : ∀ q ∈ kL_one, decode cL_one q.1 = .ok (q.2.1, q.2.2) := dkL (by decide +kernel)
theorem wkL_one_s : Cond.static yL_one ∈ Tg := in_Tg (in_t5 (List.mem_of_getElem? (i := 69) (by decide +kernel))) rfl
theorem wkL_one_i : Cond.initialized yL_one.cls ∈ Tg := in_Tg (in_t1 (List.mem_of_getElem? (i := 0) (by decide +kernel))) rfl
theorem wkL_one_c : Cond.codeWith yL_one cL_one 5 (some .int) [(0, 10, 13, 13)] ∈ Tg := in_Tg (in_t5 (List.mem_of_getElem? (i := 70) (by decide +kernel))) rfl
def kL_row : List (Nat × Instr × Nat) := [(0, .aload_n 2, 1), (1, .iconst 0, 1), (2, .aload_n 0, 1), (3, .iload_n 1, 1), (4, .invokevirtual 15, 3), (7, .lastore, 1), (8, .goto 6, 3), (11, .astore_n 3, 1), (12, .iconst 1, 1), (13, .ireturn, 1), (14, .iconst 0, 1), (15, .ireturn, 1)]
theorem okL_row : ∀ q ∈ kL_row, decode cL_row q.1 = .ok (q.2.1, q.2.2) := dkL (by decide +kernel)
theorem wkL_row_s : Cond.static yL_row ∈ Tg := in_Tg (in_t5 (List.mem_of_getElem? (i := 144) (by decide +kernel))) rfl
theorem wkL_row_i : Cond.initialized yL_row.cls ∈ Tg := in_Tg (in_t1 (List.mem_of_getElem? (i := 0) (by decide +kernel))) rfl
theorem wkL_row_c : Cond.codeWith yL_row cL_row 4 (some .int) [(0, 8, 11, 13)] ∈ Tg := in_Tg (in_t5 (List.mem_of_getElem? (i := 145) (by decide +kernel))) rfl
theorem wkL_x : Cond.classLink RL 13 xsC ∈ Tg := in_Tg (in_t5 (List.mem_of_getElem? (i := 71) (by decide +kernel))) rfl
theorem lkL_7 : Cond.methodLink RL 7 yX11_one ∈ Tg := in_Tg (in_t5 (List.mem_of_getElem? (i := 72) (by decide +kernel))) rfl
theorem lkL_15 : Cond.methodLink RL 15 yX11_row ∈ Tg := in_Tg (in_t5 (List.mem_of_getElem? (i := 146) (by decide +kernel))) rfl
theorem lkL_23 : Cond.methodLink RL 23 yX11_sign ∈ Tg := in_Tg (in_t2 (List.mem_of_getElem? (i := 84) (by decide +kernel))) rfl
theorem lkL_27 : Cond.methodLink RL 27 yX12_sign ∈ Tg := in_Tg (in_t6 (List.mem_of_getElem? (i := 56) (by decide +kernel))) rfl
theorem lkL_28 : Cond.methodLink RL 28 yX11_end ∈ Tg := in_Tg (in_t2 (List.mem_of_getElem? (i := 92) (by decide +kernel))) rfl
theorem lkL_32 : Cond.methodLink RL 32 yX12_end ∈ Tg := in_Tg (in_t6 (List.mem_of_getElem? (i := 60) (by decide +kernel))) rfl
theorem lkL_33 : Cond.methodLink RL 33 yX11_people ∈ Tg := in_Tg (in_t2 (List.mem_of_getElem? (i := 100) (by decide +kernel))) rfl
theorem lkL_37 : Cond.methodLink RL 37 yX12_people ∈ Tg := in_Tg (in_t6 (List.mem_of_getElem? (i := 67) (by decide +kernel))) rfl
theorem lkL_38 : Cond.methodLink RL 38 yX11_rule ∈ Tg := in_Tg (in_t2 (List.mem_of_getElem? (i := 143) (by decide +kernel))) rfl
theorem lkL_41 : Cond.methodLink RL 41 yX12_rule ∈ Tg := in_Tg (in_t6 (List.mem_of_getElem? (i := 135) (by decide +kernel))) rfl
theorem lkL_42 : Cond.methodLink RL 42 yL_one ∈ Tg := in_Tg (in_t5 (List.mem_of_getElem? (i := 68) (by decide +kernel))) rfl
theorem lkL_47 : Cond.methodLink RL 47 yX12_one ∈ Tg := in_Tg (in_t6 (List.mem_of_getElem? (i := 163) (by decide +kernel))) rfl
theorem lkL_48 : Cond.methodLink RL 48 yX12_thrown ∈ Tg := in_Tg (in_t5 (List.mem_of_getElem? (i := 150) (by decide +kernel))) rfl
theorem lkL_51 : Cond.methodLink RL 51 yX11_sheet ∈ Tg := in_Tg (in_t3 (List.mem_of_getElem? (i := 54) (by decide +kernel))) rfl
theorem lkL_55 : Cond.methodLink RL 55 yX12_sheet ∈ Tg := in_Tg (in_t6 (List.mem_of_getElem? (i := 219) (by decide +kernel))) rfl
theorem lkL_56 : Cond.methodLink RL 56 yX11_minutes ∈ Tg := in_Tg (in_t3 (List.mem_of_getElem? (i := 63) (by decide +kernel))) rfl
theorem lkL_59 : Cond.methodLink RL 59 yX12_minutes ∈ Tg := in_Tg (in_t6 (List.mem_of_getElem? (i := 229) (by decide +kernel))) rfl
theorem lkL_60 : Cond.methodLink RL 60 yX11_leads ∈ Tg := in_Tg (in_t3 (List.mem_of_getElem? (i := 134) (by decide +kernel))) rfl
theorem lkL_63 : Cond.methodLink RL 63 yX12_leads ∈ Tg := in_Tg (in_t7 (List.mem_of_getElem? (i := 19) (by decide +kernel))) rfl
theorem lkL_64 : Cond.methodLink RL 64 yX11_sacks ∈ Tg := in_Tg (in_t3 (List.mem_of_getElem? (i := 150) (by decide +kernel))) rfl
theorem lkL_67 : Cond.methodLink RL 67 yX12_sacks ∈ Tg := in_Tg (in_t7 (List.mem_of_getElem? (i := 32) (by decide +kernel))) rfl
theorem lkL_68 : Cond.methodLink RL 68 yX11_steps ∈ Tg := in_Tg (in_t3 (List.mem_of_getElem? (i := 158) (by decide +kernel))) rfl
theorem lkL_71 : Cond.methodLink RL 71 yX12_steps ∈ Tg := in_Tg (in_t7 (List.mem_of_getElem? (i := 44) (by decide +kernel))) rfl
theorem lkL_72 : Cond.methodLink RL 72 yX11_turnsTo ∈ Tg := in_Tg (in_t3 (List.mem_of_getElem? (i := 170) (by decide +kernel))) rfl
theorem lkL_75 : Cond.methodLink RL 75 yX12_turnsTo ∈ Tg := in_Tg (in_t7 (List.mem_of_getElem? (i := 52) (by decide +kernel))) rfl
theorem lkL_76 : Cond.methodLink RL 76 yX11_noon ∈ Tg := in_Tg (in_t3 (List.mem_of_getElem? (i := 178) (by decide +kernel))) rfl
theorem lkL_79 : Cond.methodLink RL 79 yX12_noon ∈ Tg := in_Tg (in_t7 (List.mem_of_getElem? (i := 60) (by decide +kernel))) rfl
theorem lkL_80 : Cond.methodLink RL 80 yX11_morning ∈ Tg := in_Tg (in_t3 (List.mem_of_getElem? (i := 186) (by decide +kernel))) rfl
theorem lkL_83 : Cond.methodLink RL 83 yX12_morning ∈ Tg := in_Tg (in_t7 (List.mem_of_getElem? (i := 64) (by decide +kernel))) rfl
theorem lkL_84 : Cond.methodLink RL 84 yX11_undo ∈ Tg := in_Tg (in_t3 (List.mem_of_getElem? (i := 207) (by decide +kernel))) rfl
theorem lkL_87 : Cond.methodLink RL 87 yX12_undo ∈ Tg := in_Tg (in_t6 (List.mem_of_getElem? (i := 225) (by decide +kernel))) rfl
theorem lkL_88 : Cond.methodLink RL 88 yX11_tips ∈ Tg := in_Tg (in_t3 (List.mem_of_getElem? (i := 219) (by decide +kernel))) rfl
theorem lkL_91 : Cond.methodLink RL 91 yX12_tips ∈ Tg := in_Tg (in_t7 (List.mem_of_getElem? (i := 78) (by decide +kernel))) rfl
theorem lkL_92 : Cond.methodLink RL 92 yX11_later ∈ Tg := in_Tg (in_t3 (List.mem_of_getElem? (i := 237) (by decide +kernel))) rfl
theorem lkL_95 : Cond.methodLink RL 95 yX12_later ∈ Tg := in_Tg (in_t7 (List.mem_of_getElem? (i := 86) (by decide +kernel))) rfl
theorem lkL_96 : Cond.methodLink RL 96 yX11_decides ∈ Tg := in_Tg (in_t4 (List.mem_of_getElem? (i := 6) (by decide +kernel))) rfl
theorem lkL_99 : Cond.methodLink RL 99 yX12_decides ∈ Tg := in_Tg (in_t7 (List.mem_of_getElem? (i := 94) (by decide +kernel))) rfl
theorem lkL_100 : Cond.methodLink RL 100 yX11_spares ∈ Tg := in_Tg (in_t4 (List.mem_of_getElem? (i := 18) (by decide +kernel))) rfl
theorem lkL_103 : Cond.methodLink RL 103 yX12_spares ∈ Tg := in_Tg (in_t7 (List.mem_of_getElem? (i := 106) (by decide +kernel))) rfl
theorem lkL_104 : Cond.methodLink RL 104 yX11_swings ∈ Tg := in_Tg (in_t4 (List.mem_of_getElem? (i := 23) (by decide +kernel))) rfl
theorem lkL_107 : Cond.methodLink RL 107 yX12_swings ∈ Tg := in_Tg (in_t7 (List.mem_of_getElem? (i := 111) (by decide +kernel))) rfl
theorem lkL_108 : Cond.methodLink RL 108 yX11_level ∈ Tg := in_Tg (in_t4 (List.mem_of_getElem? (i := 28) (by decide +kernel))) rfl
theorem lkL_111 : Cond.methodLink RL 111 yX12_level ∈ Tg := in_Tg (in_t7 (List.mem_of_getElem? (i := 115) (by decide +kernel))) rfl
theorem lkL_112 : Cond.methodLink RL 112 yX11_rest ∈ Tg := in_Tg (in_t4 (List.mem_of_getElem? (i := 32) (by decide +kernel))) rfl
theorem lkL_115 : Cond.methodLink RL 115 yX12_rest ∈ Tg := in_Tg (in_t7 (List.mem_of_getElem? (i := 119) (by decide +kernel))) rfl
theorem lkL_116 : Cond.methodLink RL 116 yX11_walks ∈ Tg := in_Tg (in_t4 (List.mem_of_getElem? (i := 36) (by decide +kernel))) rfl
theorem lkL_119 : Cond.methodLink RL 119 yX12_walks ∈ Tg := in_Tg (in_t7 (List.mem_of_getElem? (i := 123) (by decide +kernel))) rfl
theorem lkL_120 : Cond.methodLink RL 120 yX11_wall ∈ Tg := in_Tg (in_t4 (List.mem_of_getElem? (i := 66) (by decide +kernel))) rfl
theorem lkL_123 : Cond.methodLink RL 123 yX12_wall ∈ Tg := in_Tg (in_t7 (List.mem_of_getElem? (i := 138) (by decide +kernel))) rfl
theorem lkL_124 : Cond.methodLink RL 124 yX11_bears ∈ Tg := in_Tg (in_t4 (List.mem_of_getElem? (i := 91) (by decide +kernel))) rfl
theorem lkL_127 : Cond.methodLink RL 127 yX12_bears ∈ Tg := in_Tg (in_t7 (List.mem_of_getElem? (i := 149) (by decide +kernel))) rfl
theorem lkL_128 : Cond.methodLink RL 128 yX11_canvass ∈ Tg := in_Tg (in_t4 (List.mem_of_getElem? (i := 95) (by decide +kernel))) rfl
theorem lkL_131 : Cond.methodLink RL 131 yX12_canvass ∈ Tg := in_Tg (in_t7 (List.mem_of_getElem? (i := 153) (by decide +kernel))) rfl
theorem lkL_132 : Cond.methodLink RL 132 yX11_clears ∈ Tg := in_Tg (in_t4 (List.mem_of_getElem? (i := 103) (by decide +kernel))) rfl
theorem lkL_135 : Cond.methodLink RL 135 yX12_clears ∈ Tg := in_Tg (in_t7 (List.mem_of_getElem? (i := 161) (by decide +kernel))) rfl
theorem lkL_136 : Cond.methodLink RL 136 yX11_heads ∈ Tg := in_Tg (in_t4 (List.mem_of_getElem? (i := 107) (by decide +kernel))) rfl
theorem lkL_139 : Cond.methodLink RL 139 yX12_heads ∈ Tg := in_Tg (in_t7 (List.mem_of_getElem? (i := 165) (by decide +kernel))) rfl
theorem lkL_140 : Cond.methodLink RL 140 yX11_power ∈ Tg := in_Tg (in_t4 (List.mem_of_getElem? (i := 111) (by decide +kernel))) rfl
theorem lkL_143 : Cond.methodLink RL 143 yX12_power ∈ Tg := in_Tg (in_t7 (List.mem_of_getElem? (i := 169) (by decide +kernel))) rfl
theorem lkL_144 : Cond.methodLink RL 144 yX11_strongest ∈ Tg := in_Tg (in_t4 (List.mem_of_getElem? (i := 128) (by decide +kernel))) rfl
theorem lkL_147 : Cond.methodLink RL 147 yX12_strongest ∈ Tg := in_Tg (in_t7 (List.mem_of_getElem? (i := 188) (by decide +kernel))) rfl
theorem lkL_148 : Cond.methodLink RL 148 yX11_just ∈ Tg := in_Tg (in_t4 (List.mem_of_getElem? (i := 132) (by decide +kernel))) rfl
theorem lkL_151 : Cond.methodLink RL 151 yX12_just ∈ Tg := in_Tg (in_t7 (List.mem_of_getElem? (i := 192) (by decide +kernel))) rfl
theorem lkL_152 : Cond.methodLink RL 152 yX11_farthest ∈ Tg := in_Tg (in_t4 (List.mem_of_getElem? (i := 136) (by decide +kernel))) rfl
theorem lkL_155 : Cond.methodLink RL 155 yX12_farthest ∈ Tg := in_Tg (in_t7 (List.mem_of_getElem? (i := 197) (by decide +kernel))) rfl
theorem lkL_156 : Cond.methodLink RL 156 yX11_line ∈ Tg := in_Tg (in_t4 (List.mem_of_getElem? (i := 140) (by decide +kernel))) rfl
theorem lkL_159 : Cond.methodLink RL 159 yX12_line ∈ Tg := in_Tg (in_t7 (List.mem_of_getElem? (i := 201) (by decide +kernel))) rfl
theorem lkL_160 : Cond.methodLink RL 160 yX11_backs ∈ Tg := in_Tg (in_t4 (List.mem_of_getElem? (i := 145) (by decide +kernel))) rfl
theorem lkL_163 : Cond.methodLink RL 163 yX12_backs ∈ Tg := in_Tg (in_t7 (List.mem_of_getElem? (i := 205) (by decide +kernel))) rfl
theorem lkL_164 : Cond.methodLink RL 164 yX11_crowd ∈ Tg := in_Tg (in_t4 (List.mem_of_getElem? (i := 154) (by decide +kernel))) rfl
theorem lkL_167 : Cond.methodLink RL 167 yX12_crowd ∈ Tg := in_Tg (in_t7 (List.mem_of_getElem? (i := 213) (by decide +kernel))) rfl
theorem lkL_168 : Cond.methodLink RL 168 yX11_seen ∈ Tg := in_Tg (in_t4 (List.mem_of_getElem? (i := 158) (by decide +kernel))) rfl
theorem lkL_172 : Cond.methodLink RL 172 yX12_seen ∈ Tg := in_Tg (in_t7 (List.mem_of_getElem? (i := 217) (by decide +kernel))) rfl
theorem lkL_173 : Cond.methodLink RL 173 yX11_forget ∈ Tg := in_Tg (in_t4 (List.mem_of_getElem? (i := 166) (by decide +kernel))) rfl
theorem lkL_176 : Cond.methodLink RL 176 yX12_forget ∈ Tg := in_Tg (in_t7 (List.mem_of_getElem? (i := 222) (by decide +kernel))) rfl
theorem lkL_177 : Cond.methodLink RL 177 yX11_cares ∈ Tg := in_Tg (in_t4 (List.mem_of_getElem? (i := 170) (by decide +kernel))) rfl
theorem lkL_180 : Cond.methodLink RL 180 yX12_cares ∈ Tg := in_Tg (in_t7 (List.mem_of_getElem? (i := 226) (by decide +kernel))) rfl
theorem lkL_181 : Cond.methodLink RL 181 yX11_looks ∈ Tg := in_Tg (in_t4 (List.mem_of_getElem? (i := 189) (by decide +kernel))) rfl
theorem lkL_184 : Cond.methodLink RL 184 yX12_looks ∈ Tg := in_Tg (in_t8 (List.mem_of_getElem? (i := 8) (by decide +kernel))) rfl
theorem lkL_185 : Cond.methodLink RL 185 yX11_heard ∈ Tg := in_Tg (in_t4 (List.mem_of_getElem? (i := 201) (by decide +kernel))) rfl
theorem lkL_188 : Cond.methodLink RL 188 yX12_heard ∈ Tg := in_Tg (in_t8 (List.mem_of_getElem? (i := 13) (by decide +kernel))) rfl
theorem lkL_189 : Cond.methodLink RL 189 yX11_denies ∈ Tg := in_Tg (in_t4 (List.mem_of_getElem? (i := 212) (by decide +kernel))) rfl
theorem lkL_192 : Cond.methodLink RL 192 yX12_denies ∈ Tg := in_Tg (in_t8 (List.mem_of_getElem? (i := 24) (by decide +kernel))) rfl
theorem lkL_193 : Cond.methodLink RL 193 yX11_fits ∈ Tg := in_Tg (in_t4 (List.mem_of_getElem? (i := 216) (by decide +kernel))) rfl
theorem lkL_196 : Cond.methodLink RL 196 yX12_fits ∈ Tg := in_Tg (in_t8 (List.mem_of_getElem? (i := 28) (by decide +kernel))) rfl
theorem lkL_197 : Cond.methodLink RL 197 yX11_asks ∈ Tg := in_Tg (in_t4 (List.mem_of_getElem? (i := 231) (by decide +kernel))) rfl
theorem lkL_200 : Cond.methodLink RL 200 yX12_asks ∈ Tg := in_Tg (in_t8 (List.mem_of_getElem? (i := 40) (by decide +kernel))) rfl
theorem lkL_201 : Cond.methodLink RL 201 yX11_faints ∈ Tg := in_Tg (in_t5 (List.mem_of_getElem? (i := 1) (by decide +kernel))) rfl
theorem lkL_204 : Cond.methodLink RL 204 yX12_faints ∈ Tg := in_Tg (in_t8 (List.mem_of_getElem? (i := 44) (by decide +kernel))) rfl
theorem lkL_205 : Cond.methodLink RL 205 yX11_plank ∈ Tg := in_Tg (in_t5 (List.mem_of_getElem? (i := 9) (by decide +kernel))) rfl
theorem lkL_208 : Cond.methodLink RL 208 yX12_plank ∈ Tg := in_Tg (in_t8 (List.mem_of_getElem? (i := 49) (by decide +kernel))) rfl
theorem lkL_209 : Cond.methodLink RL 209 yX11_law ∈ Tg := in_Tg (in_t5 (List.mem_of_getElem? (i := 17) (by decide +kernel))) rfl
theorem lkL_212 : Cond.methodLink RL 212 yX12_law ∈ Tg := in_Tg (in_t8 (List.mem_of_getElem? (i := 54) (by decide +kernel))) rfl
theorem lkL_213 : Cond.methodLink RL 213 yX11_crossings ∈ Tg := in_Tg (in_t5 (List.mem_of_getElem? (i := 21) (by decide +kernel))) rfl
theorem lkL_216 : Cond.methodLink RL 216 yX12_crossings ∈ Tg := in_Tg (in_t8 (List.mem_of_getElem? (i := 58) (by decide +kernel))) rfl
theorem lkL_217 : Cond.methodLink RL 217 yX11_years ∈ Tg := in_Tg (in_t5 (List.mem_of_getElem? (i := 31) (by decide +kernel))) rfl
theorem lkL_220 : Cond.methodLink RL 220 yX12_years ∈ Tg := in_Tg (in_t8 (List.mem_of_getElem? (i := 68) (by decide +kernel))) rfl
theorem lkL_221 : Cond.methodLink RL 221 yX11_keep ∈ Tg := in_Tg (in_t5 (List.mem_of_getElem? (i := 48) (by decide +kernel))) rfl
theorem lkL_224 : Cond.methodLink RL 224 yX12_keep ∈ Tg := in_Tg (in_t8 (List.mem_of_getElem? (i := 77) (by decide +kernel))) rfl
theorem lkL_225 : Cond.methodLink RL 225 yX11_again ∈ Tg := in_Tg (in_t5 (List.mem_of_getElem? (i := 56) (by decide +kernel))) rfl
theorem lkL_228 : Cond.methodLink RL 228 yX12_again ∈ Tg := in_Tg (in_t8 (List.mem_of_getElem? (i := 81) (by decide +kernel))) rfl
theorem lkL_229 : Cond.methodLink RL 229 yX11_count ∈ Tg := in_Tg (in_t5 (List.mem_of_getElem? (i := 64) (by decide +kernel))) rfl
theorem lkL_232 : Cond.methodLink RL 232 yX12_count ∈ Tg := in_Tg (in_t8 (List.mem_of_getElem? (i := 85) (by decide +kernel))) rfl
theorem lkL_233 : Cond.methodLink RL 233 yL_row ∈ Tg := in_Tg (in_t5 (List.mem_of_getElem? (i := 143) (by decide +kernel))) rfl
theorem lkL_236 : Cond.methodLink RL 236 yX12_row ∈ Tg := in_Tg (in_t8 (List.mem_of_getElem? (i := 89) (by decide +kernel))) rfl
