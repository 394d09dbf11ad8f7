/-! written by wip/p27/gen out of the bytecode -/
theorem wl_L_14 : Cond.classLink RL 14 RX5 ∈ lwG := lwG_of (tb1 _ (List.mem_of_getElem? (i := 11) (by decide +kernel))) (by decide +kernel)
theorem wx_X5 : Cond.instantiable RX5 6 ∈ lwG := lwG_of (tb1 _ (List.mem_of_getElem? (i := 12) (by decide +kernel))) (by decide +kernel)
theorem wc_X5_init : Cond.code yX5_init cX5_init 2 none ∈ lwG := lwG_of (tb1 _ (List.mem_of_getElem? (i := 15) (by decide +kernel))) (by decide +kernel)
theorem wm_L_142 : Cond.methodLink RL 142 yX5_init ∈ lwG := lwG_of (tb1 _ (List.mem_of_getElem? (i := 13) (by decide +kernel))) (by decide +kernel)
theorem cw_L_142 : CW RL 142 yX5_init cX5_init 2 none 0 := ⟨by decide +kernel, by decide +kernel, wc_X5_init, wi_X5, wm_L_142⟩
theorem wn_X5_init : Cond.instanceMethod yX5_init ∈ lwG := lwG_of (tb1 _ (List.mem_of_getElem? (i := 14) (by decide +kernel))) (by decide +kernel)
theorem wc_X5_undo : Cond.code yX5_undo cX5_undo 2 (some .int) ∈ lwG := lwG_of (tb3 _ (List.mem_of_getElem? (i := 43) (by decide +kernel))) (by decide +kernel)
theorem wm_L_143 : Cond.methodLink RL 143 yX5_undo ∈ lwG := lwG_of (tb3 _ (List.mem_of_getElem? (i := 40) (by decide +kernel))) (by decide +kernel)
theorem cw_L_143 : CW RL 143 yX5_undo cX5_undo 2 (some .int) 0 := ⟨by decide +kernel, by decide +kernel, wc_X5_undo, wi_X5, wm_L_143⟩
theorem wn_X5_undo : Cond.instanceMethod yX5_undo ∈ lwG := lwG_of (tb3 _ (List.mem_of_getElem? (i := 41) (by decide +kernel))) (by decide +kernel)
theorem ws_X5_undo : Cond.selects RX5 yX5_undo yX5_undo ∈ lwG := lwG_of (tb3 _ (List.mem_of_getElem? (i := 42) (by decide +kernel))) (by decide +kernel)
theorem iv_X5_undo : Cond.instanceMethod yX5_undo ∈ lwG ∧ Cond.selects (fC 5) yX5_undo yX5_undo ∈ lwG ∧ 5 < 7 := ⟨wn_X5_undo, ws_X5_undo, by decide⟩
theorem wc_X5_readParts : Cond.code yX5_readParts cX5_readParts 3 (some .int) ∈ lwG := lwG_of (tb2 _ (List.mem_of_getElem? (i := 97) (by decide +kernel))) (by decide +kernel)
theorem wm_L_146 : Cond.methodLink RL 146 yX5_readParts ∈ lwG := lwG_of (tb2 _ (List.mem_of_getElem? (i := 94) (by decide +kernel))) (by decide +kernel)
theorem cw_L_146 : CW RL 146 yX5_readParts cX5_readParts 3 (some .int) 0 := ⟨by decide +kernel, by decide +kernel, wc_X5_readParts, wi_X5, wm_L_146⟩
theorem wn_X5_readParts : Cond.instanceMethod yX5_readParts ∈ lwG := lwG_of (tb2 _ (List.mem_of_getElem? (i := 95) (by decide +kernel))) (by decide +kernel)
theorem ws_X5_readParts : Cond.selects RX5 yX5_readParts yX5_readParts ∈ lwG := lwG_of (tb2 _ (List.mem_of_getElem? (i := 96) (by decide +kernel))) (by decide +kernel)
theorem iv_X5_readParts : Cond.instanceMethod yX5_readParts ∈ lwG ∧ Cond.selects (fC 5) yX5_readParts yX5_readParts ∈ lwG ∧ 5 < 7 := ⟨wn_X5_readParts, ws_X5_readParts, by decide⟩
theorem wc_X5_build : Cond.code yX5_build cX5_build 3 (some .int) ∈ lwG := lwG_of (tb2 _ (List.mem_of_getElem? (i := 44) (by decide +kernel))) (by decide +kernel)
theorem wm_L_149 : Cond.methodLink RL 149 yX5_build ∈ lwG := lwG_of (tb2 _ (List.mem_of_getElem? (i := 41) (by decide +kernel))) (by decide +kernel)
theorem cw_L_149 : CW RL 149 yX5_build cX5_build 3 (some .int) 1 := ⟨by decide +kernel, by decide +kernel, wc_X5_build, wi_X5, wm_L_149⟩
theorem wn_X5_build : Cond.instanceMethod yX5_build ∈ lwG := lwG_of (tb2 _ (List.mem_of_getElem? (i := 42) (by decide +kernel))) (by decide +kernel)
theorem ws_X5_build : Cond.selects RX5 yX5_build yX5_build ∈ lwG := lwG_of (tb2 _ (List.mem_of_getElem? (i := 43) (by decide +kernel))) (by decide +kernel)
theorem iv_X5_build : Cond.instanceMethod yX5_build ∈ lwG ∧ Cond.selects (fC 5) yX5_build yX5_build ∈ lwG ∧ 5 < 7 := ⟨wn_X5_build, ws_X5_build, by decide⟩
theorem wc_X5_fits : Cond.code yX5_fits cX5_fits 5 (some .int) ∈ lwG := lwG_of (tb3 _ (List.mem_of_getElem? (i := 51) (by decide +kernel))) (by decide +kernel)
theorem wm_L_152 : Cond.methodLink RL 152 yX5_fits ∈ lwG := lwG_of (tb3 _ (List.mem_of_getElem? (i := 48) (by decide +kernel))) (by decide +kernel)
theorem cw_L_152 : CW RL 152 yX5_fits cX5_fits 5 (some .int) 2 := ⟨by decide +kernel, by decide +kernel, wc_X5_fits, wi_X5, wm_L_152⟩
theorem wn_X5_fits : Cond.instanceMethod yX5_fits ∈ lwG := lwG_of (tb3 _ (List.mem_of_getElem? (i := 49) (by decide +kernel))) (by decide +kernel)
theorem ws_X5_fits : Cond.selects RX5 yX5_fits yX5_fits ∈ lwG := lwG_of (tb3 _ (List.mem_of_getElem? (i := 50) (by decide +kernel))) (by decide +kernel)
theorem iv_X5_fits : Cond.instanceMethod yX5_fits ∈ lwG ∧ Cond.selects (fC 5) yX5_fits yX5_fits ∈ lwG ∧ 5 < 7 := ⟨wn_X5_fits, ws_X5_fits, by decide⟩
theorem wm_L_155 : Cond.methodLink RL 155 yL_cell ∈ lwG := lwG_of (tb3 _ (List.mem_of_getElem? (i := 79) (by decide +kernel))) (by decide +kernel)
theorem cw_L_155 : CW RL 155 yL_cell cL_cell 2 (some .int) 2 := ⟨by decide +kernel, by decide +kernel, wc_L_cell, wi_L, wm_L_155⟩
theorem wt_L_cell : Cond.static yL_cell ∈ lwG := lwG_of (tb3 _ (List.mem_of_getElem? (i := 80) (by decide +kernel))) (by decide +kernel)
theorem wc_L_adds : Cond.code yL_adds cL_adds 7 (some .boolean) ∈ lwG := lwG_of (tb3 _ (List.mem_of_getElem? (i := 212) (by decide +kernel))) (by decide +kernel)
theorem wm_L_170 : Cond.methodLink RL 170 yL_adds ∈ lwG := lwG_of (tb3 _ (List.mem_of_getElem? (i := 210) (by decide +kernel))) (by decide +kernel)
theorem cw_L_170 : CW RL 170 yL_adds cL_adds 7 (some .boolean) 3 := ⟨by decide +kernel, by decide +kernel, wc_L_adds, wi_L, wm_L_170⟩
theorem wt_L_adds : Cond.static yL_adds ∈ lwG := lwG_of (tb3 _ (List.mem_of_getElem? (i := 211) (by decide +kernel))) (by decide +kernel)
theorem wc_L_sound : Cond.code yL_sound cL_sound 1 (some .boolean) ∈ lwG := lwG_of (tb3 _ (List.mem_of_getElem? (i := 115) (by decide +kernel))) (by decide +kernel)
theorem wm_L_173 : Cond.methodLink RL 173 yL_sound ∈ lwG := lwG_of (tb3 _ (List.mem_of_getElem? (i := 113) (by decide +kernel))) (by decide +kernel)
theorem cw_L_173 : CW RL 173 yL_sound cL_sound 1 (some .boolean) 1 := ⟨by decide +kernel, by decide +kernel, wc_L_sound, wi_L, wm_L_173⟩
theorem wt_L_sound : Cond.static yL_sound ∈ lwG := lwG_of (tb3 _ (List.mem_of_getElem? (i := 114) (by decide +kernel))) (by decide +kernel)
theorem wc_L_runs : Cond.code yL_runs cL_runs 9 (some .boolean) ∈ lwG := lwG_of (tb3 _ (List.mem_of_getElem? (i := 201) (by decide +kernel))) (by decide +kernel)
theorem wm_L_166 : Cond.methodLink RL 166 yL_runs ∈ lwG := lwG_of (tb3 _ (List.mem_of_getElem? (i := 199) (by decide +kernel))) (by decide +kernel)
theorem cw_L_166 : CW RL 166 yL_runs cL_runs 9 (some .boolean) 3 := ⟨by decide +kernel, by decide +kernel, wc_L_runs, wi_L, wm_L_166⟩
theorem wt_L_runs : Cond.static yL_runs ∈ lwG := lwG_of (tb3 _ (List.mem_of_getElem? (i := 200) (by decide +kernel))) (by decide +kernel)
theorem wc_L_commands : Cond.code yL_commands cL_commands 9 (some .boolean) ∈ lwG := lwG_of (tb3 _ (List.mem_of_getElem? (i := 183) (by decide +kernel))) (by decide +kernel)
theorem wm_L_163 : Cond.methodLink RL 163 yL_commands ∈ lwG := lwG_of (tb3 _ (List.mem_of_getElem? (i := 181) (by decide +kernel))) (by decide +kernel)
theorem cw_L_163 : CW RL 163 yL_commands cL_commands 9 (some .boolean) 2 := ⟨by decide +kernel, by decide +kernel, wc_L_commands, wi_L, wm_L_163⟩
theorem wt_L_commands : Cond.static yL_commands ∈ lwG := lwG_of (tb3 _ (List.mem_of_getElem? (i := 182) (by decide +kernel))) (by decide +kernel)
theorem wc_L_sets : Cond.code yL_sets cL_sets 14 (some .boolean) ∈ lwG := lwG_of (tb3 _ (List.mem_of_getElem? (i := 147) (by decide +kernel))) (by decide +kernel)
theorem wm_L_159 : Cond.methodLink RL 159 yL_sets ∈ lwG := lwG_of (tb3 _ (List.mem_of_getElem? (i := 145) (by decide +kernel))) (by decide +kernel)
theorem cw_L_159 : CW RL 159 yL_sets cL_sets 14 (some .boolean) 4 := ⟨by decide +kernel, by decide +kernel, wc_L_sets, wi_L, wm_L_159⟩
theorem wt_L_sets : Cond.static yL_sets ∈ lwG := lwG_of (tb3 _ (List.mem_of_getElem? (i := 146) (by decide +kernel))) (by decide +kernel)
theorem dL_law_0 : decode cL_law 0 = .ok (.new 14, 3) := by decide +kernel
theorem dL_law_3 : decode cL_law 3 = .ok (.dup, 1) := by decide +kernel
theorem dL_law_4 : decode cL_law 4 = .ok (.invokespecial 142, 3) := by decide +kernel
theorem dL_law_7 : decode cL_law 7 = .ok (.astore_n 1, 1) := by decide +kernel
theorem dL_law_8 : decode cL_law 8 = .ok (.aload_n 1, 1) := by decide +kernel
theorem dL_law_9 : decode cL_law 9 = .ok (.invokevirtual 143, 3) := by decide +kernel
theorem dL_law_12 : decode cL_law 12 = .ok (.bipush (-5), 2) := by decide +kernel
theorem dL_law_14 : decode cL_law 14 = .ok (.if_icmp .ne 82, 3) := by decide +kernel
theorem dL_law_17 : decode cL_law 17 = .ok (.aload_n 1, 1) := by decide +kernel
theorem dL_law_18 : decode cL_law 18 = .ok (.invokevirtual 134, 3) := by decide +kernel
theorem dL_law_21 : decode cL_law 21 = .ok (.bipush (-5), 2) := by decide +kernel
theorem dL_law_23 : decode cL_law 23 = .ok (.if_icmp .ne 73, 3) := by decide +kernel
theorem dL_law_26 : decode cL_law 26 = .ok (.aload_n 1, 1) := by decide +kernel
theorem dL_law_27 : decode cL_law 27 = .ok (.invokevirtual 146, 3) := by decide +kernel
theorem dL_law_30 : decode cL_law 30 = .ok (.bipush (-100), 2) := by decide +kernel
theorem dL_law_32 : decode cL_law 32 = .ok (.if_icmp .ne 64, 3) := by decide +kernel
theorem dL_law_35 : decode cL_law 35 = .ok (.aload_n 1, 1) := by decide +kernel
theorem dL_law_36 : decode cL_law 36 = .ok (.invokevirtual 117, 3) := by decide +kernel
theorem dL_law_39 : decode cL_law 39 = .ok (.bipush (-2), 2) := by decide +kernel
theorem dL_law_41 : decode cL_law 41 = .ok (.if_icmp .ne 55, 3) := by decide +kernel
theorem dL_law_44 : decode cL_law 44 = .ok (.aload_n 1, 1) := by decide +kernel
theorem dL_law_45 : decode cL_law 45 = .ok (.iconst 0, 1) := by decide +kernel
theorem dL_law_46 : decode cL_law 46 = .ok (.invokevirtual 13, 3) := by decide +kernel
theorem dL_law_49 : decode cL_law 49 = .ok (.iconst 4, 1) := by decide +kernel
theorem dL_law_50 : decode cL_law 50 = .ok (.if_icmp .ne 46, 3) := by decide +kernel
theorem dL_law_53 : decode cL_law 53 = .ok (.aload_n 1, 1) := by decide +kernel
theorem dL_law_54 : decode cL_law 54 = .ok (.bipush 9, 2) := by decide +kernel
theorem dL_law_56 : decode cL_law 56 = .ok (.invokevirtual 149, 3) := by decide +kernel
theorem dL_law_59 : decode cL_law 59 = .ok (.bipush (-2), 2) := by decide +kernel
theorem dL_law_61 : decode cL_law 61 = .ok (.if_icmp .ne 35, 3) := by decide +kernel
theorem dL_law_64 : decode cL_law 64 = .ok (.aload_n 1, 1) := by decide +kernel
theorem dL_law_65 : decode cL_law 65 = .ok (.iconst 4, 1) := by decide +kernel
theorem dL_law_66 : decode cL_law 66 = .ok (.iconst 1, 1) := by decide +kernel
theorem dL_law_67 : decode cL_law 67 = .ok (.invokevirtual 102, 3) := by decide +kernel
theorem dL_law_70 : decode cL_law 70 = .ok (.iconst (-1), 1) := by decide +kernel
theorem dL_law_71 : decode cL_law 71 = .ok (.if_icmp .ne 25, 3) := by decide +kernel
theorem dL_law_74 : decode cL_law 74 = .ok (.aload_n 1, 1) := by decide +kernel
theorem dL_law_75 : decode cL_law 75 = .ok (.iconst 0, 1) := by decide +kernel
theorem dL_law_76 : decode cL_law 76 = .ok (.iconst 0, 1) := by decide +kernel
theorem dL_law_77 : decode cL_law 77 = .ok (.invokevirtual 152, 3) := by decide +kernel
theorem dL_law_80 : decode cL_law 80 = .ok (.iconst (-1), 1) := by decide +kernel
theorem dL_law_81 : decode cL_law 81 = .ok (.if_icmp .ne 15, 3) := by decide +kernel
theorem dL_law_84 : decode cL_law 84 = .ok (.aload_n 1, 1) := by decide +kernel
theorem dL_law_85 : decode cL_law 85 = .ok (.iconst 0, 1) := by decide +kernel
theorem dL_law_86 : decode cL_law 86 = .ok (.invokevirtual 19, 3) := by decide +kernel
theorem dL_law_89 : decode cL_law 89 = .ok (.ldc2_w 61, 3) := by decide +kernel
theorem dL_law_92 : decode cL_law 92 = .ok (.lcmp, 1) := by decide +kernel
theorem dL_law_93 : decode cL_law 93 = .ok (.ifCond .eq 5, 3) := by decide +kernel
theorem dL_law_96 : decode cL_law 96 = .ok (.iconst 0, 1) := by decide +kernel
theorem dL_law_97 : decode cL_law 97 = .ok (.ireturn, 1) := by decide +kernel
theorem dL_law_98 : decode cL_law 98 = .ok (.iconst 0, 1) := by decide +kernel
theorem dL_law_99 : decode cL_law 99 = .ok (.istore_n 2, 1) := by decide +kernel
theorem dL_law_100 : decode cL_law 100 = .ok (.iload_n 2, 1) := by decide +kernel
theorem dL_law_101 : decode cL_law 101 = .ok (.bipush 26, 2) := by decide +kernel
theorem dL_law_103 : decode cL_law 103 = .ok (.if_icmp .ge 334, 3) := by decide +kernel
theorem dL_law_106 : decode cL_law 106 = .ok (.aload_n 0, 1) := by decide +kernel
theorem dL_law_107 : decode cL_law 107 = .ok (.iconst 2, 1) := by decide +kernel
theorem dL_law_108 : decode cL_law 108 = .ok (.iload_n 2, 1) := by decide +kernel
theorem dL_law_109 : decode cL_law 109 = .ok (.imul, 1) := by decide +kernel
theorem dL_law_110 : decode cL_law 110 = .ok (.invokestatic 155, 3) := by decide +kernel
theorem dL_law_113 : decode cL_law 113 = .ok (.istore_n 3, 1) := by decide +kernel
theorem dL_law_114 : decode cL_law 114 = .ok (.aload_n 0, 1) := by decide +kernel
theorem dL_law_115 : decode cL_law 115 = .ok (.iconst 2, 1) := by decide +kernel
theorem dL_law_116 : decode cL_law 116 = .ok (.iload_n 2, 1) := by decide +kernel
theorem dL_law_117 : decode cL_law 117 = .ok (.imul, 1) := by decide +kernel
theorem dL_law_118 : decode cL_law 118 = .ok (.iconst 1, 1) := by decide +kernel
theorem dL_law_119 : decode cL_law 119 = .ok (.iadd, 1) := by decide +kernel
theorem dL_law_120 : decode cL_law 120 = .ok (.invokestatic 155, 3) := by decide +kernel
theorem dL_law_123 : decode cL_law 123 = .ok (.istore 4, 2) := by decide +kernel
theorem dL_law_125 : decode cL_law 125 = .ok (.iload_n 3, 1) := by decide +kernel
theorem dL_law_126 : decode cL_law 126 = .ok (.bipush 9, 2) := by decide +kernel
theorem dL_law_128 : decode cL_law 128 = .ok (.ishr, 1) := by decide +kernel
theorem dL_law_129 : decode cL_law 129 = .ok (.bipush 20, 2) := by decide +kernel
theorem dL_law_131 : decode cL_law 131 = .ok (.invokestatic 75, 3) := by decide +kernel
theorem dL_law_134 : decode cL_law 134 = .ok (.istore 5, 2) := by decide +kernel
theorem dL_law_136 : decode cL_law 136 = .ok (.aload_n 1, 1) := by decide +kernel
theorem dL_law_137 : decode cL_law 137 = .ok (.bipush 15, 2) := by decide +kernel
theorem dL_law_139 : decode cL_law 139 = .ok (.invokevirtual 13, 3) := by decide +kernel
theorem dL_law_142 : decode cL_law 142 = .ok (.istore 6, 2) := by decide +kernel
theorem dL_law_144 : decode cL_law 144 = .ok (.aload_n 1, 1) := by decide +kernel
theorem dL_law_145 : decode cL_law 145 = .ok (.invokestatic 130, 3) := by decide +kernel
theorem dL_law_148 : decode cL_law 148 = .ok (.lstore 7, 2) := by decide +kernel
theorem dL_law_150 : decode cL_law 150 = .ok (.iconst 1, 1) := by decide +kernel
theorem dL_law_151 : decode cL_law 151 = .ok (.istore 9, 2) := by decide +kernel
theorem dL_law_153 : decode cL_law 153 = .ok (.iload 5, 2) := by decide +kernel
theorem dL_law_155 : decode cL_law 155 = .ok (.iconst 4, 1) := by decide +kernel
theorem dL_law_156 : decode cL_law 156 = .ok (.if_icmp .ge 17, 3) := by decide +kernel
theorem dL_law_159 : decode cL_law 159 = .ok (.aload_n 1, 1) := by decide +kernel
theorem dL_law_160 : decode cL_law 160 = .ok (.iload 5, 2) := by decide +kernel
theorem dL_law_162 : decode cL_law 162 = .ok (.iload_n 3, 1) := by decide +kernel
theorem dL_law_163 : decode cL_law 163 = .ok (.iload 4, 2) := by decide +kernel
theorem dL_law_165 : decode cL_law 165 = .ok (.invokestatic 159, 3) := by decide +kernel
theorem dL_law_168 : decode cL_law 168 = .ok (.istore 9, 2) := by decide +kernel
theorem dL_law_170 : decode cL_law 170 = .ok (.goto 152, 3) := by decide +kernel
theorem dL_law_173 : decode cL_law 173 = .ok (.iload 5, 2) := by decide +kernel
theorem dL_law_175 : decode cL_law 175 = .ok (.iconst 4, 1) := by decide +kernel
theorem dL_law_176 : decode cL_law 176 = .ok (.if_icmp .ne 64, 3) := by decide +kernel
theorem dL_law_179 : decode cL_law 179 = .ok (.aload_n 1, 1) := by decide +kernel
theorem dL_law_180 : decode cL_law 180 = .ok (.iconst 2, 1) := by decide +kernel
theorem dL_law_181 : decode cL_law 181 = .ok (.invokevirtual 13, 3) := by decide +kernel
theorem dL_law_184 : decode cL_law 184 = .ok (.istore 10, 2) := by decide +kernel
theorem dL_law_186 : decode cL_law 186 = .ok (.iload 4, 2) := by decide +kernel
theorem dL_law_188 : decode cL_law 188 = .ok (.bipush 7, 2) := by decide +kernel
theorem dL_law_190 : decode cL_law 190 = .ok (.iand, 1) := by decide +kernel
theorem dL_law_191 : decode cL_law 191 = .ok (.ifCond .gt 39, 3) := by decide +kernel
theorem dL_law_194 : decode cL_law 194 = .ok (.aload_n 1, 1) := by decide +kernel
theorem dL_law_195 : decode cL_law 195 = .ok (.iconst 2, 1) := by decide +kernel
theorem dL_law_196 : decode cL_law 196 = .ok (.iload 4, 2) := by decide +kernel
theorem dL_law_198 : decode cL_law 198 = .ok (.iconst 3, 1) := by decide +kernel
theorem dL_law_199 : decode cL_law 199 = .ok (.ishr, 1) := by decide +kernel
theorem dL_law_200 : decode cL_law 200 = .ok (.bipush 7, 2) := by decide +kernel
theorem dL_law_202 : decode cL_law 202 = .ok (.invokestatic 75, 3) := by decide +kernel
theorem dL_law_205 : decode cL_law 205 = .ok (.iadd, 1) := by decide +kernel
theorem dL_law_206 : decode cL_law 206 = .ok (.invokevirtual 149, 3) := by decide +kernel
theorem dL_law_209 : decode cL_law 209 = .ok (.iload 10, 2) := by decide +kernel
theorem dL_law_211 : decode cL_law 211 = .ok (.if_icmp .ne 23, 3) := by decide +kernel
theorem dL_law_214 : decode cL_law 214 = .ok (.aload_n 1, 1) := by decide +kernel
theorem dL_law_215 : decode cL_law 215 = .ok (.iconst 2, 1) := by decide +kernel
theorem dL_law_216 : decode cL_law 216 = .ok (.invokevirtual 13, 3) := by decide +kernel
theorem dL_law_219 : decode cL_law 219 = .ok (.ifCond .ne 15, 3) := by decide +kernel
theorem dL_law_222 : decode cL_law 222 = .ok (.aload_n 1, 1) := by decide +kernel
theorem dL_law_223 : decode cL_law 223 = .ok (.iconst 1, 1) := by decide +kernel
theorem dL_law_224 : decode cL_law 224 = .ok (.invokevirtual 13, 3) := by decide +kernel
theorem dL_law_227 : decode cL_law 227 = .ok (.ifCond .ne 7, 3) := by decide +kernel
theorem dL_law_230 : decode cL_law 230 = .ok (.iconst 1, 1) := by decide +kernel
theorem dL_law_231 : decode cL_law 231 = .ok (.goto 4, 3) := by decide +kernel
theorem dL_law_234 : decode cL_law 234 = .ok (.iconst 0, 1) := by decide +kernel
theorem dL_law_235 : decode cL_law 235 = .ok (.istore 9, 2) := by decide +kernel
theorem dL_law_237 : decode cL_law 237 = .ok (.goto 85, 3) := by decide +kernel
theorem dL_law_240 : decode cL_law 240 = .ok (.iload 5, 2) := by decide +kernel
theorem dL_law_242 : decode cL_law 242 = .ok (.bipush 8, 2) := by decide +kernel
theorem dL_law_244 : decode cL_law 244 = .ok (.if_icmp .ge 33, 3) := by decide +kernel
theorem dL_law_247 : decode cL_law 247 = .ok (.aload_n 1, 1) := by decide +kernel
theorem dL_law_248 : decode cL_law 248 = .ok (.iload 5, 2) := by decide +kernel
theorem dL_law_250 : decode cL_law 250 = .ok (.iconst 5, 1) := by decide +kernel
theorem dL_law_251 : decode cL_law 251 = .ok (.if_icmp .ne 12, 3) := by decide +kernel
theorem dL_law_254 : decode cL_law 254 = .ok (.iload 4, 2) := by decide +kernel
theorem dL_law_256 : decode cL_law 256 = .ok (.iconst 4, 1) := by decide +kernel
theorem dL_law_257 : decode cL_law 257 = .ok (.invokestatic 75, 3) := by decide +kernel
theorem dL_law_260 : decode cL_law 260 = .ok (.goto 9, 3) := by decide +kernel
theorem dL_law_263 : decode cL_law 263 = .ok (.iload 4, 2) := by decide +kernel
theorem dL_law_265 : decode cL_law 265 = .ok (.iconst 2, 1) := by decide +kernel
theorem dL_law_266 : decode cL_law 266 = .ok (.invokestatic 75, 3) := by decide +kernel
theorem dL_law_269 : decode cL_law 269 = .ok (.invokestatic 163, 3) := by decide +kernel
theorem dL_law_272 : decode cL_law 272 = .ok (.istore 9, 2) := by decide +kernel
theorem dL_law_274 : decode cL_law 274 = .ok (.goto 48, 3) := by decide +kernel
theorem dL_law_277 : decode cL_law 277 = .ok (.iload 5, 2) := by decide +kernel
theorem dL_law_279 : decode cL_law 279 = .ok (.bipush 12, 2) := by decide +kernel
theorem dL_law_281 : decode cL_law 281 = .ok (.if_icmp .ge 32, 3) := by decide +kernel
theorem dL_law_284 : decode cL_law 284 = .ok (.aload_n 1, 1) := by decide +kernel
theorem dL_law_285 : decode cL_law 285 = .ok (.iconst 1, 1) := by decide +kernel
theorem dL_law_286 : decode cL_law 286 = .ok (.iload 4, 2) := by decide +kernel
theorem dL_law_288 : decode cL_law 288 = .ok (.bipush 6, 2) := by decide +kernel
theorem dL_law_290 : decode cL_law 290 = .ok (.invokestatic 75, 3) := by decide +kernel
theorem dL_law_293 : decode cL_law 293 = .ok (.iadd, 1) := by decide +kernel
theorem dL_law_294 : decode cL_law 294 = .ok (.iconst 1, 1) := by decide +kernel
theorem dL_law_295 : decode cL_law 295 = .ok (.iload 4, 2) := by decide +kernel
theorem dL_law_297 : decode cL_law 297 = .ok (.iconst 5, 1) := by decide +kernel
theorem dL_law_298 : decode cL_law 298 = .ok (.ishr, 1) := by decide +kernel
theorem dL_law_299 : decode cL_law 299 = .ok (.bipush 6, 2) := by decide +kernel
theorem dL_law_301 : decode cL_law 301 = .ok (.invokestatic 75, 3) := by decide +kernel
theorem dL_law_304 : decode cL_law 304 = .ok (.iadd, 1) := by decide +kernel
theorem dL_law_305 : decode cL_law 305 = .ok (.invokestatic 166, 3) := by decide +kernel
theorem dL_law_308 : decode cL_law 308 = .ok (.istore 9, 2) := by decide +kernel
theorem dL_law_310 : decode cL_law 310 = .ok (.goto 12, 3) := by decide +kernel
theorem dL_law_313 : decode cL_law 313 = .ok (.aload_n 1, 1) := by decide +kernel
theorem dL_law_314 : decode cL_law 314 = .ok (.iload_n 3, 1) := by decide +kernel
theorem dL_law_315 : decode cL_law 315 = .ok (.iload 4, 2) := by decide +kernel
theorem dL_law_317 : decode cL_law 317 = .ok (.invokestatic 170, 3) := by decide +kernel
theorem dL_law_320 : decode cL_law 320 = .ok (.istore 9, 2) := by decide +kernel
theorem dL_law_322 : decode cL_law 322 = .ok (.iload 6, 2) := by decide +kernel
theorem dL_law_324 : decode cL_law 324 = .ok (.iconst 4, 1) := by decide +kernel
theorem dL_law_325 : decode cL_law 325 = .ok (.if_icmp .ne 7, 3) := by decide +kernel
theorem dL_law_328 : decode cL_law 328 = .ok (.iconst 3, 1) := by decide +kernel
theorem dL_law_329 : decode cL_law 329 = .ok (.goto 5, 3) := by decide +kernel
theorem dL_law_332 : decode cL_law 332 = .ok (.iload 6, 2) := by decide +kernel
theorem dL_law_334 : decode cL_law 334 = .ok (.istore 10, 2) := by decide +kernel
theorem dL_law_336 : decode cL_law 336 = .ok (.iload 9, 2) := by decide +kernel
theorem dL_law_338 : decode cL_law 338 = .ok (.ifCond .eq 79, 3) := by decide +kernel
theorem dL_law_341 : decode cL_law 341 = .ok (.iload 5, 2) := by decide +kernel
theorem dL_law_343 : decode cL_law 343 = .ok (.bipush 8, 2) := by decide +kernel
theorem dL_law_345 : decode cL_law 345 = .ok (.if_icmp .lt 10, 3) := by decide +kernel
theorem dL_law_348 : decode cL_law 348 = .ok (.iload 5, 2) := by decide +kernel
theorem dL_law_350 : decode cL_law 350 = .ok (.bipush 11, 2) := by decide +kernel
theorem dL_law_352 : decode cL_law 352 = .ok (.if_icmp .le 65, 3) := by decide +kernel
theorem dL_law_355 : decode cL_law 355 = .ok (.iload 4, 2) := by decide +kernel
theorem dL_law_357 : decode cL_law 357 = .ok (.sipush 1536, 3) := by decide +kernel
theorem dL_law_360 : decode cL_law 360 = .ok (.iand, 1) := by decide +kernel
theorem dL_law_361 : decode cL_law 361 = .ok (.ifCond .ne 56, 3) := by decide +kernel
theorem dL_law_364 : decode cL_law 364 = .ok (.aload_n 1, 1) := by decide +kernel
theorem dL_law_365 : decode cL_law 365 = .ok (.bipush 15, 2) := by decide +kernel
theorem dL_law_367 : decode cL_law 367 = .ok (.invokevirtual 13, 3) := by decide +kernel
theorem dL_law_370 : decode cL_law 370 = .ok (.iload 6, 2) := by decide +kernel
theorem dL_law_372 : decode cL_law 372 = .ok (.if_icmp .ne 19, 3) := by decide +kernel
theorem dL_law_375 : decode cL_law 375 = .ok (.iload 6, 2) := by decide +kernel
theorem dL_law_377 : decode cL_law 377 = .ok (.iconst 4, 1) := by decide +kernel
theorem dL_law_378 : decode cL_law 378 = .ok (.if_icmp .ne 39, 3) := by decide +kernel
theorem dL_law_381 : decode cL_law 381 = .ok (.aload_n 1, 1) := by decide +kernel
theorem dL_law_382 : decode cL_law 382 = .ok (.invokestatic 130, 3) := by decide +kernel
theorem dL_law_385 : decode cL_law 385 = .ok (.lload 7, 2) := by decide +kernel
theorem dL_law_387 : decode cL_law 387 = .ok (.lcmp, 1) := by decide +kernel
theorem dL_law_388 : decode cL_law 388 = .ok (.ifCond .eq 29, 3) := by decide +kernel
theorem dL_law_391 : decode cL_law 391 = .ok (.aload_n 1, 1) := by decide +kernel
theorem dL_law_392 : decode cL_law 392 = .ok (.invokevirtual 143, 3) := by decide +kernel
theorem dL_law_395 : decode cL_law 395 = .ok (.iload 10, 2) := by decide +kernel
theorem dL_law_397 : decode cL_law 397 = .ok (.if_icmp .ne 17, 3) := by decide +kernel
theorem dL_law_400 : decode cL_law 400 = .ok (.aload_n 1, 1) := by decide +kernel
theorem dL_law_401 : decode cL_law 401 = .ok (.invokestatic 130, 3) := by decide +kernel
theorem dL_law_404 : decode cL_law 404 = .ok (.lload 7, 2) := by decide +kernel
theorem dL_law_406 : decode cL_law 406 = .ok (.lcmp, 1) := by decide +kernel
theorem dL_law_407 : decode cL_law 407 = .ok (.ifCond .ne 7, 3) := by decide +kernel
theorem dL_law_410 : decode cL_law 410 = .ok (.iconst 1, 1) := by decide +kernel
theorem dL_law_411 : decode cL_law 411 = .ok (.goto 4, 3) := by decide +kernel
theorem dL_law_414 : decode cL_law 414 = .ok (.iconst 0, 1) := by decide +kernel
theorem dL_law_415 : decode cL_law 415 = .ok (.istore 9, 2) := by decide +kernel
theorem dL_law_417 : decode cL_law 417 = .ok (.iload 9, 2) := by decide +kernel
theorem dL_law_419 : decode cL_law 419 = .ok (.ifCond .eq 10, 3) := by decide +kernel
theorem dL_law_422 : decode cL_law 422 = .ok (.aload_n 1, 1) := by decide +kernel
theorem dL_law_423 : decode cL_law 423 = .ok (.invokestatic 173, 3) := by decide +kernel
theorem dL_law_426 : decode cL_law 426 = .ok (.ifCond .ne 5, 3) := by decide +kernel
theorem dL_law_429 : decode cL_law 429 = .ok (.iconst 0, 1) := by decide +kernel
theorem dL_law_430 : decode cL_law 430 = .ok (.ireturn, 1) := by decide +kernel
theorem dL_law_431 : decode cL_law 431 = .ok (.iinc 2 1, 3) := by decide +kernel
theorem dL_law_434 : decode cL_law 434 = .ok (.goto (-334), 3) := by decide +kernel
theorem dL_law_437 : decode cL_law 437 = .ok (.iconst 1, 1) := by decide +kernel
theorem dL_law_438 : decode cL_law 438 = .ok (.ireturn, 1) := by decide +kernel
def w_L_law_L417  (J : Nat → Mem → Nat → Int32 → Prop) (k : Nat) (M : Mem) (o1 : Nat) (a2 : Int32) (a9 : Int32) : Prop := ((a9 = 0 → False) ∧ (¬ a9 = 0 → ((k - 0 + rmL_sound.cells ≤ room_1.cells ∧ SL k - SL 0 + rmL_sound.slots ≤ room_1.slots) ∧ ((k - 0 + rmL_sound.cells ≤ k + 2 - 0 ∧ SL k - SL 0 + rmL_sound.slots ≤ SL (k + 2) - SL 0) ∧ w_L_sound k M o1 (fun x56 M55 => ((¬ x56 = 0 → (∀ x57, x57 = a2 + (1 : Int32) → J (k + 2) M55 o1 x57)) ∧ (x56 = 0 → False)))))))
def w_L_law_L322  (J : Nat → Mem → Nat → Int32 → Prop) (k : Nat) (M : Mem) (o1 : Nat) (a2 : Int32) (a4 : Int32) (a5 : Int32) (a6 : Int32) (b7 : Int64) (a9 : Int32) : Prop := (∀ x53 : Int32, x53 = (if a6 = (4 : Int32) then (3 : Int32) else a6) → ((a9 = 0 → w_L_law_L417  J k M o1 a2 a9) ∧ (¬ a9 = 0 → ((a5 < (8 : Int32) → ((¬ (a4 &&& (1536 : Int32)) = 0 → w_L_law_L417  J k M o1 a2 a9) ∧ ((a4 &&& (1536 : Int32)) = 0 → ((k - 0 + rmX5_count.cells ≤ room_1.cells ∧ SL k - SL 0 + rmX5_count.slots ≤ room_1.slots) ∧ ((o1 ≤ k ∧ kd o1 = (5, 0)) ∧ w_X5_count k M o1 (15 : Int32) (fun x61 M60 => ((¬ x61 = a6 → ((k - 0 + rmX5_undo.cells ≤ room_1.cells ∧ SL k - SL 0 + rmX5_undo.slots ≤ room_1.slots) ∧ w_X5_undo k M60 o1  (fun x64 M63 => ((¬ x64 = x53 → w_L_law_L417  J k M63 o1 a2 (0 : Int32)) ∧ (x64 = x53 → ((k - 0 + rmL_digest.cells ≤ room_1.cells ∧ SL k - SL 0 + rmL_digest.slots ≤ room_1.slots) ∧ w_L_digest k M63 o1 (fun y67 M66 => (∀ x68 : Int32, x68 = (if (lg_cmp y67 b7) = 0 then (1 : Int32) else (0 : Int32)) → w_L_law_L417  J k M66 o1 a2 x68)))))))) ∧ (x61 = a6 → ((¬ a6 = (4 : Int32) → w_L_law_L417  J k M60 o1 a2 a9) ∧ (a6 = (4 : Int32) → ((k - 0 + rmL_digest.cells ≤ room_1.cells ∧ SL k - SL 0 + rmL_digest.slots ≤ room_1.slots) ∧ w_L_digest k M60 o1 (fun y71 M70 => (((lg_cmp y71 b7) = 0 → w_L_law_L417  J k M70 o1 a2 a9) ∧ (¬ (lg_cmp y71 b7) = 0 → ((k - 0 + rmX5_undo.cells ≤ room_1.cells ∧ SL k - SL 0 + rmX5_undo.slots ≤ room_1.slots) ∧ w_X5_undo k M70 o1  (fun x74 M73 => ((¬ x74 = x53 → w_L_law_L417  J k M73 o1 a2 (0 : Int32)) ∧ (x74 = x53 → ((k - 0 + rmL_digest.cells ≤ room_1.cells ∧ SL k - SL 0 + rmL_digest.slots ≤ room_1.slots) ∧ w_L_digest k M73 o1 (fun y77 M76 => (∀ x78 : Int32, x78 = (if (lg_cmp y77 b7) = 0 then (1 : Int32) else (0 : Int32)) → w_L_law_L417  J k M76 o1 a2 x78))))))))))))))))))))) ∧ (¬ a5 < (8 : Int32) → ((a5 ≤ (11 : Int32) → w_L_law_L417  J k M o1 a2 a9) ∧ (¬ a5 ≤ (11 : Int32) → ((¬ (a4 &&& (1536 : Int32)) = 0 → w_L_law_L417  J k M o1 a2 a9) ∧ ((a4 &&& (1536 : Int32)) = 0 → ((k - 0 + rmX5_count.cells ≤ room_1.cells ∧ SL k - SL 0 + rmX5_count.slots ≤ room_1.slots) ∧ ((o1 ≤ k ∧ kd o1 = (5, 0)) ∧ w_X5_count k M o1 (15 : Int32) (fun x82 M81 => ((¬ x82 = a6 → ((k - 0 + rmX5_undo.cells ≤ room_1.cells ∧ SL k - SL 0 + rmX5_undo.slots ≤ room_1.slots) ∧ w_X5_undo k M81 o1  (fun x85 M84 => ((¬ x85 = x53 → w_L_law_L417  J k M84 o1 a2 (0 : Int32)) ∧ (x85 = x53 → ((k - 0 + rmL_digest.cells ≤ room_1.cells ∧ SL k - SL 0 + rmL_digest.slots ≤ room_1.slots) ∧ w_L_digest k M84 o1 (fun y88 M87 => (∀ x89 : Int32, x89 = (if (lg_cmp y88 b7) = 0 then (1 : Int32) else (0 : Int32)) → w_L_law_L417  J k M87 o1 a2 x89)))))))) ∧ (x82 = a6 → ((¬ a6 = (4 : Int32) → w_L_law_L417  J k M81 o1 a2 a9) ∧ (a6 = (4 : Int32) → ((k - 0 + rmL_digest.cells ≤ room_1.cells ∧ SL k - SL 0 + rmL_digest.slots ≤ room_1.slots) ∧ w_L_digest k M81 o1 (fun y92 M91 => (((lg_cmp y92 b7) = 0 → w_L_law_L417  J k M91 o1 a2 a9) ∧ (¬ (lg_cmp y92 b7) = 0 → ((k - 0 + rmX5_undo.cells ≤ room_1.cells ∧ SL k - SL 0 + rmX5_undo.slots ≤ room_1.slots) ∧ w_X5_undo k M91 o1  (fun x95 M94 => ((¬ x95 = x53 → w_L_law_L417  J k M94 o1 a2 (0 : Int32)) ∧ (x95 = x53 → ((k - 0 + rmL_digest.cells ≤ room_1.cells ∧ SL k - SL 0 + rmL_digest.slots ≤ room_1.slots) ∧ w_L_digest k M94 o1 (fun y98 M97 => (∀ x99 : Int32, x99 = (if (lg_cmp y98 b7) = 0 then (1 : Int32) else (0 : Int32)) → w_L_law_L417  J k M97 o1 a2 x99)))))))))))))))))))))))))))
def w_L_law_L100  : Nat → Nat → Mem → Nat → Int32 → Prop
  | 0, _, _, _, _ => False
  | fuel + 1, k, M, o1, a2 => (((26 : Int32) ≤ a2 → (k - 0 ≤ 600000 ∧ SL k - SL 0 ≤ 7302250)) ∧ (¬ (26 : Int32) ≤ a2 → ((k - 0 + rmL_cell.cells ≤ room_1.cells ∧ SL k - SL 0 + rmL_cell.slots ≤ room_1.slots) ∧ w_L_cell k M ((2 : Int32) * a2) (fun x36 M35 => ((k - 0 + rmL_cell.cells ≤ room_1.cells ∧ SL k - SL 0 + rmL_cell.slots ≤ room_1.slots) ∧ w_L_cell k M35 (((2 : Int32) * a2) + (1 : Int32)) (fun x39 M38 => ((k - 0 + rmL_low.cells ≤ room_1.cells ∧ SL k - SL 0 + rmL_low.slots ≤ room_1.slots) ∧ w_L_low k M38 (x36 >>> ((9 : Int32) &&& 31)) (20 : Int32) (fun x42 M41 => ((k - 0 + rmX5_count.cells ≤ room_1.cells ∧ SL k - SL 0 + rmX5_count.slots ≤ room_1.slots) ∧ ((o1 ≤ k ∧ kd o1 = (5, 0)) ∧ w_X5_count k M41 o1 (15 : Int32) (fun x46 M45 => ((k - 0 + rmL_digest.cells ≤ room_1.cells ∧ SL k - SL 0 + rmL_digest.slots ≤ room_1.slots) ∧ w_L_digest k M45 o1 (fun y49 M48 => (((4 : Int32) ≤ x42 → ((¬ x42 = (4 : Int32) → (((8 : Int32) ≤ x42 → (((12 : Int32) ≤ x42 → ((k - 0 + rmL_adds.cells ≤ room_1.cells ∧ SL k - SL 0 + rmL_adds.slots ≤ room_1.slots) ∧ w_L_adds k M48 o1 x36 x39 (fun x52 M51 => w_L_law_L322  (w_L_law_L100  fuel) k M51 o1 a2 x39 x42 x46 y49 x52))) ∧ (¬ (12 : Int32) ≤ x42 → ((k - 0 + rmL_low.cells ≤ room_1.cells ∧ SL k - SL 0 + rmL_low.slots ≤ room_1.slots) ∧ w_L_low k M48 x39 (6 : Int32) (fun x102 M101 => ((k - 0 + rmL_low.cells ≤ room_1.cells ∧ SL k - SL 0 + rmL_low.slots ≤ room_1.slots) ∧ w_L_low k M101 (x39 >>> ((5 : Int32) &&& 31)) (6 : Int32) (fun x105 M104 => ((k - 0 + rmL_runs.cells ≤ room_1.cells ∧ SL k - SL 0 + rmL_runs.slots ≤ room_1.slots) ∧ w_L_runs k M104 o1 ((1 : Int32) + x102) ((1 : Int32) + x105) (fun x108 M107 => w_L_law_L322  (w_L_law_L100  fuel) k M107 o1 a2 x39 x42 x46 y49 x108))))))))) ∧ (¬ (8 : Int32) ≤ x42 → ((¬ x42 = (5 : Int32) → ((k - 0 + rmL_low.cells ≤ room_1.cells ∧ SL k - SL 0 + rmL_low.slots ≤ room_1.slots) ∧ w_L_low k M48 x39 (2 : Int32) (fun x111 M110 => ((k - 0 + rmL_commands.cells ≤ room_1.cells ∧ SL k - SL 0 + rmL_commands.slots ≤ room_1.slots) ∧ w_L_commands k M110 o1 x111 (fun x114 M113 => w_L_law_L322  (w_L_law_L100  fuel) k M113 o1 a2 x39 x42 x46 y49 x114))))) ∧ (x42 = (5 : Int32) → ((k - 0 + rmL_low.cells ≤ room_1.cells ∧ SL k - SL 0 + rmL_low.slots ≤ room_1.slots) ∧ w_L_low k M48 x39 (4 : Int32) (fun x117 M116 => ((k - 0 + rmL_commands.cells ≤ room_1.cells ∧ SL k - SL 0 + rmL_commands.slots ≤ room_1.slots) ∧ w_L_commands k M116 o1 x117 (fun x120 M119 => w_L_law_L322  (w_L_law_L100  fuel) k M119 o1 a2 x39 x42 x46 y49 x120))))))))) ∧ (x42 = (4 : Int32) → ((k - 0 + rmX5_count.cells ≤ room_1.cells ∧ SL k - SL 0 + rmX5_count.slots ≤ room_1.slots) ∧ w_X5_count k M48 o1 (2 : Int32) (fun x123 M122 => ((0 < (x39 &&& (7 : Int32)) → w_L_law_L322  (w_L_law_L100  fuel) k M122 o1 a2 x39 x42 x46 y49 (1 : Int32)) ∧ (¬ 0 < (x39 &&& (7 : Int32)) → ((k - 0 + rmL_low.cells ≤ room_1.cells ∧ SL k - SL 0 + rmL_low.slots ≤ room_1.slots) ∧ w_L_low k M122 (x39 >>> ((3 : Int32) &&& 31)) (7 : Int32) (fun x126 M125 => ((k - 0 + rmX5_build.cells ≤ room_1.cells ∧ SL k - SL 0 + rmX5_build.slots ≤ room_1.slots) ∧ w_X5_build k M125 o1 ((2 : Int32) + x126) (fun x129 M128 => ((¬ x129 = x123 → w_L_law_L322  (w_L_law_L100  fuel) k M128 o1 a2 x39 x42 x46 y49 (0 : Int32)) ∧ (x129 = x123 → ((k - 0 + rmX5_count.cells ≤ room_1.cells ∧ SL k - SL 0 + rmX5_count.slots ≤ room_1.slots) ∧ w_X5_count k M128 o1 (2 : Int32) (fun x132 M131 => ((¬ x132 = 0 → w_L_law_L322  (w_L_law_L100  fuel) k M131 o1 a2 x39 x42 x46 y49 (0 : Int32)) ∧ (x132 = 0 → ((k - 0 + rmX5_count.cells ≤ room_1.cells ∧ SL k - SL 0 + rmX5_count.slots ≤ room_1.slots) ∧ w_X5_count k M131 o1 (1 : Int32) (fun x135 M134 => (∀ x136 : Int32, x136 = (if x135 = 0 then (1 : Int32) else (0 : Int32)) → w_L_law_L322  (w_L_law_L100  fuel) k M134 o1 a2 x39 x42 x46 y49 x136)))))))))))))))))))) ∧ (¬ (4 : Int32) ≤ x42 → ((k - 0 + rmL_sets.cells ≤ room_1.cells ∧ SL k - SL 0 + rmL_sets.slots ≤ room_1.slots) ∧ w_L_sets k M48 o1 x42 x36 x39 (fun x139 M138 => w_L_law_L322  (w_L_law_L100  fuel) k M138 o1 a2 x39 x42 x46 y49 x139)))))))))))))))))
def w_law (M : Mem) : Prop := ((kd (0 + 1) = (5, 0) ∧ Al room_1 0 0) ∧ (∀ M1, M1 = zr M (0 + 1) → (∀ r2, r2 = (0 + 1) → (((0 + 1) - 0 + rmX5_init.cells ≤ room_1.cells ∧ SL (0 + 1) - SL 0 + rmX5_init.slots ≤ room_1.slots) ∧ (((0 + 1) - 0 + rmX5_init.cells ≤ 0 + 1 + 447 - 0 ∧ SL (0 + 1) - SL 0 + rmX5_init.slots ≤ SL (0 + 1 + 447) - SL 0) ∧ (¬ r2 = 0 ∧ w_X5_init (0 + 1) M1 r2  (fun M5 => (((0 + 1 + 447) - 0 + rmX5_undo.cells ≤ room_1.cells ∧ SL (0 + 1 + 447) - SL 0 + rmX5_undo.slots ≤ room_1.slots) ∧ ((r2 ≤ (0 + 1 + 447) ∧ kd r2 = (5, 0)) ∧ w_X5_undo (0 + 1 + 447) M5 r2  (fun x9 M8 => ((¬ x9 = (-5 : Int32) → False) ∧ (x9 = (-5 : Int32) → (((0 + 1 + 447) - 0 + rmX5_restore.cells ≤ room_1.cells ∧ SL (0 + 1 + 447) - SL 0 + rmX5_restore.slots ≤ room_1.slots) ∧ w_X5_restore (0 + 1 + 447) M8 r2  (fun x12 M11 => ((¬ x12 = (-5 : Int32) → False) ∧ (x12 = (-5 : Int32) → (((0 + 1 + 447) - 0 + rmX5_readParts.cells ≤ room_1.cells ∧ SL (0 + 1 + 447) - SL 0 + rmX5_readParts.slots ≤ room_1.slots) ∧ w_X5_readParts (0 + 1 + 447) M11 r2  (fun x15 M14 => ((¬ x15 = (-100 : Int32) → False) ∧ (x15 = (-100 : Int32) → (((0 + 1 + 447) - 0 + rmX5_perform.cells ≤ room_1.cells ∧ SL (0 + 1 + 447) - SL 0 + rmX5_perform.slots ≤ room_1.slots) ∧ w_X5_perform (0 + 1 + 447) M14 r2  (fun x18 M17 => ((¬ x18 = (-2 : Int32) → False) ∧ (x18 = (-2 : Int32) → (((0 + 1 + 447) - 0 + rmX5_count.cells ≤ room_1.cells ∧ SL (0 + 1 + 447) - SL 0 + rmX5_count.slots ≤ room_1.slots) ∧ w_X5_count (0 + 1 + 447) M17 r2 (0 : Int32) (fun x21 M20 => ((¬ x21 = (4 : Int32) → False) ∧ (x21 = (4 : Int32) → (((0 + 1 + 447) - 0 + rmX5_build.cells ≤ room_1.cells ∧ SL (0 + 1 + 447) - SL 0 + rmX5_build.slots ≤ room_1.slots) ∧ w_X5_build (0 + 1 + 447) M20 r2 (9 : Int32) (fun x24 M23 => ((¬ x24 = (-2 : Int32) → False) ∧ (x24 = (-2 : Int32) → (((0 + 1 + 447) - 0 + rmX5_calibrate.cells ≤ room_1.cells ∧ SL (0 + 1 + 447) - SL 0 + rmX5_calibrate.slots ≤ room_1.slots) ∧ w_X5_calibrate (0 + 1 + 447) M23 r2 (4 : Int32) (1 : Int32) (fun x27 M26 => ((¬ x27 = (-1 : Int32) → False) ∧ (x27 = (-1 : Int32) → (((0 + 1 + 447) - 0 + rmX5_fits.cells ≤ room_1.cells ∧ SL (0 + 1 + 447) - SL 0 + rmX5_fits.slots ≤ room_1.slots) ∧ w_X5_fits (0 + 1 + 447) M26 r2 (0 : Int32) (0 : Int32) (fun x30 M29 => ((¬ x30 = (-1 : Int32) → False) ∧ (x30 = (-1 : Int32) → (((0 + 1 + 447) - 0 + rmX5_pressureBits.cells ≤ room_1.cells ∧ SL (0 + 1 + 447) - SL 0 + rmX5_pressureBits.slots ≤ room_1.slots) ∧ w_X5_pressureBits (0 + 1 + 447) M29 r2 (0 : Int32) (fun y33 M32 => (((lg_cmp y33 (4647503709213818880 : Int64)) = 0 → w_L_law_L100  4000 (0 + 1 + 447) M32 r2 (0 : Int32)) ∧ (¬ (lg_cmp y33 (4647503709213818880 : Int64)) = 0 → False))))))))))))))))))))))))))))))))))))))))))))
set_option maxHeartbeats 4000000 in
set_option maxRecDepth 20000 in
theorem law_all {p : Program} {e : Env} {s : State} {m : MethodId} {below : List Frame} {meth : Method} {c : Code} (l : Launch) (E : Gl) {b : Nat} (X : CX E p s m c cL_law 11 RL) (hSt : s.heap = E.2.2.2.1) (hr : meth.sig.returnType = ret) (hlk : meth.locks = false) (M : Mem) (hw : w_law M) : G E p l e room_1 s m #[Value.ref b] below meth c 11 0 M (0 - 0) (SL 0 - SL 0) (lw_Z below #[Value.ref b] s) 0 [(0, xV (xB E))] [] := by
  have L100 : ∀ (fuel100 : Nat) (k : Nat) (M : Mem) (o1 : Nat) (a2 : Int32), w_L_law_L100  fuel100 k M o1 a2 → G E p l e room_1 s m #[Value.ref b] below meth c 11 k M (k - 0) (SL k - SL 0) (lw_Z below #[Value.ref b] s) 100 [(0, xV (xB E)), (1, rV o1), (2, iV a2)] [] := by
    intro fuel100
    induction fuel100 with
    | zero => intro k M o1 a2 hw; exact False.elim hw
    | succ fuel100 ih100 =>
      have L417 : ∀ (k : Nat) (M : Mem) (o1 : Nat) (a2 : Int32) (a9 : Int32), w_L_law_L417  (w_L_law_L100  fuel100) k M o1 a2 a9 → G E p l e room_1 s m #[Value.ref b] below meth c 11 k M (k - 0) (SL k - SL 0) (lw_Z below #[Value.ref b] s) 417 [(0, xV (xB E)), (1, rV o1), (2, iV a2), (9, iV a9)] [] := by
        intro k M o1 a2 a9 hw
        unfold w_L_law_L417 at hw
        refine g_iload X dL_law_417 3 rfl ?_
        refine g_if_eq X 429 dL_law_419 (by decide) hw (fun hw => ?_) (fun hw => ?_)
        · refine g_iconst X (0 : Int32) dL_law_429 (by decide) ?_
          exact hw.elim
        · refine g_aload_n X dL_law_422 1 rfl ?_
          obtain ⟨hA54, hw⟩ := hw
          obtain ⟨hA54b, hw⟩ := hw
          refine g_calli (pc' := 426) (rest := []) rfl (fun H locs ls d qR qL => g_runS X cw_L_173 wt_L_sound ⟨Nat.le_of_ble_eq_true rfl, Nat.le_of_ble_eq_true rfl⟩ dL_law_423 (c_L_sound l E k M o1 _ hw) rfl rfl (Nat.le_of_ble_eq_true rfl) hA54 qR qL) (fun x56 M55 hw => ?_)
          refine g_widen (k := k + 2 - 0) (z := SL (k + 2) - SL 0) hA54b.1 hA54b.2 ?_
          refine g_if_ne X 431 dL_law_426 (by decide) hw (fun hw => ?_) (fun hw => ?_)
          · obtain ⟨x57, hx57⟩ : ∃ y : Int32, y = a2 + (1 : Int32) := ⟨_, rfl⟩
            have hw := hw x57 hx57
            refine g_iinc (lv' := [(2, iV x57), (0, xV (xB E)), (1, rV o1), (9, iV a9)]) X x57 dL_law_431 2 rfl (by rw [hx57]; rfl) (by decide) rfl ?_
            refine g_goto X 100 dL_law_434 (by decide) ?_
            refine g_lvsub (lv' := [(0, xV (xB E)), (1, rV o1), (2, iV x57)]) [1, 2, 0] rfl ?_
            exact ih100 _ _ _ _ hw
          · refine g_iconst X (0 : Int32) dL_law_429 (by decide) ?_
            exact hw.elim
      have L322 : ∀ (k : Nat) (M : Mem) (o1 : Nat) (a2 : Int32) (a4 : Int32) (a5 : Int32) (a6 : Int32) (b7 : Int64) (a9 : Int32), w_L_law_L322  (w_L_law_L100  fuel100) k M o1 a2 a4 a5 a6 b7 a9 → G E p l e room_1 s m #[Value.ref b] below meth c 11 k M (k - 0) (SL k - SL 0) (lw_Z below #[Value.ref b] s) 322 [(0, xV (xB E)), (1, rV o1), (2, iV a2), (4, iV a4), (5, iV a5), (6, iV a6), (7, lV b7), (9, iV a9)] [] := by
        intro k M o1 a2 a4 a5 a6 b7 a9 hw
        unfold w_L_law_L322 at hw
        refine g_iload X dL_law_322 5 rfl ?_
        refine g_iconst X (4 : Int32) dL_law_324 (by decide) ?_
        suffices kk : ∀ x53 : Int32, x53 = (if a6 = (4 : Int32) then (3 : Int32) else a6) → G E p l e room_1 s m #[Value.ref b] below meth c 11 k M (k - 0) (SL k - SL 0) (lw_Z below #[Value.ref b] s) 334 [(0, xV (xB E)), (1, rV o1), (2, iV a2), (4, iV a4), (5, iV a5), (6, iV a6), (7, lV b7), (9, iV a9)] [iV x53] by
          refine g_icmp_ne X 332 dL_law_325 (by decide) ⟨fun h => h, fun h => h⟩ (fun hc => ?_) (fun hc => ?_)
          · refine g_iload X dL_law_332 5 rfl ?_
            exact kk _ (if_neg hc).symm
          · refine g_iconst X (3 : Int32) dL_law_328 (by decide) ?_
            refine g_goto X 334 dL_law_329 (by decide) ?_
            exact kk _ (if_pos hc).symm
        intro x53 hx53
        have hw := hw x53 hx53
        refine g_istore (lv' := [(10, iV x53), (0, xV (xB E)), (1, rV o1), (2, iV a2), (4, iV a4), (5, iV a5), (6, iV a6), (7, lV b7), (9, iV a9)]) X dL_law_334 (by decide) rfl ?_
        refine g_iload X dL_law_336 8 rfl ?_
        refine g_if_eq X 417 dL_law_338 (by decide) hw (fun hw => ?_) (fun hw => ?_)
        · refine g_lvsub (lv' := [(0, xV (xB E)), (1, rV o1), (2, iV a2), (9, iV a9)]) [1, 2, 3, 8] rfl ?_
          exact L417 _ _ _ _ _ hw
        · refine g_iload X dL_law_341 5 rfl ?_
          refine g_bipush X (8 : Int32) dL_law_343 (by decide) ?_
          refine g_icmp_lt X 355 dL_law_345 (by decide) hw (fun hw => ?_) (fun hw => ?_)
          · refine g_iload X dL_law_355 4 rfl ?_
            refine g_sipush X (1536 : Int32) dL_law_357 (by decide) ?_
            refine g_iand X dL_law_360 ?_
            refine g_if_ne X 417 dL_law_361 (by decide) hw (fun hw => ?_) (fun hw => ?_)
            · refine g_lvsub (lv' := [(0, xV (xB E)), (1, rV o1), (2, iV a2), (9, iV a9)]) [1, 2, 3, 8] rfl ?_
              exact L417 _ _ _ _ _ hw
            · refine g_aload_n X dL_law_364 2 rfl ?_
              refine g_bipush X (15 : Int32) dL_law_365 (by decide) ?_
              obtain ⟨hA58, hw⟩ := hw
              obtain ⟨hk59, hw⟩ := hw
              refine g_calli (pc' := 370) (rest := []) rfl (fun H locs ls d qR qL => g_runV X cw_L_13 iv_X5_count ⟨Nat.le_of_ble_eq_true rfl, Nat.le_of_ble_eq_true rfl⟩ dL_law_367 (c_X5_count l E k M o1 (15 : Int32) _ hw) hk59 rfl rfl (Nat.le_of_ble_eq_true rfl) hA58 qR qL) (fun x61 M60 hw => ?_)
              refine g_widen (k := k - 0) (z := SL k - SL 0) (Nat.le_of_eq (Nat.add_zero _)) (Nat.le_of_eq (Nat.add_zero _)) ?_
              refine g_iload X dL_law_370 6 rfl ?_
              refine g_icmp_ne X 391 dL_law_372 (by decide) hw (fun hw => ?_) (fun hw => ?_)
              · refine g_aload_n X dL_law_391 2 rfl ?_
                obtain ⟨hA62, hw⟩ := hw
                refine g_calli (pc' := 395) (rest := []) rfl (fun H locs ls d qR qL => g_runV X cw_L_143 iv_X5_undo ⟨Nat.le_of_ble_eq_true rfl, Nat.le_of_ble_eq_true rfl⟩ dL_law_392 (c_X5_undo l E k M60 o1  _ hw) hk59 rfl rfl (Nat.le_of_ble_eq_true rfl) hA62 qR qL) (fun x64 M63 hw => ?_)
                refine g_widen (k := k - 0) (z := SL k - SL 0) (Nat.le_of_eq (Nat.add_zero _)) (Nat.le_of_eq (Nat.add_zero _)) ?_
                refine g_iload X dL_law_395 0 rfl ?_
                refine g_icmp_ne X 414 dL_law_397 (by decide) hw (fun hw => ?_) (fun hw => ?_)
                · refine g_iconst X (0 : Int32) dL_law_414 (by decide) ?_
                  refine g_istore (lv' := [(9, iV (0 : Int32)), (10, iV x53), (0, xV (xB E)), (1, rV o1), (2, iV a2), (4, iV a4), (5, iV a5), (6, iV a6), (7, lV b7)]) X dL_law_415 (by decide) rfl ?_
                  refine g_lvsub (lv' := [(0, xV (xB E)), (1, rV o1), (2, iV a2), (9, iV (0 : Int32))]) [2, 3, 4, 0] rfl ?_
                  exact L417 _ _ _ _ _ hw
                · refine g_aload_n X dL_law_400 2 rfl ?_
                  obtain ⟨hA65, hw⟩ := hw
                  refine g_calll (pc' := 404) (rest := []) rfl (fun H locs ls d qR qL => g_runS X cw_L_130 wt_L_digest ⟨Nat.le_of_ble_eq_true rfl, Nat.le_of_ble_eq_true rfl⟩ dL_law_401 (c_L_digest l E k M63 o1 _ hw) rfl rfl (Nat.le_of_ble_eq_true rfl) hA65 qR qL) (fun y67 M66 hw => ?_)
                  refine g_widen (k := k - 0) (z := SL k - SL 0) (Nat.le_of_eq (Nat.add_zero _)) (Nat.le_of_eq (Nat.add_zero _)) ?_
                  refine g_lload X dL_law_404 7 rfl ?_
                  refine g_lcmp X dL_law_406 ?_
                  suffices kk : ∀ x68 : Int32, x68 = (if (lg_cmp y67 b7) = 0 then (1 : Int32) else (0 : Int32)) → G E p l e room_1 s m #[Value.ref b] below meth c 11 k M66 (k - 0) (SL k - SL 0) (lw_Z below #[Value.ref b] s) 415 [(10, iV x53), (0, xV (xB E)), (1, rV o1), (2, iV a2), (4, iV a4), (5, iV a5), (6, iV a6), (7, lV b7), (9, iV a9)] [iV x68] by
                    refine g_if_ne X 414 dL_law_407 (by decide) ⟨fun h => h, fun h => h⟩ (fun hc => ?_) (fun hc => ?_)
                    · refine g_iconst X (0 : Int32) dL_law_414 (by decide) ?_
                      exact kk _ (if_neg hc).symm
                    · refine g_iconst X (1 : Int32) dL_law_410 (by decide) ?_
                      refine g_goto X 415 dL_law_411 (by decide) ?_
                      exact kk _ (if_pos hc).symm
                  intro x68 hx68
                  have hw := hw x68 hx68
                  refine g_istore (lv' := [(9, iV x68), (10, iV x53), (0, xV (xB E)), (1, rV o1), (2, iV a2), (4, iV a4), (5, iV a5), (6, iV a6), (7, lV b7)]) X dL_law_415 (by decide) rfl ?_
                  refine g_lvsub (lv' := [(0, xV (xB E)), (1, rV o1), (2, iV a2), (9, iV x68)]) [2, 3, 4, 0] rfl ?_
                  exact L417 _ _ _ _ _ hw
              · refine g_iload X dL_law_375 6 rfl ?_
                refine g_iconst X (4 : Int32) dL_law_377 (by decide) ?_
                refine g_icmp_ne X 417 dL_law_378 (by decide) hw (fun hw => ?_) (fun hw => ?_)
                · refine g_lvsub (lv' := [(0, xV (xB E)), (1, rV o1), (2, iV a2), (9, iV a9)]) [1, 2, 3, 8] rfl ?_
                  exact L417 _ _ _ _ _ hw
                · refine g_aload_n X dL_law_381 2 rfl ?_
                  obtain ⟨hA69, hw⟩ := hw
                  refine g_calll (pc' := 385) (rest := []) rfl (fun H locs ls d qR qL => g_runS X cw_L_130 wt_L_digest ⟨Nat.le_of_ble_eq_true rfl, Nat.le_of_ble_eq_true rfl⟩ dL_law_382 (c_L_digest l E k M60 o1 _ hw) rfl rfl (Nat.le_of_ble_eq_true rfl) hA69 qR qL) (fun y71 M70 hw => ?_)
                  refine g_widen (k := k - 0) (z := SL k - SL 0) (Nat.le_of_eq (Nat.add_zero _)) (Nat.le_of_eq (Nat.add_zero _)) ?_
                  refine g_lload X dL_law_385 7 rfl ?_
                  refine g_lcmp X dL_law_387 ?_
                  refine g_if_eq X 417 dL_law_388 (by decide) hw (fun hw => ?_) (fun hw => ?_)
                  · refine g_lvsub (lv' := [(0, xV (xB E)), (1, rV o1), (2, iV a2), (9, iV a9)]) [1, 2, 3, 8] rfl ?_
                    exact L417 _ _ _ _ _ hw
                  · refine g_aload_n X dL_law_391 2 rfl ?_
                    obtain ⟨hA72, hw⟩ := hw
                    refine g_calli (pc' := 395) (rest := []) rfl (fun H locs ls d qR qL => g_runV X cw_L_143 iv_X5_undo ⟨Nat.le_of_ble_eq_true rfl, Nat.le_of_ble_eq_true rfl⟩ dL_law_392 (c_X5_undo l E k M70 o1  _ hw) hk59 rfl rfl (Nat.le_of_ble_eq_true rfl) hA72 qR qL) (fun x74 M73 hw => ?_)
                    refine g_widen (k := k - 0) (z := SL k - SL 0) (Nat.le_of_eq (Nat.add_zero _)) (Nat.le_of_eq (Nat.add_zero _)) ?_
                    refine g_iload X dL_law_395 0 rfl ?_
                    refine g_icmp_ne X 414 dL_law_397 (by decide) hw (fun hw => ?_) (fun hw => ?_)
                    · refine g_iconst X (0 : Int32) dL_law_414 (by decide) ?_
                      refine g_istore (lv' := [(9, iV (0 : Int32)), (10, iV x53), (0, xV (xB E)), (1, rV o1), (2, iV a2), (4, iV a4), (5, iV a5), (6, iV a6), (7, lV b7)]) X dL_law_415 (by decide) rfl ?_
                      refine g_lvsub (lv' := [(0, xV (xB E)), (1, rV o1), (2, iV a2), (9, iV (0 : Int32))]) [2, 3, 4, 0] rfl ?_
                      exact L417 _ _ _ _ _ hw
                    · refine g_aload_n X dL_law_400 2 rfl ?_
                      obtain ⟨hA75, hw⟩ := hw
                      refine g_calll (pc' := 404) (rest := []) rfl (fun H locs ls d qR qL => g_runS X cw_L_130 wt_L_digest ⟨Nat.le_of_ble_eq_true rfl, Nat.le_of_ble_eq_true rfl⟩ dL_law_401 (c_L_digest l E k M73 o1 _ hw) rfl rfl (Nat.le_of_ble_eq_true rfl) hA75 qR qL) (fun y77 M76 hw => ?_)
                      refine g_widen (k := k - 0) (z := SL k - SL 0) (Nat.le_of_eq (Nat.add_zero _)) (Nat.le_of_eq (Nat.add_zero _)) ?_
                      refine g_lload X dL_law_404 7 rfl ?_
                      refine g_lcmp X dL_law_406 ?_
                      suffices kk : ∀ x78 : Int32, x78 = (if (lg_cmp y77 b7) = 0 then (1 : Int32) else (0 : Int32)) → G E p l e room_1 s m #[Value.ref b] below meth c 11 k M76 (k - 0) (SL k - SL 0) (lw_Z below #[Value.ref b] s) 415 [(10, iV x53), (0, xV (xB E)), (1, rV o1), (2, iV a2), (4, iV a4), (5, iV a5), (6, iV a6), (7, lV b7), (9, iV a9)] [iV x78] by
                        refine g_if_ne X 414 dL_law_407 (by decide) ⟨fun h => h, fun h => h⟩ (fun hc => ?_) (fun hc => ?_)
                        · refine g_iconst X (0 : Int32) dL_law_414 (by decide) ?_
                          exact kk _ (if_neg hc).symm
                        · refine g_iconst X (1 : Int32) dL_law_410 (by decide) ?_
                          refine g_goto X 415 dL_law_411 (by decide) ?_
                          exact kk _ (if_pos hc).symm
                      intro x78 hx78
                      have hw := hw x78 hx78
                      refine g_istore (lv' := [(9, iV x78), (10, iV x53), (0, xV (xB E)), (1, rV o1), (2, iV a2), (4, iV a4), (5, iV a5), (6, iV a6), (7, lV b7)]) X dL_law_415 (by decide) rfl ?_
                      refine g_lvsub (lv' := [(0, xV (xB E)), (1, rV o1), (2, iV a2), (9, iV x78)]) [2, 3, 4, 0] rfl ?_
                      exact L417 _ _ _ _ _ hw
          · refine g_iload X dL_law_348 5 rfl ?_
            refine g_bipush X (11 : Int32) dL_law_350 (by decide) ?_
            refine g_icmp_le X 417 dL_law_352 (by decide) hw (fun hw => ?_) (fun hw => ?_)
            · refine g_lvsub (lv' := [(0, xV (xB E)), (1, rV o1), (2, iV a2), (9, iV a9)]) [1, 2, 3, 8] rfl ?_
              exact L417 _ _ _ _ _ hw
            · refine g_iload X dL_law_355 4 rfl ?_
              refine g_sipush X (1536 : Int32) dL_law_357 (by decide) ?_
              refine g_iand X dL_law_360 ?_
              refine g_if_ne X 417 dL_law_361 (by decide) hw (fun hw => ?_) (fun hw => ?_)
              · refine g_lvsub (lv' := [(0, xV (xB E)), (1, rV o1), (2, iV a2), (9, iV a9)]) [1, 2, 3, 8] rfl ?_
                exact L417 _ _ _ _ _ hw
              · refine g_aload_n X dL_law_364 2 rfl ?_
                refine g_bipush X (15 : Int32) dL_law_365 (by decide) ?_
                obtain ⟨hA79, hw⟩ := hw
                obtain ⟨hk80, hw⟩ := hw
                refine g_calli (pc' := 370) (rest := []) rfl (fun H locs ls d qR qL => g_runV X cw_L_13 iv_X5_count ⟨Nat.le_of_ble_eq_true rfl, Nat.le_of_ble_eq_true rfl⟩ dL_law_367 (c_X5_count l E k M o1 (15 : Int32) _ hw) hk80 rfl rfl (Nat.le_of_ble_eq_true rfl) hA79 qR qL) (fun x82 M81 hw => ?_)
                refine g_widen (k := k - 0) (z := SL k - SL 0) (Nat.le_of_eq (Nat.add_zero _)) (Nat.le_of_eq (Nat.add_zero _)) ?_
                refine g_iload X dL_law_370 6 rfl ?_
                refine g_icmp_ne X 391 dL_law_372 (by decide) hw (fun hw => ?_) (fun hw => ?_)
                · refine g_aload_n X dL_law_391 2 rfl ?_
                  obtain ⟨hA83, hw⟩ := hw
                  refine g_calli (pc' := 395) (rest := []) rfl (fun H locs ls d qR qL => g_runV X cw_L_143 iv_X5_undo ⟨Nat.le_of_ble_eq_true rfl, Nat.le_of_ble_eq_true rfl⟩ dL_law_392 (c_X5_undo l E k M81 o1  _ hw) hk80 rfl rfl (Nat.le_of_ble_eq_true rfl) hA83 qR qL) (fun x85 M84 hw => ?_)
                  refine g_widen (k := k - 0) (z := SL k - SL 0) (Nat.le_of_eq (Nat.add_zero _)) (Nat.le_of_eq (Nat.add_zero _)) ?_
                  refine g_iload X dL_law_395 0 rfl ?_
                  refine g_icmp_ne X 414 dL_law_397 (by decide) hw (fun hw => ?_) (fun hw => ?_)
                  · refine g_iconst X (0 : Int32) dL_law_414 (by decide) ?_
                    refine g_istore (lv' := [(9, iV (0 : Int32)), (10, iV x53), (0, xV (xB E)), (1, rV o1), (2, iV a2), (4, iV a4), (5, iV a5), (6, iV a6), (7, lV b7)]) X dL_law_415 (by decide) rfl ?_
                    refine g_lvsub (lv' := [(0, xV (xB E)), (1, rV o1), (2, iV a2), (9, iV (0 : Int32))]) [2, 3, 4, 0] rfl ?_
                    exact L417 _ _ _ _ _ hw
                  · refine g_aload_n X dL_law_400 2 rfl ?_
                    obtain ⟨hA86, hw⟩ := hw
                    refine g_calll (pc' := 404) (rest := []) rfl (fun H locs ls d qR qL => g_runS X cw_L_130 wt_L_digest ⟨Nat.le_of_ble_eq_true rfl, Nat.le_of_ble_eq_true rfl⟩ dL_law_401 (c_L_digest l E k M84 o1 _ hw) rfl rfl (Nat.le_of_ble_eq_true rfl) hA86 qR qL) (fun y88 M87 hw => ?_)
                    refine g_widen (k := k - 0) (z := SL k - SL 0) (Nat.le_of_eq (Nat.add_zero _)) (Nat.le_of_eq (Nat.add_zero _)) ?_
                    refine g_lload X dL_law_404 7 rfl ?_
                    refine g_lcmp X dL_law_406 ?_
                    suffices kk : ∀ x89 : Int32, x89 = (if (lg_cmp y88 b7) = 0 then (1 : Int32) else (0 : Int32)) → G E p l e room_1 s m #[Value.ref b] below meth c 11 k M87 (k - 0) (SL k - SL 0) (lw_Z below #[Value.ref b] s) 415 [(10, iV x53), (0, xV (xB E)), (1, rV o1), (2, iV a2), (4, iV a4), (5, iV a5), (6, iV a6), (7, lV b7), (9, iV a9)] [iV x89] by
                      refine g_if_ne X 414 dL_law_407 (by decide) ⟨fun h => h, fun h => h⟩ (fun hc => ?_) (fun hc => ?_)
                      · refine g_iconst X (0 : Int32) dL_law_414 (by decide) ?_
                        exact kk _ (if_neg hc).symm
                      · refine g_iconst X (1 : Int32) dL_law_410 (by decide) ?_
                        refine g_goto X 415 dL_law_411 (by decide) ?_
                        exact kk _ (if_pos hc).symm
                    intro x89 hx89
                    have hw := hw x89 hx89
                    refine g_istore (lv' := [(9, iV x89), (10, iV x53), (0, xV (xB E)), (1, rV o1), (2, iV a2), (4, iV a4), (5, iV a5), (6, iV a6), (7, lV b7)]) X dL_law_415 (by decide) rfl ?_
                    refine g_lvsub (lv' := [(0, xV (xB E)), (1, rV o1), (2, iV a2), (9, iV x89)]) [2, 3, 4, 0] rfl ?_
                    exact L417 _ _ _ _ _ hw
                · refine g_iload X dL_law_375 6 rfl ?_
                  refine g_iconst X (4 : Int32) dL_law_377 (by decide) ?_
                  refine g_icmp_ne X 417 dL_law_378 (by decide) hw (fun hw => ?_) (fun hw => ?_)
                  · refine g_lvsub (lv' := [(0, xV (xB E)), (1, rV o1), (2, iV a2), (9, iV a9)]) [1, 2, 3, 8] rfl ?_
                    exact L417 _ _ _ _ _ hw
                  · refine g_aload_n X dL_law_381 2 rfl ?_
                    obtain ⟨hA90, hw⟩ := hw
                    refine g_calll (pc' := 385) (rest := []) rfl (fun H locs ls d qR qL => g_runS X cw_L_130 wt_L_digest ⟨Nat.le_of_ble_eq_true rfl, Nat.le_of_ble_eq_true rfl⟩ dL_law_382 (c_L_digest l E k M81 o1 _ hw) rfl rfl (Nat.le_of_ble_eq_true rfl) hA90 qR qL) (fun y92 M91 hw => ?_)
                    refine g_widen (k := k - 0) (z := SL k - SL 0) (Nat.le_of_eq (Nat.add_zero _)) (Nat.le_of_eq (Nat.add_zero _)) ?_
                    refine g_lload X dL_law_385 7 rfl ?_
                    refine g_lcmp X dL_law_387 ?_
                    refine g_if_eq X 417 dL_law_388 (by decide) hw (fun hw => ?_) (fun hw => ?_)
                    · refine g_lvsub (lv' := [(0, xV (xB E)), (1, rV o1), (2, iV a2), (9, iV a9)]) [1, 2, 3, 8] rfl ?_
                      exact L417 _ _ _ _ _ hw
                    · refine g_aload_n X dL_law_391 2 rfl ?_
                      obtain ⟨hA93, hw⟩ := hw
                      refine g_calli (pc' := 395) (rest := []) rfl (fun H locs ls d qR qL => g_runV X cw_L_143 iv_X5_undo ⟨Nat.le_of_ble_eq_true rfl, Nat.le_of_ble_eq_true rfl⟩ dL_law_392 (c_X5_undo l E k M91 o1  _ hw) hk80 rfl rfl (Nat.le_of_ble_eq_true rfl) hA93 qR qL) (fun x95 M94 hw => ?_)
                      refine g_widen (k := k - 0) (z := SL k - SL 0) (Nat.le_of_eq (Nat.add_zero _)) (Nat.le_of_eq (Nat.add_zero _)) ?_
                      refine g_iload X dL_law_395 0 rfl ?_
                      refine g_icmp_ne X 414 dL_law_397 (by decide) hw (fun hw => ?_) (fun hw => ?_)
                      · refine g_iconst X (0 : Int32) dL_law_414 (by decide) ?_
                        refine g_istore (lv' := [(9, iV (0 : Int32)), (10, iV x53), (0, xV (xB E)), (1, rV o1), (2, iV a2), (4, iV a4), (5, iV a5), (6, iV a6), (7, lV b7)]) X dL_law_415 (by decide) rfl ?_
                        refine g_lvsub (lv' := [(0, xV (xB E)), (1, rV o1), (2, iV a2), (9, iV (0 : Int32))]) [2, 3, 4, 0] rfl ?_
                        exact L417 _ _ _ _ _ hw
                      · refine g_aload_n X dL_law_400 2 rfl ?_
                        obtain ⟨hA96, hw⟩ := hw
                        refine g_calll (pc' := 404) (rest := []) rfl (fun H locs ls d qR qL => g_runS X cw_L_130 wt_L_digest ⟨Nat.le_of_ble_eq_true rfl, Nat.le_of_ble_eq_true rfl⟩ dL_law_401 (c_L_digest l E k M94 o1 _ hw) rfl rfl (Nat.le_of_ble_eq_true rfl) hA96 qR qL) (fun y98 M97 hw => ?_)
                        refine g_widen (k := k - 0) (z := SL k - SL 0) (Nat.le_of_eq (Nat.add_zero _)) (Nat.le_of_eq (Nat.add_zero _)) ?_
                        refine g_lload X dL_law_404 7 rfl ?_
                        refine g_lcmp X dL_law_406 ?_
                        suffices kk : ∀ x99 : Int32, x99 = (if (lg_cmp y98 b7) = 0 then (1 : Int32) else (0 : Int32)) → G E p l e room_1 s m #[Value.ref b] below meth c 11 k M97 (k - 0) (SL k - SL 0) (lw_Z below #[Value.ref b] s) 415 [(10, iV x53), (0, xV (xB E)), (1, rV o1), (2, iV a2), (4, iV a4), (5, iV a5), (6, iV a6), (7, lV b7), (9, iV a9)] [iV x99] by
                          refine g_if_ne X 414 dL_law_407 (by decide) ⟨fun h => h, fun h => h⟩ (fun hc => ?_) (fun hc => ?_)
                          · refine g_iconst X (0 : Int32) dL_law_414 (by decide) ?_
                            exact kk _ (if_neg hc).symm
                          · refine g_iconst X (1 : Int32) dL_law_410 (by decide) ?_
                            refine g_goto X 415 dL_law_411 (by decide) ?_
                            exact kk _ (if_pos hc).symm
                        intro x99 hx99
                        have hw := hw x99 hx99
                        refine g_istore (lv' := [(9, iV x99), (10, iV x53), (0, xV (xB E)), (1, rV o1), (2, iV a2), (4, iV a4), (5, iV a5), (6, iV a6), (7, lV b7)]) X dL_law_415 (by decide) rfl ?_
                        refine g_lvsub (lv' := [(0, xV (xB E)), (1, rV o1), (2, iV a2), (9, iV x99)]) [2, 3, 4, 0] rfl ?_
                        exact L417 _ _ _ _ _ hw
      intro k M o1 a2 hw
      unfold w_L_law_L100 at hw
      refine g_iload_n X dL_law_100 2 rfl ?_
      refine g_bipush X (26 : Int32) dL_law_101 (by decide) ?_
      refine g_icmp_ge X 437 dL_law_103 (by decide) hw (fun hw => ?_) (fun hw => ?_)
      · refine g_iconst X (1 : Int32) dL_law_437 (by decide) ?_
        refine g_widen (k := 600000) (z := 7302250) hw.1 hw.2 ?_
        exact g_lawret X hSt hr hlk dL_law_438
      · refine g_aload_nS X dL_law_106 0 rfl ?_
        refine g_iconst X (2 : Int32) dL_law_107 (by decide) ?_
        refine g_iload_n X dL_law_108 2 rfl ?_
        refine g_imul X dL_law_109 ?_
        obtain ⟨hA34, hw⟩ := hw
        refine g_calli (pc' := 113) (rest := []) rfl (fun H locs ls d qR qL => g_runS X cw_L_155 wt_L_cell ⟨Nat.le_of_ble_eq_true rfl, Nat.le_of_ble_eq_true rfl⟩ dL_law_110 (c_L_cell l E k M ((2 : Int32) * a2) _ hw) rfl rfl (Nat.le_of_ble_eq_true rfl) hA34 qR qL) (fun x36 M35 hw => ?_)
        refine g_widen (k := k - 0) (z := SL k - SL 0) (Nat.le_of_eq (Nat.add_zero _)) (Nat.le_of_eq (Nat.add_zero _)) ?_
        refine g_istore_n (lv' := [(3, iV x36), (0, xV (xB E)), (1, rV o1), (2, iV a2)]) X dL_law_113 (by decide) rfl ?_
        refine g_aload_nS X dL_law_114 1 rfl ?_
        refine g_iconst X (2 : Int32) dL_law_115 (by decide) ?_
        refine g_iload_n X dL_law_116 3 rfl ?_
        refine g_imul X dL_law_117 ?_
        refine g_iconst X (1 : Int32) dL_law_118 (by decide) ?_
        refine g_iadd X dL_law_119 ?_
        obtain ⟨hA37, hw⟩ := hw
        refine g_calli (pc' := 123) (rest := []) rfl (fun H locs ls d qR qL => g_runS X cw_L_155 wt_L_cell ⟨Nat.le_of_ble_eq_true rfl, Nat.le_of_ble_eq_true rfl⟩ dL_law_120 (c_L_cell l E k M35 (((2 : Int32) * a2) + (1 : Int32)) _ hw) rfl rfl (Nat.le_of_ble_eq_true rfl) hA37 qR qL) (fun x39 M38 hw => ?_)
        refine g_widen (k := k - 0) (z := SL k - SL 0) (Nat.le_of_eq (Nat.add_zero _)) (Nat.le_of_eq (Nat.add_zero _)) ?_
        refine g_istore (lv' := [(4, iV x39), (3, iV x36), (0, xV (xB E)), (1, rV o1), (2, iV a2)]) X dL_law_123 (by decide) rfl ?_
        refine g_iload_n X dL_law_125 1 rfl ?_
        refine g_bipush X (9 : Int32) dL_law_126 (by decide) ?_
        refine g_ishr X dL_law_128 ?_
        refine g_bipush X (20 : Int32) dL_law_129 (by decide) ?_
        obtain ⟨hA40, hw⟩ := hw
        refine g_calli (pc' := 134) (rest := []) rfl (fun H locs ls d qR qL => g_runS X cw_L_75 wt_L_low ⟨Nat.le_of_ble_eq_true rfl, Nat.le_of_ble_eq_true rfl⟩ dL_law_131 (c_L_low l E k M38 (x36 >>> ((9 : Int32) &&& 31)) (20 : Int32) _ hw) rfl rfl (Nat.le_of_ble_eq_true rfl) hA40 qR qL) (fun x42 M41 hw => ?_)
        refine g_widen (k := k - 0) (z := SL k - SL 0) (Nat.le_of_eq (Nat.add_zero _)) (Nat.le_of_eq (Nat.add_zero _)) ?_
        refine g_istore (lv' := [(5, iV x42), (4, iV x39), (3, iV x36), (0, xV (xB E)), (1, rV o1), (2, iV a2)]) X dL_law_134 (by decide) rfl ?_
        refine g_aload_n X dL_law_136 4 rfl ?_
        refine g_bipush X (15 : Int32) dL_law_137 (by decide) ?_
        obtain ⟨hA43, hw⟩ := hw
        obtain ⟨hk44, hw⟩ := hw
        refine g_calli (pc' := 142) (rest := []) rfl (fun H locs ls d qR qL => g_runV X cw_L_13 iv_X5_count ⟨Nat.le_of_ble_eq_true rfl, Nat.le_of_ble_eq_true rfl⟩ dL_law_139 (c_X5_count l E k M41 o1 (15 : Int32) _ hw) hk44 rfl rfl (Nat.le_of_ble_eq_true rfl) hA43 qR qL) (fun x46 M45 hw => ?_)
        refine g_widen (k := k - 0) (z := SL k - SL 0) (Nat.le_of_eq (Nat.add_zero _)) (Nat.le_of_eq (Nat.add_zero _)) ?_
        refine g_istore (lv' := [(6, iV x46), (5, iV x42), (4, iV x39), (3, iV x36), (0, xV (xB E)), (1, rV o1), (2, iV a2)]) X dL_law_142 (by decide) rfl ?_
        refine g_aload_n X dL_law_144 5 rfl ?_
        obtain ⟨hA47, hw⟩ := hw
        refine g_calll (pc' := 148) (rest := []) rfl (fun H locs ls d qR qL => g_runS X cw_L_130 wt_L_digest ⟨Nat.le_of_ble_eq_true rfl, Nat.le_of_ble_eq_true rfl⟩ dL_law_145 (c_L_digest l E k M45 o1 _ hw) rfl rfl (Nat.le_of_ble_eq_true rfl) hA47 qR qL) (fun y49 M48 hw => ?_)
        refine g_widen (k := k - 0) (z := SL k - SL 0) (Nat.le_of_eq (Nat.add_zero _)) (Nat.le_of_eq (Nat.add_zero _)) ?_
        refine g_lstore (lv' := [(7, lV y49), (6, iV x46), (5, iV x42), (4, iV x39), (3, iV x36), (0, xV (xB E)), (1, rV o1), (2, iV a2)]) X dL_law_148 (by decide) rfl ?_
        refine g_iconst X (1 : Int32) dL_law_150 (by decide) ?_
        refine g_istore (lv' := [(9, iV (1 : Int32)), (7, lV y49), (6, iV x46), (5, iV x42), (4, iV x39), (3, iV x36), (0, xV (xB E)), (1, rV o1), (2, iV a2)]) X dL_law_151 (by decide) rfl ?_
        refine g_iload X dL_law_153 3 rfl ?_
        refine g_iconst X (4 : Int32) dL_law_155 (by decide) ?_
        refine g_icmp_ge X 173 dL_law_156 (by decide) hw (fun hw => ?_) (fun hw => ?_)
        · refine g_iload X dL_law_173 3 rfl ?_
          refine g_iconst X (4 : Int32) dL_law_175 (by decide) ?_
          refine g_icmp_ne X 240 dL_law_176 (by decide) hw (fun hw => ?_) (fun hw => ?_)
          · refine g_iload X dL_law_240 3 rfl ?_
            refine g_bipush X (8 : Int32) dL_law_242 (by decide) ?_
            refine g_icmp_ge X 277 dL_law_244 (by decide) hw (fun hw => ?_) (fun hw => ?_)
            · refine g_iload X dL_law_277 3 rfl ?_
              refine g_bipush X (12 : Int32) dL_law_279 (by decide) ?_
              refine g_icmp_ge X 313 dL_law_281 (by decide) hw (fun hw => ?_) (fun hw => ?_)
              · refine g_aload_n X dL_law_313 7 rfl ?_
                refine g_iload_n X dL_law_314 5 rfl ?_
                refine g_iload X dL_law_315 4 rfl ?_
                obtain ⟨hA50, hw⟩ := hw
                refine g_calli (pc' := 320) (rest := []) rfl (fun H locs ls d qR qL => g_runS X cw_L_170 wt_L_adds ⟨Nat.le_of_ble_eq_true rfl, Nat.le_of_ble_eq_true rfl⟩ dL_law_317 (c_L_adds l E k M48 o1 x36 x39 _ hw) rfl rfl (Nat.le_of_ble_eq_true rfl) hA50 qR qL) (fun x52 M51 hw => ?_)
                refine g_widen (k := k - 0) (z := SL k - SL 0) (Nat.le_of_eq (Nat.add_zero _)) (Nat.le_of_eq (Nat.add_zero _)) ?_
                refine g_istore (lv' := [(9, iV x52), (7, lV y49), (6, iV x46), (5, iV x42), (4, iV x39), (3, iV x36), (0, xV (xB E)), (1, rV o1), (2, iV a2)]) X dL_law_320 (by decide) rfl ?_
                refine g_lvsub (lv' := [(0, xV (xB E)), (1, rV o1), (2, iV a2), (4, iV x39), (5, iV x42), (6, iV x46), (7, lV y49), (9, iV x52)]) [6, 7, 8, 4, 3, 2, 1, 0] rfl ?_
                exact L322 _ _ _ _ _ _ _ _ _ hw
              · refine g_aload_n X dL_law_284 7 rfl ?_
                refine g_iconst X (1 : Int32) dL_law_285 (by decide) ?_
                refine g_iload X dL_law_286 4 rfl ?_
                refine g_bipush X (6 : Int32) dL_law_288 (by decide) ?_
                obtain ⟨hA100, hw⟩ := hw
                refine g_calli (pc' := 293) (rest := [iV (1 : Int32), rV o1]) rfl (fun H locs ls d qR qL => g_runS X cw_L_75 wt_L_low ⟨Nat.le_of_ble_eq_true rfl, Nat.le_of_ble_eq_true rfl⟩ dL_law_290 (c_L_low l E k M48 x39 (6 : Int32) _ hw) rfl rfl (Nat.le_of_ble_eq_true rfl) hA100 qR qL) (fun x102 M101 hw => ?_)
                refine g_widen (k := k - 0) (z := SL k - SL 0) (Nat.le_of_eq (Nat.add_zero _)) (Nat.le_of_eq (Nat.add_zero _)) ?_
                refine g_iadd X dL_law_293 ?_
                refine g_iconst X (1 : Int32) dL_law_294 (by decide) ?_
                refine g_iload X dL_law_295 4 rfl ?_
                refine g_iconst X (5 : Int32) dL_law_297 (by decide) ?_
                refine g_ishr X dL_law_298 ?_
                refine g_bipush X (6 : Int32) dL_law_299 (by decide) ?_
                obtain ⟨hA103, hw⟩ := hw
                refine g_calli (pc' := 304) (rest := [iV (1 : Int32), iV ((1 : Int32) + x102), rV o1]) rfl (fun H locs ls d qR qL => g_runS X cw_L_75 wt_L_low ⟨Nat.le_of_ble_eq_true rfl, Nat.le_of_ble_eq_true rfl⟩ dL_law_301 (c_L_low l E k M101 (x39 >>> ((5 : Int32) &&& 31)) (6 : Int32) _ hw) rfl rfl (Nat.le_of_ble_eq_true rfl) hA103 qR qL) (fun x105 M104 hw => ?_)
                refine g_widen (k := k - 0) (z := SL k - SL 0) (Nat.le_of_eq (Nat.add_zero _)) (Nat.le_of_eq (Nat.add_zero _)) ?_
                refine g_iadd X dL_law_304 ?_
                obtain ⟨hA106, hw⟩ := hw
                refine g_calli (pc' := 308) (rest := []) rfl (fun H locs ls d qR qL => g_runS X cw_L_166 wt_L_runs ⟨Nat.le_of_ble_eq_true rfl, Nat.le_of_ble_eq_true rfl⟩ dL_law_305 (c_L_runs l E k M104 o1 ((1 : Int32) + x102) ((1 : Int32) + x105) _ hw) rfl rfl (Nat.le_of_ble_eq_true rfl) hA106 qR qL) (fun x108 M107 hw => ?_)
                refine g_widen (k := k - 0) (z := SL k - SL 0) (Nat.le_of_eq (Nat.add_zero _)) (Nat.le_of_eq (Nat.add_zero _)) ?_
                refine g_istore (lv' := [(9, iV x108), (7, lV y49), (6, iV x46), (5, iV x42), (4, iV x39), (3, iV x36), (0, xV (xB E)), (1, rV o1), (2, iV a2)]) X dL_law_308 (by decide) rfl ?_
                refine g_goto X 322 dL_law_310 (by decide) ?_
                refine g_lvsub (lv' := [(0, xV (xB E)), (1, rV o1), (2, iV a2), (4, iV x39), (5, iV x42), (6, iV x46), (7, lV y49), (9, iV x108)]) [6, 7, 8, 4, 3, 2, 1, 0] rfl ?_
                exact L322 _ _ _ _ _ _ _ _ _ hw
            · refine g_aload_n X dL_law_247 7 rfl ?_
              refine g_iload X dL_law_248 3 rfl ?_
              refine g_iconst X (5 : Int32) dL_law_250 (by decide) ?_
              refine g_icmp_ne X 263 dL_law_251 (by decide) hw (fun hw => ?_) (fun hw => ?_)
              · refine g_iload X dL_law_263 4 rfl ?_
                refine g_iconst X (2 : Int32) dL_law_265 (by decide) ?_
                obtain ⟨hA109, hw⟩ := hw
                refine g_calli (pc' := 269) (rest := [rV o1]) rfl (fun H locs ls d qR qL => g_runS X cw_L_75 wt_L_low ⟨Nat.le_of_ble_eq_true rfl, Nat.le_of_ble_eq_true rfl⟩ dL_law_266 (c_L_low l E k M48 x39 (2 : Int32) _ hw) rfl rfl (Nat.le_of_ble_eq_true rfl) hA109 qR qL) (fun x111 M110 hw => ?_)
                refine g_widen (k := k - 0) (z := SL k - SL 0) (Nat.le_of_eq (Nat.add_zero _)) (Nat.le_of_eq (Nat.add_zero _)) ?_
                obtain ⟨hA112, hw⟩ := hw
                refine g_calli (pc' := 272) (rest := []) rfl (fun H locs ls d qR qL => g_runS X cw_L_163 wt_L_commands ⟨Nat.le_of_ble_eq_true rfl, Nat.le_of_ble_eq_true rfl⟩ dL_law_269 (c_L_commands l E k M110 o1 x111 _ hw) rfl rfl (Nat.le_of_ble_eq_true rfl) hA112 qR qL) (fun x114 M113 hw => ?_)
                refine g_widen (k := k - 0) (z := SL k - SL 0) (Nat.le_of_eq (Nat.add_zero _)) (Nat.le_of_eq (Nat.add_zero _)) ?_
                refine g_istore (lv' := [(9, iV x114), (7, lV y49), (6, iV x46), (5, iV x42), (4, iV x39), (3, iV x36), (0, xV (xB E)), (1, rV o1), (2, iV a2)]) X dL_law_272 (by decide) rfl ?_
                refine g_goto X 322 dL_law_274 (by decide) ?_
                refine g_lvsub (lv' := [(0, xV (xB E)), (1, rV o1), (2, iV a2), (4, iV x39), (5, iV x42), (6, iV x46), (7, lV y49), (9, iV x114)]) [6, 7, 8, 4, 3, 2, 1, 0] rfl ?_
                exact L322 _ _ _ _ _ _ _ _ _ hw
              · refine g_iload X dL_law_254 4 rfl ?_
                refine g_iconst X (4 : Int32) dL_law_256 (by decide) ?_
                obtain ⟨hA115, hw⟩ := hw
                refine g_calli (pc' := 260) (rest := [rV o1]) rfl (fun H locs ls d qR qL => g_runS X cw_L_75 wt_L_low ⟨Nat.le_of_ble_eq_true rfl, Nat.le_of_ble_eq_true rfl⟩ dL_law_257 (c_L_low l E k M48 x39 (4 : Int32) _ hw) rfl rfl (Nat.le_of_ble_eq_true rfl) hA115 qR qL) (fun x117 M116 hw => ?_)
                refine g_widen (k := k - 0) (z := SL k - SL 0) (Nat.le_of_eq (Nat.add_zero _)) (Nat.le_of_eq (Nat.add_zero _)) ?_
                refine g_goto X 269 dL_law_260 (by decide) ?_
                obtain ⟨hA118, hw⟩ := hw
                refine g_calli (pc' := 272) (rest := []) rfl (fun H locs ls d qR qL => g_runS X cw_L_163 wt_L_commands ⟨Nat.le_of_ble_eq_true rfl, Nat.le_of_ble_eq_true rfl⟩ dL_law_269 (c_L_commands l E k M116 o1 x117 _ hw) rfl rfl (Nat.le_of_ble_eq_true rfl) hA118 qR qL) (fun x120 M119 hw => ?_)
                refine g_widen (k := k - 0) (z := SL k - SL 0) (Nat.le_of_eq (Nat.add_zero _)) (Nat.le_of_eq (Nat.add_zero _)) ?_
                refine g_istore (lv' := [(9, iV x120), (7, lV y49), (6, iV x46), (5, iV x42), (4, iV x39), (3, iV x36), (0, xV (xB E)), (1, rV o1), (2, iV a2)]) X dL_law_272 (by decide) rfl ?_
                refine g_goto X 322 dL_law_274 (by decide) ?_
                refine g_lvsub (lv' := [(0, xV (xB E)), (1, rV o1), (2, iV a2), (4, iV x39), (5, iV x42), (6, iV x46), (7, lV y49), (9, iV x120)]) [6, 7, 8, 4, 3, 2, 1, 0] rfl ?_
                exact L322 _ _ _ _ _ _ _ _ _ hw
          · refine g_aload_n X dL_law_179 7 rfl ?_
            refine g_iconst X (2 : Int32) dL_law_180 (by decide) ?_
            obtain ⟨hA121, hw⟩ := hw
            refine g_calli (pc' := 184) (rest := []) rfl (fun H locs ls d qR qL => g_runV X cw_L_13 iv_X5_count ⟨Nat.le_of_ble_eq_true rfl, Nat.le_of_ble_eq_true rfl⟩ dL_law_181 (c_X5_count l E k M48 o1 (2 : Int32) _ hw) hk44 rfl rfl (Nat.le_of_ble_eq_true rfl) hA121 qR qL) (fun x123 M122 hw => ?_)
            refine g_widen (k := k - 0) (z := SL k - SL 0) (Nat.le_of_eq (Nat.add_zero _)) (Nat.le_of_eq (Nat.add_zero _)) ?_
            refine g_istore (lv' := [(10, iV x123), (9, iV (1 : Int32)), (7, lV y49), (6, iV x46), (5, iV x42), (4, iV x39), (3, iV x36), (0, xV (xB E)), (1, rV o1), (2, iV a2)]) X dL_law_184 (by decide) rfl ?_
            refine g_iload X dL_law_186 5 rfl ?_
            refine g_bipush X (7 : Int32) dL_law_188 (by decide) ?_
            refine g_iand X dL_law_190 ?_
            refine g_if_gt X 230 dL_law_191 (by decide) hw (fun hw => ?_) (fun hw => ?_)
            · refine g_iconst X (1 : Int32) dL_law_230 (by decide) ?_
              refine g_goto X 235 dL_law_231 (by decide) ?_
              refine g_istore (lv' := [(9, iV (1 : Int32)), (10, iV x123), (7, lV y49), (6, iV x46), (5, iV x42), (4, iV x39), (3, iV x36), (0, xV (xB E)), (1, rV o1), (2, iV a2)]) X dL_law_235 (by decide) rfl ?_
              refine g_goto X 322 dL_law_237 (by decide) ?_
              refine g_lvsub (lv' := [(0, xV (xB E)), (1, rV o1), (2, iV a2), (4, iV x39), (5, iV x42), (6, iV x46), (7, lV y49), (9, iV (1 : Int32))]) [7, 8, 9, 5, 4, 3, 2, 0] rfl ?_
              exact L322 _ _ _ _ _ _ _ _ _ hw
            · refine g_aload_n X dL_law_194 8 rfl ?_
              refine g_iconst X (2 : Int32) dL_law_195 (by decide) ?_
              refine g_iload X dL_law_196 5 rfl ?_
              refine g_iconst X (3 : Int32) dL_law_198 (by decide) ?_
              refine g_ishr X dL_law_199 ?_
              refine g_bipush X (7 : Int32) dL_law_200 (by decide) ?_
              obtain ⟨hA124, hw⟩ := hw
              refine g_calli (pc' := 205) (rest := [iV (2 : Int32), rV o1]) rfl (fun H locs ls d qR qL => g_runS X cw_L_75 wt_L_low ⟨Nat.le_of_ble_eq_true rfl, Nat.le_of_ble_eq_true rfl⟩ dL_law_202 (c_L_low l E k M122 (x39 >>> ((3 : Int32) &&& 31)) (7 : Int32) _ hw) rfl rfl (Nat.le_of_ble_eq_true rfl) hA124 qR qL) (fun x126 M125 hw => ?_)
              refine g_widen (k := k - 0) (z := SL k - SL 0) (Nat.le_of_eq (Nat.add_zero _)) (Nat.le_of_eq (Nat.add_zero _)) ?_
              refine g_iadd X dL_law_205 ?_
              obtain ⟨hA127, hw⟩ := hw
              refine g_calli (pc' := 209) (rest := []) rfl (fun H locs ls d qR qL => g_runV X cw_L_149 iv_X5_build ⟨Nat.le_of_ble_eq_true rfl, Nat.le_of_ble_eq_true rfl⟩ dL_law_206 (c_X5_build l E k M125 o1 ((2 : Int32) + x126) _ hw) hk44 rfl rfl (Nat.le_of_ble_eq_true rfl) hA127 qR qL) (fun x129 M128 hw => ?_)
              refine g_widen (k := k - 0) (z := SL k - SL 0) (Nat.le_of_eq (Nat.add_zero _)) (Nat.le_of_eq (Nat.add_zero _)) ?_
              refine g_iload X dL_law_209 0 rfl ?_
              refine g_icmp_ne X 234 dL_law_211 (by decide) hw (fun hw => ?_) (fun hw => ?_)
              · refine g_iconst X (0 : Int32) dL_law_234 (by decide) ?_
                refine g_istore (lv' := [(9, iV (0 : Int32)), (10, iV x123), (7, lV y49), (6, iV x46), (5, iV x42), (4, iV x39), (3, iV x36), (0, xV (xB E)), (1, rV o1), (2, iV a2)]) X dL_law_235 (by decide) rfl ?_
                refine g_goto X 322 dL_law_237 (by decide) ?_
                refine g_lvsub (lv' := [(0, xV (xB E)), (1, rV o1), (2, iV a2), (4, iV x39), (5, iV x42), (6, iV x46), (7, lV y49), (9, iV (0 : Int32))]) [7, 8, 9, 5, 4, 3, 2, 0] rfl ?_
                exact L322 _ _ _ _ _ _ _ _ _ hw
              · refine g_aload_n X dL_law_214 8 rfl ?_
                refine g_iconst X (2 : Int32) dL_law_215 (by decide) ?_
                obtain ⟨hA130, hw⟩ := hw
                refine g_calli (pc' := 219) (rest := []) rfl (fun H locs ls d qR qL => g_runV X cw_L_13 iv_X5_count ⟨Nat.le_of_ble_eq_true rfl, Nat.le_of_ble_eq_true rfl⟩ dL_law_216 (c_X5_count l E k M128 o1 (2 : Int32) _ hw) hk44 rfl rfl (Nat.le_of_ble_eq_true rfl) hA130 qR qL) (fun x132 M131 hw => ?_)
                refine g_widen (k := k - 0) (z := SL k - SL 0) (Nat.le_of_eq (Nat.add_zero _)) (Nat.le_of_eq (Nat.add_zero _)) ?_
                refine g_if_ne X 234 dL_law_219 (by decide) hw (fun hw => ?_) (fun hw => ?_)
                · refine g_iconst X (0 : Int32) dL_law_234 (by decide) ?_
                  refine g_istore (lv' := [(9, iV (0 : Int32)), (10, iV x123), (7, lV y49), (6, iV x46), (5, iV x42), (4, iV x39), (3, iV x36), (0, xV (xB E)), (1, rV o1), (2, iV a2)]) X dL_law_235 (by decide) rfl ?_
                  refine g_goto X 322 dL_law_237 (by decide) ?_
                  refine g_lvsub (lv' := [(0, xV (xB E)), (1, rV o1), (2, iV a2), (4, iV x39), (5, iV x42), (6, iV x46), (7, lV y49), (9, iV (0 : Int32))]) [7, 8, 9, 5, 4, 3, 2, 0] rfl ?_
                  exact L322 _ _ _ _ _ _ _ _ _ hw
                · refine g_aload_n X dL_law_222 8 rfl ?_
                  refine g_iconst X (1 : Int32) dL_law_223 (by decide) ?_
                  obtain ⟨hA133, hw⟩ := hw
                  refine g_calli (pc' := 227) (rest := []) rfl (fun H locs ls d qR qL => g_runV X cw_L_13 iv_X5_count ⟨Nat.le_of_ble_eq_true rfl, Nat.le_of_ble_eq_true rfl⟩ dL_law_224 (c_X5_count l E k M131 o1 (1 : Int32) _ hw) hk44 rfl rfl (Nat.le_of_ble_eq_true rfl) hA133 qR qL) (fun x135 M134 hw => ?_)
                  refine g_widen (k := k - 0) (z := SL k - SL 0) (Nat.le_of_eq (Nat.add_zero _)) (Nat.le_of_eq (Nat.add_zero _)) ?_
                  suffices kk : ∀ x136 : Int32, x136 = (if x135 = 0 then (1 : Int32) else (0 : Int32)) → G E p l e room_1 s m #[Value.ref b] below meth c 11 k M134 (k - 0) (SL k - SL 0) (lw_Z below #[Value.ref b] s) 235 [(10, iV x123), (9, iV (1 : Int32)), (7, lV y49), (6, iV x46), (5, iV x42), (4, iV x39), (3, iV x36), (0, xV (xB E)), (1, rV o1), (2, iV a2)] [iV x136] by
                    refine g_if_ne X 234 dL_law_227 (by decide) ⟨fun h => h, fun h => h⟩ (fun hc => ?_) (fun hc => ?_)
                    · refine g_iconst X (0 : Int32) dL_law_234 (by decide) ?_
                      exact kk _ (if_neg hc).symm
                    · refine g_iconst X (1 : Int32) dL_law_230 (by decide) ?_
                      refine g_goto X 235 dL_law_231 (by decide) ?_
                      exact kk _ (if_pos hc).symm
                  intro x136 hx136
                  have hw := hw x136 hx136
                  refine g_istore (lv' := [(9, iV x136), (10, iV x123), (7, lV y49), (6, iV x46), (5, iV x42), (4, iV x39), (3, iV x36), (0, xV (xB E)), (1, rV o1), (2, iV a2)]) X dL_law_235 (by decide) rfl ?_
                  refine g_goto X 322 dL_law_237 (by decide) ?_
                  refine g_lvsub (lv' := [(0, xV (xB E)), (1, rV o1), (2, iV a2), (4, iV x39), (5, iV x42), (6, iV x46), (7, lV y49), (9, iV x136)]) [7, 8, 9, 5, 4, 3, 2, 0] rfl ?_
                  exact L322 _ _ _ _ _ _ _ _ _ hw
        · refine g_aload_n X dL_law_159 7 rfl ?_
          refine g_iload X dL_law_160 3 rfl ?_
          refine g_iload_n X dL_law_162 5 rfl ?_
          refine g_iload X dL_law_163 4 rfl ?_
          obtain ⟨hA137, hw⟩ := hw
          refine g_calli (pc' := 168) (rest := []) rfl (fun H locs ls d qR qL => g_runS X cw_L_159 wt_L_sets ⟨Nat.le_of_ble_eq_true rfl, Nat.le_of_ble_eq_true rfl⟩ dL_law_165 (c_L_sets l E k M48 o1 x42 x36 x39 _ hw) rfl rfl (Nat.le_of_ble_eq_true rfl) hA137 qR qL) (fun x139 M138 hw => ?_)
          refine g_widen (k := k - 0) (z := SL k - SL 0) (Nat.le_of_eq (Nat.add_zero _)) (Nat.le_of_eq (Nat.add_zero _)) ?_
          refine g_istore (lv' := [(9, iV x139), (7, lV y49), (6, iV x46), (5, iV x42), (4, iV x39), (3, iV x36), (0, xV (xB E)), (1, rV o1), (2, iV a2)]) X dL_law_168 (by decide) rfl ?_
          refine g_goto X 322 dL_law_170 (by decide) ?_
          refine g_lvsub (lv' := [(0, xV (xB E)), (1, rV o1), (2, iV a2), (4, iV x39), (5, iV x42), (6, iV x46), (7, lV y49), (9, iV x139)]) [6, 7, 8, 4, 3, 2, 1, 0] rfl ?_
          exact L322 _ _ _ _ _ _ _ _ _ hw
  unfold w_law at hw
  refine g_new (ci := 5) X dL_law_0 (by decide) ⟨wl_L_14, wx_X5, wi_X5⟩ hw (fun hw => ?_)
  refine g_topM (fun M1 hM1 => ?_)
  have hw := hw M1 hM1
  refine g_topR (fun r2 hr2 => ?_)
  have hw := hw r2 hr2
  refine g_dup X dL_law_3 rfl ?_
  obtain ⟨hA3, hw⟩ := hw
  obtain ⟨hA3b, hw⟩ := hw
  obtain ⟨h04, hw⟩ := hw
  refine g_callv (pc' := 7) (rest := [rV r2]) rfl (fun H locs ls d qR qL => g_runI X cw_L_142 ⟨rfl, wn_X5_init⟩ ⟨Nat.le_of_ble_eq_true rfl, Nat.le_of_ble_eq_true rfl⟩ dL_law_4 (c_X5_init l E (0 + 1) M1 r2  _ hw) h04 rfl rfl (Nat.le_of_ble_eq_true rfl) hA3 qR qL) (fun M5 hw => ?_)
  refine g_widen (k := 0 + 1 + 447 - 0) (z := SL (0 + 1 + 447) - SL 0) hA3b.1 hA3b.2 ?_
  refine g_astore_n (lv' := [(1, rV r2), (0, xV (xB E))]) X dL_law_7 (by decide) rfl ?_
  refine g_aload_n X dL_law_8 0 rfl ?_
  obtain ⟨hA6, hw⟩ := hw
  obtain ⟨hk7, hw⟩ := hw
  refine g_calli (pc' := 12) (rest := []) rfl (fun H locs ls d qR qL => g_runV X cw_L_143 iv_X5_undo ⟨Nat.le_of_ble_eq_true rfl, Nat.le_of_ble_eq_true rfl⟩ dL_law_9 (c_X5_undo l E (0 + 1 + 447) M5 r2  _ hw) hk7 rfl rfl (Nat.le_of_ble_eq_true rfl) hA6 qR qL) (fun x9 M8 hw => ?_)
  refine g_widen (k := (0 + 1 + 447) - 0) (z := SL (0 + 1 + 447) - SL 0) (Nat.le_of_eq (Nat.add_zero _)) (Nat.le_of_eq (Nat.add_zero _)) ?_
  refine g_bipush X (-5 : Int32) dL_law_12 (by decide) ?_
  refine g_icmp_ne X 96 dL_law_14 (by decide) hw (fun hw => ?_) (fun hw => ?_)
  · refine g_iconst X (0 : Int32) dL_law_96 (by decide) ?_
    exact hw.elim
  · refine g_aload_n X dL_law_17 0 rfl ?_
    obtain ⟨hA10, hw⟩ := hw
    refine g_calli (pc' := 21) (rest := []) rfl (fun H locs ls d qR qL => g_runV X cw_L_134 iv_X5_restore ⟨Nat.le_of_ble_eq_true rfl, Nat.le_of_ble_eq_true rfl⟩ dL_law_18 (c_X5_restore l E (0 + 1 + 447) M8 r2  _ hw) hk7 rfl rfl (Nat.le_of_ble_eq_true rfl) hA10 qR qL) (fun x12 M11 hw => ?_)
    refine g_widen (k := (0 + 1 + 447) - 0) (z := SL (0 + 1 + 447) - SL 0) (Nat.le_of_eq (Nat.add_zero _)) (Nat.le_of_eq (Nat.add_zero _)) ?_
    refine g_bipush X (-5 : Int32) dL_law_21 (by decide) ?_
    refine g_icmp_ne X 96 dL_law_23 (by decide) hw (fun hw => ?_) (fun hw => ?_)
    · refine g_iconst X (0 : Int32) dL_law_96 (by decide) ?_
      exact hw.elim
    · refine g_aload_n X dL_law_26 0 rfl ?_
      obtain ⟨hA13, hw⟩ := hw
      refine g_calli (pc' := 30) (rest := []) rfl (fun H locs ls d qR qL => g_runV X cw_L_146 iv_X5_readParts ⟨Nat.le_of_ble_eq_true rfl, Nat.le_of_ble_eq_true rfl⟩ dL_law_27 (c_X5_readParts l E (0 + 1 + 447) M11 r2  _ hw) hk7 rfl rfl (Nat.le_of_ble_eq_true rfl) hA13 qR qL) (fun x15 M14 hw => ?_)
      refine g_widen (k := (0 + 1 + 447) - 0) (z := SL (0 + 1 + 447) - SL 0) (Nat.le_of_eq (Nat.add_zero _)) (Nat.le_of_eq (Nat.add_zero _)) ?_
      refine g_bipush X (-100 : Int32) dL_law_30 (by decide) ?_
      refine g_icmp_ne X 96 dL_law_32 (by decide) hw (fun hw => ?_) (fun hw => ?_)
      · refine g_iconst X (0 : Int32) dL_law_96 (by decide) ?_
        exact hw.elim
      · refine g_aload_n X dL_law_35 0 rfl ?_
        obtain ⟨hA16, hw⟩ := hw
        refine g_calli (pc' := 39) (rest := []) rfl (fun H locs ls d qR qL => g_runV X cw_L_117 iv_X5_perform ⟨Nat.le_of_ble_eq_true rfl, Nat.le_of_ble_eq_true rfl⟩ dL_law_36 (c_X5_perform l E (0 + 1 + 447) M14 r2  _ hw) hk7 rfl rfl (Nat.le_of_ble_eq_true rfl) hA16 qR qL) (fun x18 M17 hw => ?_)
        refine g_widen (k := (0 + 1 + 447) - 0) (z := SL (0 + 1 + 447) - SL 0) (Nat.le_of_eq (Nat.add_zero _)) (Nat.le_of_eq (Nat.add_zero _)) ?_
        refine g_bipush X (-2 : Int32) dL_law_39 (by decide) ?_
        refine g_icmp_ne X 96 dL_law_41 (by decide) hw (fun hw => ?_) (fun hw => ?_)
        · refine g_iconst X (0 : Int32) dL_law_96 (by decide) ?_
          exact hw.elim
        · refine g_aload_n X dL_law_44 0 rfl ?_
          refine g_iconst X (0 : Int32) dL_law_45 (by decide) ?_
          obtain ⟨hA19, hw⟩ := hw
          refine g_calli (pc' := 49) (rest := []) rfl (fun H locs ls d qR qL => g_runV X cw_L_13 iv_X5_count ⟨Nat.le_of_ble_eq_true rfl, Nat.le_of_ble_eq_true rfl⟩ dL_law_46 (c_X5_count l E (0 + 1 + 447) M17 r2 (0 : Int32) _ hw) hk7 rfl rfl (Nat.le_of_ble_eq_true rfl) hA19 qR qL) (fun x21 M20 hw => ?_)
          refine g_widen (k := (0 + 1 + 447) - 0) (z := SL (0 + 1 + 447) - SL 0) (Nat.le_of_eq (Nat.add_zero _)) (Nat.le_of_eq (Nat.add_zero _)) ?_
          refine g_iconst X (4 : Int32) dL_law_49 (by decide) ?_
          refine g_icmp_ne X 96 dL_law_50 (by decide) hw (fun hw => ?_) (fun hw => ?_)
          · refine g_iconst X (0 : Int32) dL_law_96 (by decide) ?_
            exact hw.elim
          · refine g_aload_n X dL_law_53 0 rfl ?_
            refine g_bipush X (9 : Int32) dL_law_54 (by decide) ?_
            obtain ⟨hA22, hw⟩ := hw
            refine g_calli (pc' := 59) (rest := []) rfl (fun H locs ls d qR qL => g_runV X cw_L_149 iv_X5_build ⟨Nat.le_of_ble_eq_true rfl, Nat.le_of_ble_eq_true rfl⟩ dL_law_56 (c_X5_build l E (0 + 1 + 447) M20 r2 (9 : Int32) _ hw) hk7 rfl rfl (Nat.le_of_ble_eq_true rfl) hA22 qR qL) (fun x24 M23 hw => ?_)
            refine g_widen (k := (0 + 1 + 447) - 0) (z := SL (0 + 1 + 447) - SL 0) (Nat.le_of_eq (Nat.add_zero _)) (Nat.le_of_eq (Nat.add_zero _)) ?_
            refine g_bipush X (-2 : Int32) dL_law_59 (by decide) ?_
            refine g_icmp_ne X 96 dL_law_61 (by decide) hw (fun hw => ?_) (fun hw => ?_)
            · refine g_iconst X (0 : Int32) dL_law_96 (by decide) ?_
              exact hw.elim
            · refine g_aload_n X dL_law_64 0 rfl ?_
              refine g_iconst X (4 : Int32) dL_law_65 (by decide) ?_
              refine g_iconst X (1 : Int32) dL_law_66 (by decide) ?_
              obtain ⟨hA25, hw⟩ := hw
              refine g_calli (pc' := 70) (rest := []) rfl (fun H locs ls d qR qL => g_runV X cw_L_102 iv_X5_calibrate ⟨Nat.le_of_ble_eq_true rfl, Nat.le_of_ble_eq_true rfl⟩ dL_law_67 (c_X5_calibrate l E (0 + 1 + 447) M23 r2 (4 : Int32) (1 : Int32) _ hw) hk7 rfl rfl (Nat.le_of_ble_eq_true rfl) hA25 qR qL) (fun x27 M26 hw => ?_)
              refine g_widen (k := (0 + 1 + 447) - 0) (z := SL (0 + 1 + 447) - SL 0) (Nat.le_of_eq (Nat.add_zero _)) (Nat.le_of_eq (Nat.add_zero _)) ?_
              refine g_iconst X (-1 : Int32) dL_law_70 (by decide) ?_
              refine g_icmp_ne X 96 dL_law_71 (by decide) hw (fun hw => ?_) (fun hw => ?_)
              · refine g_iconst X (0 : Int32) dL_law_96 (by decide) ?_
                exact hw.elim
              · refine g_aload_n X dL_law_74 0 rfl ?_
                refine g_iconst X (0 : Int32) dL_law_75 (by decide) ?_
                refine g_iconst X (0 : Int32) dL_law_76 (by decide) ?_
                obtain ⟨hA28, hw⟩ := hw
                refine g_calli (pc' := 80) (rest := []) rfl (fun H locs ls d qR qL => g_runV X cw_L_152 iv_X5_fits ⟨Nat.le_of_ble_eq_true rfl, Nat.le_of_ble_eq_true rfl⟩ dL_law_77 (c_X5_fits l E (0 + 1 + 447) M26 r2 (0 : Int32) (0 : Int32) _ hw) hk7 rfl rfl (Nat.le_of_ble_eq_true rfl) hA28 qR qL) (fun x30 M29 hw => ?_)
                refine g_widen (k := (0 + 1 + 447) - 0) (z := SL (0 + 1 + 447) - SL 0) (Nat.le_of_eq (Nat.add_zero _)) (Nat.le_of_eq (Nat.add_zero _)) ?_
                refine g_iconst X (-1 : Int32) dL_law_80 (by decide) ?_
                refine g_icmp_ne X 96 dL_law_81 (by decide) hw (fun hw => ?_) (fun hw => ?_)
                · refine g_iconst X (0 : Int32) dL_law_96 (by decide) ?_
                  exact hw.elim
                · refine g_aload_n X dL_law_84 0 rfl ?_
                  refine g_iconst X (0 : Int32) dL_law_85 (by decide) ?_
                  obtain ⟨hA31, hw⟩ := hw
                  refine g_calll (pc' := 89) (rest := []) rfl (fun H locs ls d qR qL => g_runV X cw_L_19 iv_X5_pressureBits ⟨Nat.le_of_ble_eq_true rfl, Nat.le_of_ble_eq_true rfl⟩ dL_law_86 (c_X5_pressureBits l E (0 + 1 + 447) M29 r2 (0 : Int32) _ hw) hk7 rfl rfl (Nat.le_of_ble_eq_true rfl) hA31 qR qL) (fun y33 M32 hw => ?_)
                  refine g_widen (k := (0 + 1 + 447) - 0) (z := SL (0 + 1 + 447) - SL 0) (Nat.le_of_eq (Nat.add_zero _)) (Nat.le_of_eq (Nat.add_zero _)) ?_
                  refine g_ldcL X (4647503709213818880 : Int64) dL_law_89 wk_L_61 ?_
                  refine g_lcmp X dL_law_92 ?_
                  refine g_if_eq X 98 dL_law_93 (by decide) hw (fun hw => ?_) (fun hw => ?_)
                  · refine g_iconst X (0 : Int32) dL_law_98 (by decide) ?_
                    refine g_istore_n (lv' := [(2, iV (0 : Int32)), (1, rV r2), (0, xV (xB E))]) X dL_law_99 (by decide) rfl ?_
                    refine g_lvsub (lv' := [(0, xV (xB E)), (1, rV r2), (2, iV (0 : Int32))]) [2, 1, 0] rfl ?_
                    exact L100 _ _ _ _ _ hw
                  · refine g_iconst X (0 : Int32) dL_law_96 (by decide) ?_
                    exact hw.elim
