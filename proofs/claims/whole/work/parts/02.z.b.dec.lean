/-! decode rows -/
theorem dX6_init_0 : decode cX6_init 0 = .ok (.aload_n 0, 1) := by decide +kernel
theorem dX6_init_1 : decode cX6_init 1 = .ok (.invokespecial 5, 3) := by decide +kernel
theorem dX6_init_4 : decode cX6_init 4 = .ok (.aload_n 0, 1) := by decide +kernel
theorem dX6_init_5 : decode cX6_init 5 = .ok (.new 11, 3) := by decide +kernel
theorem dX6_init_8 : decode cX6_init 8 = .ok (.dup, 1) := by decide +kernel
theorem dX6_init_9 : decode cX6_init 9 = .ok (.invokespecial 13, 3) := by decide +kernel
theorem dX6_init_12 : decode cX6_init 12 = .ok (.putfield 14, 3) := by decide +kernel
theorem dX6_init_15 : decode cX6_init 15 = .ok (.aload_n 0, 1) := by decide +kernel
theorem dX6_init_16 : decode cX6_init 16 = .ok (.bipush 23, 2) := by decide +kernel
theorem dX6_init_18 : decode cX6_init 18 = .ok (.newarray .long, 2) := by decide +kernel
theorem dX6_init_20 : decode cX6_init 20 = .ok (.putfield 18, 3) := by decide +kernel
theorem dX6_init_23 : decode cX6_init 23 = .ok (.aload_n 0, 1) := by decide +kernel
theorem dX6_init_24 : decode cX6_init 24 = .ok (.bipush 8, 2) := by decide +kernel
theorem dX6_init_26 : decode cX6_init 26 = .ok (.newarray .long, 2) := by decide +kernel
theorem dX6_init_28 : decode cX6_init 28 = .ok (.putfield 22, 3) := by decide +kernel
theorem dX6_init_31 : decode cX6_init 31 = .ok (.aload_n 0, 1) := by decide +kernel
theorem dX6_init_32 : decode cX6_init 32 = .ok (.bipush 60, 2) := by decide +kernel
theorem dX6_init_34 : decode cX6_init 34 = .ok (.newarray .long, 2) := by decide +kernel
theorem dX6_init_36 : decode cX6_init 36 = .ok (.putfield 27, 3) := by decide +kernel
theorem dX6_init_39 : decode cX6_init 39 = .ok (.aload_n 0, 1) := by decide +kernel
theorem dX6_init_40 : decode cX6_init 40 = .ok (.new 25, 3) := by decide +kernel
theorem dX6_init_43 : decode cX6_init 43 = .ok (.dup, 1) := by decide +kernel
theorem dX6_init_44 : decode cX6_init 44 = .ok (.invokespecial 30, 3) := by decide +kernel
theorem dX6_init_47 : decode cX6_init 47 = .ok (.putfield 31, 3) := by decide +kernel
theorem dX6_init_50 : decode cX6_init 50 = .ok (.aload_n 0, 1) := by decide +kernel
theorem dX6_init_51 : decode cX6_init 51 = .ok (.aload_n 0, 1) := by decide +kernel
theorem dX6_init_52 : decode cX6_init 52 = .ok (.getfield 31, 3) := by decide +kernel
theorem dX6_init_55 : decode cX6_init 55 = .ok (.getfield 35, 3) := by decide +kernel
theorem dX6_init_58 : decode cX6_init 58 = .ok (.putfield 39, 3) := by decide +kernel
theorem dX6_init_61 : decode cX6_init 61 = .ok (.return_, 1) := by decide +kernel
theorem dX6_swapText_0 : decode cX6_swapText 0 = .ok (.aload_n 0, 1) := by decide +kernel
theorem dX6_swapText_1 : decode cX6_swapText 1 = .ok (.getfield 31, 3) := by decide +kernel
theorem dX6_swapText_4 : decode cX6_swapText 4 = .ok (.astore_n 2, 1) := by decide +kernel
theorem dX6_swapText_5 : decode cX6_swapText 5 = .ok (.aload_n 0, 1) := by decide +kernel
theorem dX6_swapText_6 : decode cX6_swapText 6 = .ok (.aload_n 1, 1) := by decide +kernel
theorem dX6_swapText_7 : decode cX6_swapText 7 = .ok (.putfield 31, 3) := by decide +kernel
theorem dX6_swapText_10 : decode cX6_swapText 10 = .ok (.aload_n 2, 1) := by decide +kernel
theorem dX6_swapText_11 : decode cX6_swapText 11 = .ok (.areturn, 1) := by decide +kernel
theorem dX6_start_0 : decode cX6_start 0 = .ok (.aload_n 0, 1) := by decide +kernel
theorem dX6_start_1 : decode cX6_start 1 = .ok (.getfield 31, 3) := by decide +kernel
theorem dX6_start_4 : decode cX6_start 4 = .ok (.invokevirtual 42, 3) := by decide +kernel
theorem dX6_start_7 : decode cX6_start 7 = .ok (.aload_n 0, 1) := by decide +kernel
theorem dX6_start_8 : decode cX6_start 8 = .ok (.getfield 14, 3) := by decide +kernel
theorem dX6_start_11 : decode cX6_start 11 = .ok (.invokevirtual 45, 3) := by decide +kernel
theorem dX6_start_14 : decode cX6_start 14 = .ok (.aload_n 0, 1) := by decide +kernel
theorem dX6_start_15 : decode cX6_start 15 = .ok (.iconst 0, 1) := by decide +kernel
theorem dX6_start_16 : decode cX6_start 16 = .ok (.putfield 48, 3) := by decide +kernel
theorem dX6_start_19 : decode cX6_start 19 = .ok (.aload_n 0, 1) := by decide +kernel
theorem dX6_start_20 : decode cX6_start 20 = .ok (.iconst 0, 1) := by decide +kernel
theorem dX6_start_21 : decode cX6_start 21 = .ok (.putfield 52, 3) := by decide +kernel
theorem dX6_start_24 : decode cX6_start 24 = .ok (.aload_n 0, 1) := by decide +kernel
theorem dX6_start_25 : decode cX6_start 25 = .ok (.iconst 0, 1) := by decide +kernel
theorem dX6_start_26 : decode cX6_start 26 = .ok (.putfield 55, 3) := by decide +kernel
theorem dX6_start_29 : decode cX6_start 29 = .ok (.aload_n 0, 1) := by decide +kernel
theorem dX6_start_30 : decode cX6_start 30 = .ok (.iconst 0, 1) := by decide +kernel
theorem dX6_start_31 : decode cX6_start 31 = .ok (.putfield 58, 3) := by decide +kernel
theorem dX6_start_34 : decode cX6_start 34 = .ok (.aload_n 0, 1) := by decide +kernel
theorem dX6_start_35 : decode cX6_start 35 = .ok (.aload_n 0, 1) := by decide +kernel
theorem dX6_start_36 : decode cX6_start 36 = .ok (.getfield 14, 3) := by decide +kernel
theorem dX6_start_39 : decode cX6_start 39 = .ok (.getfield 61, 3) := by decide +kernel
theorem dX6_start_42 : decode cX6_start 42 = .ok (.iconst 0, 1) := by decide +kernel
theorem dX6_start_43 : decode cX6_start 43 = .ok (.iaload, 1) := by decide +kernel
theorem dX6_start_44 : decode cX6_start 44 = .ok (.putfield 65, 3) := by decide +kernel
theorem dX6_start_47 : decode cX6_start 47 = .ok (.return_, 1) := by decide +kernel
theorem dX6_readTells_0 : decode cX6_readTells 0 = .ok (.iconst 1, 1) := by decide +kernel
theorem dX6_readTells_1 : decode cX6_readTells 1 = .ok (.istore_n 1, 1) := by decide +kernel
theorem dX6_readTells_2 : decode cX6_readTells 2 = .ok (.iconst 0, 1) := by decide +kernel
theorem dX6_readTells_3 : decode cX6_readTells 3 = .ok (.istore_n 2, 1) := by decide +kernel
theorem dX6_readTells_4 : decode cX6_readTells 4 = .ok (.iload_n 2, 1) := by decide +kernel
theorem dX6_readTells_5 : decode cX6_readTells 5 = .ok (.sipush 400, 3) := by decide +kernel
theorem dX6_readTells_8 : decode cX6_readTells 8 = .ok (.if_icmp .gt 173, 3) := by decide +kernel
theorem dX6_readTells_11 : decode cX6_readTells 11 = .ok (.iload_n 1, 1) := by decide +kernel
theorem dX6_readTells_12 : decode cX6_readTells 12 = .ok (.ifCond .eq 169, 3) := by decide +kernel
theorem dX6_readTells_15 : decode cX6_readTells 15 = .ok (.aload_n 0, 1) := by decide +kernel
theorem dX6_readTells_16 : decode cX6_readTells 16 = .ok (.getfield 65, 3) := by decide +kernel
theorem dX6_readTells_19 : decode cX6_readTells 19 = .ok (.ifCond .eq 162, 3) := by decide +kernel
theorem dX6_readTells_22 : decode cX6_readTells 22 = .ok (.aload_n 0, 1) := by decide +kernel
theorem dX6_readTells_23 : decode cX6_readTells 23 = .ok (.getfield 65, 3) := by decide +kernel
theorem dX6_readTells_26 : decode cX6_readTells 26 = .ok (.tableswitch 143 256 264 #[50, 58, 66, 74, 82, 97, 112, 127, 135], 50) := by decide +kernel
theorem dX6_readTells_76 : decode cX6_readTells 76 = .ok (.aload_n 0, 1) := by decide +kernel
theorem dX6_readTells_77 : decode cX6_readTells 77 = .ok (.invokevirtual 68, 3) := by decide +kernel
theorem dX6_readTells_80 : decode cX6_readTells 80 = .ok (.istore_n 1, 1) := by decide +kernel
theorem dX6_readTells_81 : decode cX6_readTells 81 = .ok (.goto 94, 3) := by decide +kernel
theorem dX6_readTells_84 : decode cX6_readTells 84 = .ok (.aload_n 0, 1) := by decide +kernel
theorem dX6_readTells_85 : decode cX6_readTells 85 = .ok (.invokevirtual 72, 3) := by decide +kernel
theorem dX6_readTells_88 : decode cX6_readTells 88 = .ok (.istore_n 1, 1) := by decide +kernel
theorem dX6_readTells_89 : decode cX6_readTells 89 = .ok (.goto 86, 3) := by decide +kernel
theorem dX6_readTells_92 : decode cX6_readTells 92 = .ok (.aload_n 0, 1) := by decide +kernel
theorem dX6_readTells_93 : decode cX6_readTells 93 = .ok (.invokevirtual 75, 3) := by decide +kernel
theorem dX6_readTells_96 : decode cX6_readTells 96 = .ok (.istore_n 1, 1) := by decide +kernel
theorem dX6_readTells_97 : decode cX6_readTells 97 = .ok (.goto 78, 3) := by decide +kernel
theorem dX6_readTells_100 : decode cX6_readTells 100 = .ok (.aload_n 0, 1) := by decide +kernel
theorem dX6_readTells_101 : decode cX6_readTells 101 = .ok (.invokevirtual 78, 3) := by decide +kernel
theorem dX6_readTells_104 : decode cX6_readTells 104 = .ok (.istore_n 1, 1) := by decide +kernel
theorem dX6_readTells_105 : decode cX6_readTells 105 = .ok (.goto 70, 3) := by decide +kernel
theorem dX6_readTells_108 : decode cX6_readTells 108 = .ok (.aload_n 0, 1) := by decide +kernel
theorem dX6_readTells_109 : decode cX6_readTells 109 = .ok (.aload_n 0, 1) := by decide +kernel
theorem dX6_readTells_110 : decode cX6_readTells 110 = .ok (.getfield 31, 3) := by decide +kernel
theorem dX6_readTells_113 : decode cX6_readTells 113 = .ok (.getfield 35, 3) := by decide +kernel
theorem dX6_readTells_116 : decode cX6_readTells 116 = .ok (.invokevirtual 81, 3) := by decide +kernel
theorem dX6_readTells_119 : decode cX6_readTells 119 = .ok (.istore_n 1, 1) := by decide +kernel
theorem dX6_readTells_120 : decode cX6_readTells 120 = .ok (.goto 55, 3) := by decide +kernel
theorem dX6_readTells_123 : decode cX6_readTells 123 = .ok (.aload_n 0, 1) := by decide +kernel
theorem dX6_readTells_124 : decode cX6_readTells 124 = .ok (.aload_n 0, 1) := by decide +kernel
theorem dX6_readTells_125 : decode cX6_readTells 125 = .ok (.getfield 31, 3) := by decide +kernel
theorem dX6_readTells_128 : decode cX6_readTells 128 = .ok (.getfield 85, 3) := by decide +kernel
theorem dX6_readTells_131 : decode cX6_readTells 131 = .ok (.invokevirtual 81, 3) := by decide +kernel
theorem dX6_readTells_134 : decode cX6_readTells 134 = .ok (.istore_n 1, 1) := by decide +kernel
theorem dX6_readTells_135 : decode cX6_readTells 135 = .ok (.goto 40, 3) := by decide +kernel
theorem dX6_readTells_138 : decode cX6_readTells 138 = .ok (.aload_n 0, 1) := by decide +kernel
theorem dX6_readTells_139 : decode cX6_readTells 139 = .ok (.aload_n 0, 1) := by decide +kernel
theorem dX6_readTells_140 : decode cX6_readTells 140 = .ok (.getfield 31, 3) := by decide +kernel
theorem dX6_readTells_143 : decode cX6_readTells 143 = .ok (.getfield 88, 3) := by decide +kernel
theorem dX6_readTells_146 : decode cX6_readTells 146 = .ok (.invokevirtual 81, 3) := by decide +kernel
theorem dX6_readTells_149 : decode cX6_readTells 149 = .ok (.istore_n 1, 1) := by decide +kernel
theorem dX6_readTells_150 : decode cX6_readTells 150 = .ok (.goto 25, 3) := by decide +kernel
theorem dX6_readTells_153 : decode cX6_readTells 153 = .ok (.aload_n 0, 1) := by decide +kernel
theorem dX6_readTells_154 : decode cX6_readTells 154 = .ok (.invokevirtual 91, 3) := by decide +kernel
theorem dX6_readTells_157 : decode cX6_readTells 157 = .ok (.istore_n 1, 1) := by decide +kernel
theorem dX6_readTells_158 : decode cX6_readTells 158 = .ok (.goto 17, 3) := by decide +kernel
theorem dX6_readTells_161 : decode cX6_readTells 161 = .ok (.aload_n 0, 1) := by decide +kernel
theorem dX6_readTells_162 : decode cX6_readTells 162 = .ok (.invokevirtual 94, 3) := by decide +kernel
theorem dX6_readTells_165 : decode cX6_readTells 165 = .ok (.istore_n 1, 1) := by decide +kernel
theorem dX6_readTells_166 : decode cX6_readTells 166 = .ok (.goto 9, 3) := by decide +kernel
theorem dX6_readTells_169 : decode cX6_readTells 169 = .ok (.aload_n 0, 1) := by decide +kernel
theorem dX6_readTells_170 : decode cX6_readTells 170 = .ok (.iconst 1, 1) := by decide +kernel
theorem dX6_readTells_171 : decode cX6_readTells 171 = .ok (.invokevirtual 97, 3) := by decide +kernel
theorem dX6_readTells_174 : decode cX6_readTells 174 = .ok (.istore_n 1, 1) := by decide +kernel
theorem dX6_readTells_175 : decode cX6_readTells 175 = .ok (.iinc 2 1, 3) := by decide +kernel
theorem dX6_readTells_178 : decode cX6_readTells 178 = .ok (.goto (-174), 3) := by decide +kernel
theorem dX6_readTells_181 : decode cX6_readTells 181 = .ok (.iload_n 1, 1) := by decide +kernel
theorem dX6_readTells_182 : decode cX6_readTells 182 = .ok (.ifCond .eq 11, 3) := by decide +kernel
theorem dX6_readTells_185 : decode cX6_readTells 185 = .ok (.aload_n 0, 1) := by decide +kernel
theorem dX6_readTells_186 : decode cX6_readTells 186 = .ok (.aload_n 0, 1) := by decide +kernel
theorem dX6_readTells_187 : decode cX6_readTells 187 = .ok (.getfield 52, 3) := by decide +kernel
theorem dX6_readTells_190 : decode cX6_readTells 190 = .ok (.putfield 48, 3) := by decide +kernel
theorem dX6_readTells_193 : decode cX6_readTells 193 = .ok (.aload_n 0, 1) := by decide +kernel
theorem dX6_readTells_194 : decode cX6_readTells 194 = .ok (.iload_n 1, 1) := by decide +kernel
theorem dX6_readTells_195 : decode cX6_readTells 195 = .ok (.ifCond .eq 10, 3) := by decide +kernel
theorem dX6_readTells_198 : decode cX6_readTells 198 = .ok (.aload_n 0, 1) := by decide +kernel
theorem dX6_readTells_199 : decode cX6_readTells 199 = .ok (.getfield 101, 3) := by decide +kernel
theorem dX6_readTells_202 : decode cX6_readTells 202 = .ok (.goto 15, 3) := by decide +kernel
theorem dX6_readTells_205 : decode cX6_readTells 205 = .ok (.aload_n 0, 1) := by decide +kernel
theorem dX6_readTells_206 : decode cX6_readTells 206 = .ok (.getfield 14, 3) := by decide +kernel
theorem dX6_readTells_209 : decode cX6_readTells 209 = .ok (.getfield 104, 3) := by decide +kernel
theorem dX6_readTells_212 : decode cX6_readTells 212 = .ok (.aload_n 0, 1) := by decide +kernel
theorem dX6_readTells_213 : decode cX6_readTells 213 = .ok (.getfield 58, 3) := by decide +kernel
theorem dX6_readTells_216 : decode cX6_readTells 216 = .ok (.iaload, 1) := by decide +kernel
theorem dX6_readTells_217 : decode cX6_readTells 217 = .ok (.putfield 107, 3) := by decide +kernel
theorem dX6_readTells_220 : decode cX6_readTells 220 = .ok (.aload_n 0, 1) := by decide +kernel
theorem dX6_readTells_221 : decode cX6_readTells 221 = .ok (.getfield 48, 3) := by decide +kernel
theorem dX6_readTells_224 : decode cX6_readTells 224 = .ok (.ireturn, 1) := by decide +kernel
theorem dX6_refuse_0 : decode cX6_refuse 0 = .ok (.aload_n 0, 1) := by decide +kernel
theorem dX6_refuse_1 : decode cX6_refuse 1 = .ok (.iload_n 1, 1) := by decide +kernel
theorem dX6_refuse_2 : decode cX6_refuse 2 = .ok (.putfield 48, 3) := by decide +kernel
theorem dX6_refuse_5 : decode cX6_refuse 5 = .ok (.iconst 0, 1) := by decide +kernel
theorem dX6_refuse_6 : decode cX6_refuse 6 = .ok (.ireturn, 1) := by decide +kernel
theorem dX6_note_0 : decode cX6_note 0 = .ok (.aload_n 0, 1) := by decide +kernel
theorem dX6_note_1 : decode cX6_note 1 = .ok (.getfield 52, 3) := by decide +kernel
theorem dX6_note_4 : decode cX6_note 4 = .ok (.ifCond .ne 24, 3) := by decide +kernel
theorem dX6_note_7 : decode cX6_note 7 = .ok (.aload_n 0, 1) := by decide +kernel
theorem dX6_note_8 : decode cX6_note 8 = .ok (.iload_n 1, 1) := by decide +kernel
theorem dX6_note_9 : decode cX6_note 9 = .ok (.putfield 52, 3) := by decide +kernel
theorem dX6_note_12 : decode cX6_note 12 = .ok (.aload_n 0, 1) := by decide +kernel
theorem dX6_note_13 : decode cX6_note 13 = .ok (.aload_n 0, 1) := by decide +kernel
theorem dX6_note_14 : decode cX6_note 14 = .ok (.getfield 14, 3) := by decide +kernel
theorem dX6_note_17 : decode cX6_note 17 = .ok (.getfield 104, 3) := by decide +kernel
theorem dX6_note_20 : decode cX6_note 20 = .ok (.aload_n 0, 1) := by decide +kernel
theorem dX6_note_21 : decode cX6_note 21 = .ok (.getfield 58, 3) := by decide +kernel
theorem dX6_note_24 : decode cX6_note 24 = .ok (.iaload, 1) := by decide +kernel
theorem dX6_note_25 : decode cX6_note 25 = .ok (.putfield 101, 3) := by decide +kernel
theorem dX6_note_28 : decode cX6_note 28 = .ok (.return_, 1) := by decide +kernel
theorem dX6_pass_0 : decode cX6_pass 0 = .ok (.aload_n 0, 1) := by decide +kernel
theorem dX6_pass_1 : decode cX6_pass 1 = .ok (.getfield 65, 3) := by decide +kernel
theorem dX6_pass_4 : decode cX6_pass 4 = .ok (.iload_n 1, 1) := by decide +kernel
theorem dX6_pass_5 : decode cX6_pass 5 = .ok (.if_icmp .ne 13, 3) := by decide +kernel
theorem dX6_pass_8 : decode cX6_pass 8 = .ok (.aload_n 0, 1) := by decide +kernel
theorem dX6_pass_9 : decode cX6_pass 9 = .ok (.getfield 58, 3) := by decide +kernel
theorem dX6_pass_12 : decode cX6_pass 12 = .ok (.sipush 400, 3) := by decide +kernel
theorem dX6_pass_15 : decode cX6_pass 15 = .ok (.if_icmp .lt 22, 3) := by decide +kernel
theorem dX6_pass_18 : decode cX6_pass 18 = .ok (.aload_n 0, 1) := by decide +kernel
theorem dX6_pass_19 : decode cX6_pass 19 = .ok (.aload_n 0, 1) := by decide +kernel
theorem dX6_pass_20 : decode cX6_pass 20 = .ok (.getfield 65, 3) := by decide +kernel
theorem dX6_pass_23 : decode cX6_pass 23 = .ok (.iload_n 1, 1) := by decide +kernel
theorem dX6_pass_24 : decode cX6_pass 24 = .ok (.if_icmp .eq 7, 3) := by decide +kernel
theorem dX6_pass_27 : decode cX6_pass 27 = .ok (.iconst 1, 1) := by decide +kernel
theorem dX6_pass_28 : decode cX6_pass 28 = .ok (.goto 4, 3) := by decide +kernel
theorem dX6_pass_31 : decode cX6_pass 31 = .ok (.iconst 2, 1) := by decide +kernel
theorem dX6_pass_32 : decode cX6_pass 32 = .ok (.putfield 48, 3) := by decide +kernel
theorem dX6_pass_35 : decode cX6_pass 35 = .ok (.iconst 0, 1) := by decide +kernel
theorem dX6_pass_36 : decode cX6_pass 36 = .ok (.ireturn, 1) := by decide +kernel
theorem dX6_pass_37 : decode cX6_pass 37 = .ok (.aload_n 0, 1) := by decide +kernel
theorem dX6_pass_38 : decode cX6_pass 38 = .ok (.dup, 1) := by decide +kernel
theorem dX6_pass_39 : decode cX6_pass 39 = .ok (.getfield 58, 3) := by decide +kernel
theorem dX6_pass_42 : decode cX6_pass 42 = .ok (.iconst 1, 1) := by decide +kernel
theorem dX6_pass_43 : decode cX6_pass 43 = .ok (.iadd, 1) := by decide +kernel
theorem dX6_pass_44 : decode cX6_pass 44 = .ok (.putfield 58, 3) := by decide +kernel
theorem dX6_pass_47 : decode cX6_pass 47 = .ok (.aload_n 0, 1) := by decide +kernel
theorem dX6_pass_48 : decode cX6_pass 48 = .ok (.aload_n 0, 1) := by decide +kernel
theorem dX6_pass_49 : decode cX6_pass 49 = .ok (.getfield 14, 3) := by decide +kernel
theorem dX6_pass_52 : decode cX6_pass 52 = .ok (.getfield 61, 3) := by decide +kernel
theorem dX6_pass_55 : decode cX6_pass 55 = .ok (.aload_n 0, 1) := by decide +kernel
theorem dX6_pass_56 : decode cX6_pass 56 = .ok (.getfield 58, 3) := by decide +kernel
theorem dX6_pass_59 : decode cX6_pass 59 = .ok (.iaload, 1) := by decide +kernel
theorem dX6_pass_60 : decode cX6_pass 60 = .ok (.putfield 65, 3) := by decide +kernel
theorem dX6_pass_63 : decode cX6_pass 63 = .ok (.iconst 1, 1) := by decide +kernel
theorem dX6_pass_64 : decode cX6_pass 64 = .ok (.ireturn, 1) := by decide +kernel
theorem dX6_valueHere_0 : decode cX6_valueHere 0 = .ok (.aload_n 0, 1) := by decide +kernel
theorem dX6_valueHere_1 : decode cX6_valueHere 1 = .ok (.getfield 14, 3) := by decide +kernel
theorem dX6_valueHere_4 : decode cX6_valueHere 4 = .ok (.getfield 110, 3) := by decide +kernel
theorem dX6_valueHere_7 : decode cX6_valueHere 7 = .ok (.aload_n 0, 1) := by decide +kernel
theorem dX6_valueHere_8 : decode cX6_valueHere 8 = .ok (.getfield 58, 3) := by decide +kernel
theorem dX6_valueHere_11 : decode cX6_valueHere 11 = .ok (.laload, 1) := by decide +kernel
theorem dX6_valueHere_12 : decode cX6_valueHere 12 = .ok (.lreturn, 1) := by decide +kernel
theorem dX6_readTrait_0 : decode cX6_readTrait 0 = .ok (.aload_n 0, 1) := by decide +kernel
theorem dX6_readTrait_1 : decode cX6_readTrait 1 = .ok (.getfield 31, 3) := by decide +kernel
theorem dX6_readTrait_4 : decode cX6_readTrait 4 = .ok (.getfield 113, 3) := by decide +kernel
theorem dX6_readTrait_7 : decode cX6_readTrait 7 = .ok (.bipush 8, 2) := by decide +kernel
theorem dX6_readTrait_9 : decode cX6_readTrait 9 = .ok (.if_icmp .lt 9, 3) := by decide +kernel
theorem dX6_readTrait_12 : decode cX6_readTrait 12 = .ok (.aload_n 0, 1) := by decide +kernel
theorem dX6_readTrait_13 : decode cX6_readTrait 13 = .ok (.iconst 2, 1) := by decide +kernel
theorem dX6_readTrait_14 : decode cX6_readTrait 14 = .ok (.invokevirtual 97, 3) := by decide +kernel
theorem dX6_readTrait_17 : decode cX6_readTrait 17 = .ok (.ireturn, 1) := by decide +kernel
theorem dX6_readTrait_18 : decode cX6_readTrait 18 = .ok (.aload_n 0, 1) := by decide +kernel
theorem dX6_readTrait_19 : decode cX6_readTrait 19 = .ok (.sipush 256, 3) := by decide +kernel
theorem dX6_readTrait_22 : decode cX6_readTrait 22 = .ok (.invokevirtual 116, 3) := by decide +kernel
theorem dX6_readTrait_25 : decode cX6_readTrait 25 = .ok (.ifCond .ne 5, 3) := by decide +kernel
theorem dX6_readTrait_28 : decode cX6_readTrait 28 = .ok (.iconst 0, 1) := by decide +kernel
theorem dX6_readTrait_29 : decode cX6_readTrait 29 = .ok (.ireturn, 1) := by decide +kernel
theorem dX6_readTrait_30 : decode cX6_readTrait 30 = .ok (.aload_n 0, 1) := by decide +kernel
theorem dX6_readTrait_31 : decode cX6_readTrait 31 = .ok (.invokevirtual 119, 3) := by decide +kernel
theorem dX6_readTrait_34 : decode cX6_readTrait 34 = .ok (.lstore_n 1, 1) := by decide +kernel
theorem dX6_readTrait_35 : decode cX6_readTrait 35 = .ok (.aload_n 0, 1) := by decide +kernel
theorem dX6_readTrait_36 : decode cX6_readTrait 36 = .ok (.invokevirtual 123, 3) := by decide +kernel
theorem dX6_readTrait_39 : decode cX6_readTrait 39 = .ok (.ifCond .ne 5, 3) := by decide +kernel
theorem dX6_readTrait_42 : decode cX6_readTrait 42 = .ok (.iconst 0, 1) := by decide +kernel
theorem dX6_readTrait_43 : decode cX6_readTrait 43 = .ok (.ireturn, 1) := by decide +kernel
theorem dX6_readTrait_44 : decode cX6_readTrait 44 = .ok (.aload_n 0, 1) := by decide +kernel
theorem dX6_readTrait_45 : decode cX6_readTrait 45 = .ok (.getfield 22, 3) := by decide +kernel
theorem dX6_readTrait_48 : decode cX6_readTrait 48 = .ok (.aload_n 0, 1) := by decide +kernel
theorem dX6_readTrait_49 : decode cX6_readTrait 49 = .ok (.getfield 31, 3) := by decide +kernel
theorem dX6_readTrait_52 : decode cX6_readTrait 52 = .ok (.getfield 113, 3) := by decide +kernel
theorem dX6_readTrait_55 : decode cX6_readTrait 55 = .ok (.lload_n 1, 1) := by decide +kernel
theorem dX6_readTrait_56 : decode cX6_readTrait 56 = .ok (.lastore, 1) := by decide +kernel
theorem dX6_readTrait_57 : decode cX6_readTrait 57 = .ok (.aload_n 0, 1) := by decide +kernel
theorem dX6_readTrait_58 : decode cX6_readTrait 58 = .ok (.getfield 31, 3) := by decide +kernel
theorem dX6_readTrait_61 : decode cX6_readTrait 61 = .ok (.dup, 1) := by decide +kernel
theorem dX6_readTrait_62 : decode cX6_readTrait 62 = .ok (.getfield 113, 3) := by decide +kernel
theorem dX6_readTrait_65 : decode cX6_readTrait 65 = .ok (.iconst 1, 1) := by decide +kernel
theorem dX6_readTrait_66 : decode cX6_readTrait 66 = .ok (.iadd, 1) := by decide +kernel
theorem dX6_readTrait_67 : decode cX6_readTrait 67 = .ok (.putfield 113, 3) := by decide +kernel
theorem dX6_readTrait_70 : decode cX6_readTrait 70 = .ok (.aload_n 0, 1) := by decide +kernel
theorem dX6_readTrait_71 : decode cX6_readTrait 71 = .ok (.bipush 59, 2) := by decide +kernel
theorem dX6_readTrait_73 : decode cX6_readTrait 73 = .ok (.invokevirtual 116, 3) := by decide +kernel
theorem dX6_readTrait_76 : decode cX6_readTrait 76 = .ok (.ireturn, 1) := by decide +kernel
theorem dX6_readBeing_0 : decode cX6_readBeing 0 = .ok (.aload_n 0, 1) := by decide +kernel
theorem dX6_readBeing_1 : decode cX6_readBeing 1 = .ok (.getfield 31, 3) := by decide +kernel
theorem dX6_readBeing_4 : decode cX6_readBeing 4 = .ok (.getfield 126, 3) := by decide +kernel
theorem dX6_readBeing_7 : decode cX6_readBeing 7 = .ok (.bipush 7, 2) := by decide +kernel
theorem dX6_readBeing_9 : decode cX6_readBeing 9 = .ok (.if_icmp .lt 9, 3) := by decide +kernel
theorem dX6_readBeing_12 : decode cX6_readBeing 12 = .ok (.aload_n 0, 1) := by decide +kernel
theorem dX6_readBeing_13 : decode cX6_readBeing 13 = .ok (.iconst 2, 1) := by decide +kernel
theorem dX6_readBeing_14 : decode cX6_readBeing 14 = .ok (.invokevirtual 97, 3) := by decide +kernel
theorem dX6_readBeing_17 : decode cX6_readBeing 17 = .ok (.ireturn, 1) := by decide +kernel
theorem dX6_readBeing_18 : decode cX6_readBeing 18 = .ok (.aload_n 0, 1) := by decide +kernel
theorem dX6_readBeing_19 : decode cX6_readBeing 19 = .ok (.sipush 257, 3) := by decide +kernel
theorem dX6_readBeing_22 : decode cX6_readBeing 22 = .ok (.invokevirtual 116, 3) := by decide +kernel
theorem dX6_readBeing_25 : decode cX6_readBeing 25 = .ok (.ifCond .eq 20, 3) := by decide +kernel
theorem dX6_readBeing_28 : decode cX6_readBeing 28 = .ok (.aload_n 0, 1) := by decide +kernel
theorem dX6_readBeing_29 : decode cX6_readBeing 29 = .ok (.invokevirtual 123, 3) := by decide +kernel
theorem dX6_readBeing_32 : decode cX6_readBeing 32 = .ok (.ifCond .eq 13, 3) := by decide +kernel
theorem dX6_readBeing_35 : decode cX6_readBeing 35 = .ok (.aload_n 0, 1) := by decide +kernel
theorem dX6_readBeing_36 : decode cX6_readBeing 36 = .ok (.iconst 0, 1) := by decide +kernel
theorem dX6_readBeing_37 : decode cX6_readBeing 37 = .ok (.bipush 99, 2) := by decide +kernel
theorem dX6_readBeing_39 : decode cX6_readBeing 39 = .ok (.invokevirtual 129, 3) := by decide +kernel
theorem dX6_readBeing_42 : decode cX6_readBeing 42 = .ok (.ifCond .ne 5, 3) := by decide +kernel
theorem dX6_readBeing_45 : decode cX6_readBeing 45 = .ok (.iconst 0, 1) := by decide +kernel
theorem dX6_readBeing_46 : decode cX6_readBeing 46 = .ok (.ireturn, 1) := by decide +kernel
theorem dX6_readBeing_47 : decode cX6_readBeing 47 = .ok (.aload_n 0, 1) := by decide +kernel
theorem dX6_readBeing_48 : decode cX6_readBeing 48 = .ok (.getfield 31, 3) := by decide +kernel
theorem dX6_readBeing_51 : decode cX6_readBeing 51 = .ok (.getfield 133, 3) := by decide +kernel
theorem dX6_readBeing_54 : decode cX6_readBeing 54 = .ok (.aload_n 0, 1) := by decide +kernel
theorem dX6_readBeing_55 : decode cX6_readBeing 55 = .ok (.getfield 31, 3) := by decide +kernel
theorem dX6_readBeing_58 : decode cX6_readBeing 58 = .ok (.getfield 126, 3) := by decide +kernel
theorem dX6_readBeing_61 : decode cX6_readBeing 61 = .ok (.aload_n 0, 1) := by decide +kernel
theorem dX6_readBeing_62 : decode cX6_readBeing 62 = .ok (.getfield 136, 3) := by decide +kernel
theorem dX6_readBeing_65 : decode cX6_readBeing 65 = .ok (.iastore, 1) := by decide +kernel
theorem dX6_readBeing_66 : decode cX6_readBeing 66 = .ok (.iconst 0, 1) := by decide +kernel
theorem dX6_readBeing_67 : decode cX6_readBeing 67 = .ok (.istore_n 1, 1) := by decide +kernel
theorem dX6_readBeing_68 : decode cX6_readBeing 68 = .ok (.iconst 0, 1) := by decide +kernel
theorem dX6_readBeing_69 : decode cX6_readBeing 69 = .ok (.istore_n 2, 1) := by decide +kernel
theorem dX6_readBeing_70 : decode cX6_readBeing 70 = .ok (.iload_n 2, 1) := by decide +kernel
theorem dX6_readBeing_71 : decode cX6_readBeing 71 = .ok (.sipush 400, 3) := by decide +kernel
theorem dX6_readBeing_74 : decode cX6_readBeing 74 = .ok (.if_icmp .ge 35, 3) := by decide +kernel
theorem dX6_readBeing_77 : decode cX6_readBeing 77 = .ok (.aload_n 0, 1) := by decide +kernel
theorem dX6_readBeing_78 : decode cX6_readBeing 78 = .ok (.getfield 65, 3) := by decide +kernel
theorem dX6_readBeing_81 : decode cX6_readBeing 81 = .ok (.iconst 1, 1) := by decide +kernel
theorem dX6_readBeing_82 : decode cX6_readBeing 82 = .ok (.if_icmp .ne 27, 3) := by decide +kernel
theorem dX6_readBeing_85 : decode cX6_readBeing 85 = .ok (.aload_n 0, 1) := by decide +kernel
theorem dX6_readBeing_86 : decode cX6_readBeing 86 = .ok (.invokevirtual 139, 3) := by decide +kernel
theorem dX6_readBeing_89 : decode cX6_readBeing 89 = .ok (.ifCond .ne 5, 3) := by decide +kernel
theorem dX6_readBeing_92 : decode cX6_readBeing 92 = .ok (.iconst 0, 1) := by decide +kernel
theorem dX6_readBeing_93 : decode cX6_readBeing 93 = .ok (.ireturn, 1) := by decide +kernel
theorem dX6_readBeing_94 : decode cX6_readBeing 94 = .ok (.iload_n 1, 1) := by decide +kernel
theorem dX6_readBeing_95 : decode cX6_readBeing 95 = .ok (.iconst 1, 1) := by decide +kernel
theorem dX6_readBeing_96 : decode cX6_readBeing 96 = .ok (.aload_n 0, 1) := by decide +kernel
theorem dX6_readBeing_97 : decode cX6_readBeing 97 = .ok (.getfield 142, 3) := by decide +kernel
theorem dX6_readBeing_100 : decode cX6_readBeing 100 = .ok (.ishl, 1) := by decide +kernel
theorem dX6_readBeing_101 : decode cX6_readBeing 101 = .ok (.ior, 1) := by decide +kernel
theorem dX6_readBeing_102 : decode cX6_readBeing 102 = .ok (.istore_n 1, 1) := by decide +kernel
theorem dX6_readBeing_103 : decode cX6_readBeing 103 = .ok (.iinc 2 1, 3) := by decide +kernel
theorem dX6_readBeing_106 : decode cX6_readBeing 106 = .ok (.goto (-36), 3) := by decide +kernel
theorem dX6_readBeing_109 : decode cX6_readBeing 109 = .ok (.aload_n 0, 1) := by decide +kernel
theorem dX6_readBeing_110 : decode cX6_readBeing 110 = .ok (.getfield 31, 3) := by decide +kernel
theorem dX6_readBeing_113 : decode cX6_readBeing 113 = .ok (.getfield 145, 3) := by decide +kernel
theorem dX6_readBeing_116 : decode cX6_readBeing 116 = .ok (.aload_n 0, 1) := by decide +kernel
theorem dX6_readBeing_117 : decode cX6_readBeing 117 = .ok (.getfield 31, 3) := by decide +kernel
theorem dX6_readBeing_120 : decode cX6_readBeing 120 = .ok (.getfield 126, 3) := by decide +kernel
theorem dX6_readBeing_123 : decode cX6_readBeing 123 = .ok (.iload_n 1, 1) := by decide +kernel
theorem dX6_readBeing_124 : decode cX6_readBeing 124 = .ok (.iastore, 1) := by decide +kernel
theorem dX6_readBeing_125 : decode cX6_readBeing 125 = .ok (.aload_n 0, 1) := by decide +kernel
theorem dX6_readBeing_126 : decode cX6_readBeing 126 = .ok (.getfield 31, 3) := by decide +kernel
theorem dX6_readBeing_129 : decode cX6_readBeing 129 = .ok (.dup, 1) := by decide +kernel
theorem dX6_readBeing_130 : decode cX6_readBeing 130 = .ok (.getfield 126, 3) := by decide +kernel
theorem dX6_readBeing_133 : decode cX6_readBeing 133 = .ok (.iconst 1, 1) := by decide +kernel
theorem dX6_readBeing_134 : decode cX6_readBeing 134 = .ok (.iadd, 1) := by decide +kernel
theorem dX6_readBeing_135 : decode cX6_readBeing 135 = .ok (.putfield 126, 3) := by decide +kernel
theorem dX6_readBeing_138 : decode cX6_readBeing 138 = .ok (.aload_n 0, 1) := by decide +kernel
theorem dX6_readBeing_139 : decode cX6_readBeing 139 = .ok (.bipush 59, 2) := by decide +kernel
theorem dX6_readBeing_141 : decode cX6_readBeing 141 = .ok (.invokevirtual 116, 3) := by decide +kernel
theorem dX6_readBeing_144 : decode cX6_readBeing 144 = .ok (.ireturn, 1) := by decide +kernel
theorem dX6_readWay_0 : decode cX6_readWay 0 = .ok (.aload_n 0, 1) := by decide +kernel
theorem dX6_readWay_1 : decode cX6_readWay 1 = .ok (.getfield 31, 3) := by decide +kernel
theorem dX6_readWay_4 : decode cX6_readWay 4 = .ok (.getfield 148, 3) := by decide +kernel
theorem dX6_readWay_7 : decode cX6_readWay 7 = .ok (.iconst 4, 1) := by decide +kernel
theorem dX6_readWay_8 : decode cX6_readWay 8 = .ok (.if_icmp .lt 9, 3) := by decide +kernel
theorem dX6_readWay_11 : decode cX6_readWay 11 = .ok (.aload_n 0, 1) := by decide +kernel
theorem dX6_readWay_12 : decode cX6_readWay 12 = .ok (.iconst 2, 1) := by decide +kernel
theorem dX6_readWay_13 : decode cX6_readWay 13 = .ok (.invokevirtual 97, 3) := by decide +kernel
theorem dX6_readWay_16 : decode cX6_readWay 16 = .ok (.ireturn, 1) := by decide +kernel
theorem dX6_readWay_17 : decode cX6_readWay 17 = .ok (.aload_n 0, 1) := by decide +kernel
theorem dX6_readWay_18 : decode cX6_readWay 18 = .ok (.sipush 258, 3) := by decide +kernel
theorem dX6_readWay_21 : decode cX6_readWay 21 = .ok (.invokevirtual 116, 3) := by decide +kernel
theorem dX6_readWay_24 : decode cX6_readWay 24 = .ok (.ifCond .eq 20, 3) := by decide +kernel
theorem dX6_readWay_27 : decode cX6_readWay 27 = .ok (.aload_n 0, 1) := by decide +kernel
theorem dX6_readWay_28 : decode cX6_readWay 28 = .ok (.invokevirtual 123, 3) := by decide +kernel
theorem dX6_readWay_31 : decode cX6_readWay 31 = .ok (.ifCond .eq 13, 3) := by decide +kernel
theorem dX6_readWay_34 : decode cX6_readWay 34 = .ok (.aload_n 0, 1) := by decide +kernel
theorem dX6_readWay_35 : decode cX6_readWay 35 = .ok (.iconst 0, 1) := by decide +kernel
theorem dX6_readWay_36 : decode cX6_readWay 36 = .ok (.bipush 99, 2) := by decide +kernel
theorem dX6_readWay_38 : decode cX6_readWay 38 = .ok (.invokevirtual 129, 3) := by decide +kernel
theorem dX6_readWay_41 : decode cX6_readWay 41 = .ok (.ifCond .ne 5, 3) := by decide +kernel
theorem dX6_readWay_44 : decode cX6_readWay 44 = .ok (.iconst 0, 1) := by decide +kernel
theorem dX6_readWay_45 : decode cX6_readWay 45 = .ok (.ireturn, 1) := by decide +kernel
theorem dX6_readWay_46 : decode cX6_readWay 46 = .ok (.aload_n 0, 1) := by decide +kernel
theorem dX6_readWay_47 : decode cX6_readWay 47 = .ok (.getfield 31, 3) := by decide +kernel
theorem dX6_readWay_50 : decode cX6_readWay 50 = .ok (.getfield 151, 3) := by decide +kernel
theorem dX6_readWay_53 : decode cX6_readWay 53 = .ok (.aload_n 0, 1) := by decide +kernel
theorem dX6_readWay_54 : decode cX6_readWay 54 = .ok (.getfield 31, 3) := by decide +kernel
theorem dX6_readWay_57 : decode cX6_readWay 57 = .ok (.getfield 148, 3) := by decide +kernel
theorem dX6_readWay_60 : decode cX6_readWay 60 = .ok (.aload_n 0, 1) := by decide +kernel
theorem dX6_readWay_61 : decode cX6_readWay 61 = .ok (.getfield 136, 3) := by decide +kernel
theorem dX6_readWay_64 : decode cX6_readWay 64 = .ok (.iastore, 1) := by decide +kernel
theorem dX6_readWay_65 : decode cX6_readWay 65 = .ok (.iconst 0, 1) := by decide +kernel
theorem dX6_readWay_66 : decode cX6_readWay 66 = .ok (.istore_n 1, 1) := by decide +kernel
theorem dX6_readWay_67 : decode cX6_readWay 67 = .ok (.iconst 0, 1) := by decide +kernel
theorem dX6_readWay_68 : decode cX6_readWay 68 = .ok (.istore_n 2, 1) := by decide +kernel
theorem dX6_readWay_69 : decode cX6_readWay 69 = .ok (.iconst 0, 1) := by decide +kernel
theorem dX6_readWay_70 : decode cX6_readWay 70 = .ok (.istore_n 3, 1) := by decide +kernel
theorem dX6_readWay_71 : decode cX6_readWay 71 = .ok (.iload_n 3, 1) := by decide +kernel
theorem dX6_readWay_72 : decode cX6_readWay 72 = .ok (.sipush 400, 3) := by decide +kernel
theorem dX6_readWay_75 : decode cX6_readWay 75 = .ok (.if_icmp .ge 112, 3) := by decide +kernel
theorem dX6_readWay_78 : decode cX6_readWay 78 = .ok (.aload_n 0, 1) := by decide +kernel
theorem dX6_readWay_79 : decode cX6_readWay 79 = .ok (.getfield 65, 3) := by decide +kernel
theorem dX6_readWay_82 : decode cX6_readWay 82 = .ok (.sipush 265, 3) := by decide +kernel
theorem dX6_readWay_85 : decode cX6_readWay 85 = .ok (.if_icmp .eq 13, 3) := by decide +kernel
theorem dX6_readWay_88 : decode cX6_readWay 88 = .ok (.aload_n 0, 1) := by decide +kernel
theorem dX6_readWay_89 : decode cX6_readWay 89 = .ok (.getfield 65, 3) := by decide +kernel
theorem dX6_readWay_92 : decode cX6_readWay 92 = .ok (.sipush 266, 3) := by decide +kernel
theorem dX6_readWay_95 : decode cX6_readWay 95 = .ok (.if_icmp .ne 92, 3) := by decide +kernel
theorem dX6_readWay_98 : decode cX6_readWay 98 = .ok (.aload_n 0, 1) := by decide +kernel
theorem dX6_readWay_99 : decode cX6_readWay 99 = .ok (.getfield 65, 3) := by decide +kernel
theorem dX6_readWay_102 : decode cX6_readWay 102 = .ok (.sipush 265, 3) := by decide +kernel
theorem dX6_readWay_105 : decode cX6_readWay 105 = .ok (.if_icmp .ne 7, 3) := by decide +kernel
theorem dX6_readWay_108 : decode cX6_readWay 108 = .ok (.iconst 1, 1) := by decide +kernel
theorem dX6_readWay_109 : decode cX6_readWay 109 = .ok (.goto 4, 3) := by decide +kernel
theorem dX6_readWay_112 : decode cX6_readWay 112 = .ok (.iconst 0, 1) := by decide +kernel
theorem dX6_readWay_113 : decode cX6_readWay 113 = .ok (.istore 4, 2) := by decide +kernel
theorem dX6_readWay_115 : decode cX6_readWay 115 = .ok (.aload_n 0, 1) := by decide +kernel
theorem dX6_readWay_116 : decode cX6_readWay 116 = .ok (.aload_n 0, 1) := by decide +kernel
theorem dX6_readWay_117 : decode cX6_readWay 117 = .ok (.getfield 65, 3) := by decide +kernel
theorem dX6_readWay_120 : decode cX6_readWay 120 = .ok (.invokevirtual 116, 3) := by decide +kernel
theorem dX6_readWay_123 : decode cX6_readWay 123 = .ok (.ifCond .eq 10, 3) := by decide +kernel
theorem dX6_readWay_126 : decode cX6_readWay 126 = .ok (.aload_n 0, 1) := by decide +kernel
theorem dX6_readWay_127 : decode cX6_readWay 127 = .ok (.invokevirtual 139, 3) := by decide +kernel
theorem dX6_readWay_130 : decode cX6_readWay 130 = .ok (.ifCond .ne 5, 3) := by decide +kernel
theorem dX6_readWay_133 : decode cX6_readWay 133 = .ok (.iconst 0, 1) := by decide +kernel
theorem dX6_readWay_134 : decode cX6_readWay 134 = .ok (.ireturn, 1) := by decide +kernel
theorem dX6_readWay_135 : decode cX6_readWay 135 = .ok (.iconst 1, 1) := by decide +kernel
theorem dX6_readWay_136 : decode cX6_readWay 136 = .ok (.aload_n 0, 1) := by decide +kernel
theorem dX6_readWay_137 : decode cX6_readWay 137 = .ok (.getfield 142, 3) := by decide +kernel
theorem dX6_readWay_140 : decode cX6_readWay 140 = .ok (.ishl, 1) := by decide +kernel
theorem dX6_readWay_141 : decode cX6_readWay 141 = .ok (.istore 5, 2) := by decide +kernel
theorem dX6_readWay_143 : decode cX6_readWay 143 = .ok (.iload 4, 2) := by decide +kernel
theorem dX6_readWay_145 : decode cX6_readWay 145 = .ok (.ifCond .eq 10, 3) := by decide +kernel
theorem dX6_readWay_148 : decode cX6_readWay 148 = .ok (.iload_n 1, 1) := by decide +kernel
theorem dX6_readWay_149 : decode cX6_readWay 149 = .ok (.iload 5, 2) := by decide +kernel
theorem dX6_readWay_151 : decode cX6_readWay 151 = .ok (.ior, 1) := by decide +kernel
theorem dX6_readWay_152 : decode cX6_readWay 152 = .ok (.goto 9, 3) := by decide +kernel
theorem dX6_readWay_155 : decode cX6_readWay 155 = .ok (.iload_n 1, 1) := by decide +kernel
theorem dX6_readWay_156 : decode cX6_readWay 156 = .ok (.iload 5, 2) := by decide +kernel
theorem dX6_readWay_158 : decode cX6_readWay 158 = .ok (.iconst (-1), 1) := by decide +kernel
theorem dX6_readWay_159 : decode cX6_readWay 159 = .ok (.ixor, 1) := by decide +kernel
theorem dX6_readWay_160 : decode cX6_readWay 160 = .ok (.iand, 1) := by decide +kernel
theorem dX6_readWay_161 : decode cX6_readWay 161 = .ok (.istore_n 1, 1) := by decide +kernel
theorem dX6_readWay_162 : decode cX6_readWay 162 = .ok (.iload 4, 2) := by decide +kernel
theorem dX6_readWay_164 : decode cX6_readWay 164 = .ok (.ifCond .eq 12, 3) := by decide +kernel
theorem dX6_readWay_167 : decode cX6_readWay 167 = .ok (.iload_n 2, 1) := by decide +kernel
theorem dX6_readWay_168 : decode cX6_readWay 168 = .ok (.iload 5, 2) := by decide +kernel
theorem dX6_readWay_170 : decode cX6_readWay 170 = .ok (.iconst (-1), 1) := by decide +kernel
theorem dX6_readWay_171 : decode cX6_readWay 171 = .ok (.ixor, 1) := by decide +kernel
theorem dX6_readWay_172 : decode cX6_readWay 172 = .ok (.iand, 1) := by decide +kernel
theorem dX6_readWay_173 : decode cX6_readWay 173 = .ok (.goto 7, 3) := by decide +kernel
theorem dX6_readWay_176 : decode cX6_readWay 176 = .ok (.iload_n 2, 1) := by decide +kernel
theorem dX6_readWay_177 : decode cX6_readWay 177 = .ok (.iload 5, 2) := by decide +kernel
theorem dX6_readWay_179 : decode cX6_readWay 179 = .ok (.ior, 1) := by decide +kernel
theorem dX6_readWay_180 : decode cX6_readWay 180 = .ok (.istore_n 2, 1) := by decide +kernel
theorem dX6_readWay_181 : decode cX6_readWay 181 = .ok (.iinc 3 1, 3) := by decide +kernel
theorem dX6_readWay_184 : decode cX6_readWay 184 = .ok (.goto (-113), 3) := by decide +kernel
theorem dX6_readWay_187 : decode cX6_readWay 187 = .ok (.aload_n 0, 1) := by decide +kernel
theorem dX6_readWay_188 : decode cX6_readWay 188 = .ok (.getfield 31, 3) := by decide +kernel
theorem dX6_readWay_191 : decode cX6_readWay 191 = .ok (.getfield 154, 3) := by decide +kernel
theorem dX6_readWay_194 : decode cX6_readWay 194 = .ok (.aload_n 0, 1) := by decide +kernel
theorem dX6_readWay_195 : decode cX6_readWay 195 = .ok (.getfield 31, 3) := by decide +kernel
theorem dX6_readWay_198 : decode cX6_readWay 198 = .ok (.getfield 148, 3) := by decide +kernel
theorem dX6_readWay_201 : decode cX6_readWay 201 = .ok (.iload_n 1, 1) := by decide +kernel
theorem dX6_readWay_202 : decode cX6_readWay 202 = .ok (.iastore, 1) := by decide +kernel
theorem dX6_readWay_203 : decode cX6_readWay 203 = .ok (.aload_n 0, 1) := by decide +kernel
theorem dX6_readWay_204 : decode cX6_readWay 204 = .ok (.getfield 31, 3) := by decide +kernel
theorem dX6_readWay_207 : decode cX6_readWay 207 = .ok (.getfield 157, 3) := by decide +kernel
theorem dX6_readWay_210 : decode cX6_readWay 210 = .ok (.aload_n 0, 1) := by decide +kernel
theorem dX6_readWay_211 : decode cX6_readWay 211 = .ok (.getfield 31, 3) := by decide +kernel
theorem dX6_readWay_214 : decode cX6_readWay 214 = .ok (.getfield 148, 3) := by decide +kernel
theorem dX6_readWay_217 : decode cX6_readWay 217 = .ok (.iload_n 2, 1) := by decide +kernel
theorem dX6_readWay_218 : decode cX6_readWay 218 = .ok (.iastore, 1) := by decide +kernel
theorem dX6_readWay_219 : decode cX6_readWay 219 = .ok (.aload_n 0, 1) := by decide +kernel
theorem dX6_readWay_220 : decode cX6_readWay 220 = .ok (.getfield 31, 3) := by decide +kernel
theorem dX6_readWay_223 : decode cX6_readWay 223 = .ok (.dup, 1) := by decide +kernel
theorem dX6_readWay_224 : decode cX6_readWay 224 = .ok (.getfield 148, 3) := by decide +kernel
theorem dX6_readWay_227 : decode cX6_readWay 227 = .ok (.iconst 1, 1) := by decide +kernel
theorem dX6_readWay_228 : decode cX6_readWay 228 = .ok (.iadd, 1) := by decide +kernel
theorem dX6_readWay_229 : decode cX6_readWay 229 = .ok (.putfield 148, 3) := by decide +kernel
theorem dX6_readWay_232 : decode cX6_readWay 232 = .ok (.aload_n 0, 1) := by decide +kernel
theorem dX6_readWay_233 : decode cX6_readWay 233 = .ok (.bipush 59, 2) := by decide +kernel
theorem dX6_readWay_235 : decode cX6_readWay 235 = .ok (.invokevirtual 116, 3) := by decide +kernel
theorem dX6_readWay_238 : decode cX6_readWay 238 = .ok (.ireturn, 1) := by decide +kernel
theorem dX6_readBridge_0 : decode cX6_readBridge 0 = .ok (.aload_n 0, 1) := by decide +kernel
theorem dX6_readBridge_1 : decode cX6_readBridge 1 = .ok (.getfield 31, 3) := by decide +kernel
theorem dX6_readBridge_4 : decode cX6_readBridge 4 = .ok (.getfield 160, 3) := by decide +kernel
theorem dX6_readBridge_7 : decode cX6_readBridge 7 = .ok (.iconst 4, 1) := by decide +kernel
theorem dX6_readBridge_8 : decode cX6_readBridge 8 = .ok (.if_icmp .lt 9, 3) := by decide +kernel
theorem dX6_readBridge_11 : decode cX6_readBridge 11 = .ok (.aload_n 0, 1) := by decide +kernel
theorem dX6_readBridge_12 : decode cX6_readBridge 12 = .ok (.iconst 2, 1) := by decide +kernel
theorem dX6_readBridge_13 : decode cX6_readBridge 13 = .ok (.invokevirtual 97, 3) := by decide +kernel
theorem dX6_readBridge_16 : decode cX6_readBridge 16 = .ok (.ireturn, 1) := by decide +kernel
theorem dX6_readBridge_17 : decode cX6_readBridge 17 = .ok (.aload_n 0, 1) := by decide +kernel
theorem dX6_readBridge_18 : decode cX6_readBridge 18 = .ok (.sipush 259, 3) := by decide +kernel
theorem dX6_readBridge_21 : decode cX6_readBridge 21 = .ok (.invokevirtual 116, 3) := by decide +kernel
theorem dX6_readBridge_24 : decode cX6_readBridge 24 = .ok (.ifCond .eq 20, 3) := by decide +kernel
theorem dX6_readBridge_27 : decode cX6_readBridge 27 = .ok (.aload_n 0, 1) := by decide +kernel
theorem dX6_readBridge_28 : decode cX6_readBridge 28 = .ok (.invokevirtual 123, 3) := by decide +kernel
theorem dX6_readBridge_31 : decode cX6_readBridge 31 = .ok (.ifCond .eq 13, 3) := by decide +kernel
theorem dX6_readBridge_34 : decode cX6_readBridge 34 = .ok (.aload_n 0, 1) := by decide +kernel
theorem dX6_readBridge_35 : decode cX6_readBridge 35 = .ok (.iconst 1, 1) := by decide +kernel
theorem dX6_readBridge_36 : decode cX6_readBridge 36 = .ok (.bipush 99, 2) := by decide +kernel
theorem dX6_readBridge_38 : decode cX6_readBridge 38 = .ok (.invokevirtual 129, 3) := by decide +kernel
theorem dX6_readBridge_41 : decode cX6_readBridge 41 = .ok (.ifCond .ne 5, 3) := by decide +kernel
theorem dX6_readBridge_44 : decode cX6_readBridge 44 = .ok (.iconst 0, 1) := by decide +kernel
theorem dX6_readBridge_45 : decode cX6_readBridge 45 = .ok (.ireturn, 1) := by decide +kernel
theorem dX6_readBridge_46 : decode cX6_readBridge 46 = .ok (.aload_n 0, 1) := by decide +kernel
theorem dX6_readBridge_47 : decode cX6_readBridge 47 = .ok (.getfield 31, 3) := by decide +kernel
theorem dX6_readBridge_50 : decode cX6_readBridge 50 = .ok (.getfield 163, 3) := by decide +kernel
theorem dX6_readBridge_53 : decode cX6_readBridge 53 = .ok (.aload_n 0, 1) := by decide +kernel
theorem dX6_readBridge_54 : decode cX6_readBridge 54 = .ok (.getfield 31, 3) := by decide +kernel
theorem dX6_readBridge_57 : decode cX6_readBridge 57 = .ok (.getfield 160, 3) := by decide +kernel
theorem dX6_readBridge_60 : decode cX6_readBridge 60 = .ok (.aload_n 0, 1) := by decide +kernel
theorem dX6_readBridge_61 : decode cX6_readBridge 61 = .ok (.getfield 136, 3) := by decide +kernel
theorem dX6_readBridge_64 : decode cX6_readBridge 64 = .ok (.iastore, 1) := by decide +kernel
theorem dX6_readBridge_65 : decode cX6_readBridge 65 = .ok (.aload_n 0, 1) := by decide +kernel
theorem dX6_readBridge_66 : decode cX6_readBridge 66 = .ok (.iconst 0, 1) := by decide +kernel
theorem dX6_readBridge_67 : decode cX6_readBridge 67 = .ok (.bipush 99, 2) := by decide +kernel
theorem dX6_readBridge_69 : decode cX6_readBridge 69 = .ok (.invokevirtual 129, 3) := by decide +kernel
theorem dX6_readBridge_72 : decode cX6_readBridge 72 = .ok (.ifCond .ne 5, 3) := by decide +kernel
theorem dX6_readBridge_75 : decode cX6_readBridge 75 = .ok (.iconst 0, 1) := by decide +kernel
theorem dX6_readBridge_76 : decode cX6_readBridge 76 = .ok (.ireturn, 1) := by decide +kernel
theorem dX6_readBridge_77 : decode cX6_readBridge 77 = .ok (.aload_n 0, 1) := by decide +kernel
theorem dX6_readBridge_78 : decode cX6_readBridge 78 = .ok (.getfield 31, 3) := by decide +kernel
theorem dX6_readBridge_81 : decode cX6_readBridge 81 = .ok (.getfield 166, 3) := by decide +kernel
theorem dX6_readBridge_84 : decode cX6_readBridge 84 = .ok (.aload_n 0, 1) := by decide +kernel
theorem dX6_readBridge_85 : decode cX6_readBridge 85 = .ok (.getfield 31, 3) := by decide +kernel
theorem dX6_readBridge_88 : decode cX6_readBridge 88 = .ok (.getfield 160, 3) := by decide +kernel
theorem dX6_readBridge_91 : decode cX6_readBridge 91 = .ok (.aload_n 0, 1) := by decide +kernel
theorem dX6_readBridge_92 : decode cX6_readBridge 92 = .ok (.getfield 136, 3) := by decide +kernel
theorem dX6_readBridge_95 : decode cX6_readBridge 95 = .ok (.iastore, 1) := by decide +kernel
theorem dX6_readBridge_96 : decode cX6_readBridge 96 = .ok (.aload_n 0, 1) := by decide +kernel
theorem dX6_readBridge_97 : decode cX6_readBridge 97 = .ok (.iconst 0, 1) := by decide +kernel
theorem dX6_readBridge_98 : decode cX6_readBridge 98 = .ok (.putfield 169, 3) := by decide +kernel
theorem dX6_readBridge_101 : decode cX6_readBridge 101 = .ok (.aload_n 0, 1) := by decide +kernel
theorem dX6_readBridge_102 : decode cX6_readBridge 102 = .ok (.bipush 61, 2) := by decide +kernel
theorem dX6_readBridge_104 : decode cX6_readBridge 104 = .ok (.invokevirtual 116, 3) := by decide +kernel
theorem dX6_readBridge_107 : decode cX6_readBridge 107 = .ok (.ifCond .eq 13, 3) := by decide +kernel
theorem dX6_readBridge_110 : decode cX6_readBridge 110 = .ok (.aload_n 0, 1) := by decide +kernel
theorem dX6_readBridge_111 : decode cX6_readBridge 111 = .ok (.iconst 0, 1) := by decide +kernel
theorem dX6_readBridge_112 : decode cX6_readBridge 112 = .ok (.bipush 59, 2) := by decide +kernel
theorem dX6_readBridge_114 : decode cX6_readBridge 114 = .ok (.invokevirtual 172, 3) := by decide +kernel
theorem dX6_readBridge_117 : decode cX6_readBridge 117 = .ok (.ifCond .ne 5, 3) := by decide +kernel
theorem dX6_readBridge_120 : decode cX6_readBridge 120 = .ok (.iconst 0, 1) := by decide +kernel
theorem dX6_readBridge_121 : decode cX6_readBridge 121 = .ok (.ireturn, 1) := by decide +kernel
theorem dX6_readBridge_122 : decode cX6_readBridge 122 = .ok (.aload_n 0, 1) := by decide +kernel
theorem dX6_readBridge_123 : decode cX6_readBridge 123 = .ok (.getfield 27, 3) := by decide +kernel
theorem dX6_readBridge_126 : decode cX6_readBridge 126 = .ok (.iconst 0, 1) := by decide +kernel
theorem dX6_readBridge_127 : decode cX6_readBridge 127 = .ok (.aload_n 0, 1) := by decide +kernel
theorem dX6_readBridge_128 : decode cX6_readBridge 128 = .ok (.getfield 31, 3) := by decide +kernel
theorem dX6_readBridge_131 : decode cX6_readBridge 131 = .ok (.getfield 175, 3) := by decide +kernel
theorem dX6_readBridge_134 : decode cX6_readBridge 134 = .ok (.aload_n 0, 1) := by decide +kernel
theorem dX6_readBridge_135 : decode cX6_readBridge 135 = .ok (.getfield 31, 3) := by decide +kernel
theorem dX6_readBridge_138 : decode cX6_readBridge 138 = .ok (.getfield 160, 3) := by decide +kernel
theorem dX6_readBridge_141 : decode cX6_readBridge 141 = .ok (.iconst 4, 1) := by decide +kernel
theorem dX6_readBridge_142 : decode cX6_readBridge 142 = .ok (.imul, 1) := by decide +kernel
theorem dX6_readBridge_143 : decode cX6_readBridge 143 = .ok (.iconst 4, 1) := by decide +kernel
theorem dX6_readBridge_144 : decode cX6_readBridge 144 = .ok (.invokestatic 178, 3) := by decide +kernel
theorem dX6_readBridge_147 : decode cX6_readBridge 147 = .ok (.aload_n 0, 1) := by decide +kernel
theorem dX6_readBridge_148 : decode cX6_readBridge 148 = .ok (.getfield 31, 3) := by decide +kernel
theorem dX6_readBridge_151 : decode cX6_readBridge 151 = .ok (.dup, 1) := by decide +kernel
theorem dX6_readBridge_152 : decode cX6_readBridge 152 = .ok (.getfield 160, 3) := by decide +kernel
theorem dX6_readBridge_155 : decode cX6_readBridge 155 = .ok (.iconst 1, 1) := by decide +kernel
theorem dX6_readBridge_156 : decode cX6_readBridge 156 = .ok (.iadd, 1) := by decide +kernel
theorem dX6_readBridge_157 : decode cX6_readBridge 157 = .ok (.putfield 160, 3) := by decide +kernel
theorem dX6_readBridge_160 : decode cX6_readBridge 160 = .ok (.iconst 1, 1) := by decide +kernel
theorem dX6_readBridge_161 : decode cX6_readBridge 161 = .ok (.ireturn, 1) := by decide +kernel
theorem dX6_readStorm_0 : decode cX6_readStorm 0 = .ok (.aload_n 0, 1) := by decide +kernel
theorem dX6_readStorm_1 : decode cX6_readStorm 1 = .ok (.sipush 263, 3) := by decide +kernel
theorem dX6_readStorm_4 : decode cX6_readStorm 4 = .ok (.invokevirtual 116, 3) := by decide +kernel
theorem dX6_readStorm_7 : decode cX6_readStorm 7 = .ok (.ifCond .eq 13, 3) := by decide +kernel
theorem dX6_readStorm_10 : decode cX6_readStorm 10 = .ok (.aload_n 0, 1) := by decide +kernel
theorem dX6_readStorm_11 : decode cX6_readStorm 11 = .ok (.iconst 0, 1) := by decide +kernel
theorem dX6_readStorm_12 : decode cX6_readStorm 12 = .ok (.bipush 100, 2) := by decide +kernel
theorem dX6_readStorm_14 : decode cX6_readStorm 14 = .ok (.invokevirtual 129, 3) := by decide +kernel
theorem dX6_readStorm_17 : decode cX6_readStorm 17 = .ok (.ifCond .ne 5, 3) := by decide +kernel
theorem dX6_readStorm_20 : decode cX6_readStorm 20 = .ok (.iconst 0, 1) := by decide +kernel
theorem dX6_readStorm_21 : decode cX6_readStorm 21 = .ok (.ireturn, 1) := by decide +kernel
theorem dX6_readStorm_22 : decode cX6_readStorm 22 = .ok (.aload_n 0, 1) := by decide +kernel
theorem dX6_readStorm_23 : decode cX6_readStorm 23 = .ok (.getfield 31, 3) := by decide +kernel
theorem dX6_readStorm_26 : decode cX6_readStorm 26 = .ok (.aload_n 0, 1) := by decide +kernel
theorem dX6_readStorm_27 : decode cX6_readStorm 27 = .ok (.getfield 136, 3) := by decide +kernel
theorem dX6_readStorm_30 : decode cX6_readStorm 30 = .ok (.putfield 184, 3) := by decide +kernel
theorem dX6_readStorm_33 : decode cX6_readStorm 33 = .ok (.aload_n 0, 1) := by decide +kernel
theorem dX6_readStorm_34 : decode cX6_readStorm 34 = .ok (.bipush 59, 2) := by decide +kernel
theorem dX6_readStorm_36 : decode cX6_readStorm 36 = .ok (.invokevirtual 116, 3) := by decide +kernel
theorem dX6_readStorm_39 : decode cX6_readStorm 39 = .ok (.ireturn, 1) := by decide +kernel
theorem dX6_readSeed_0 : decode cX6_readSeed 0 = .ok (.aload_n 0, 1) := by decide +kernel
theorem dX6_readSeed_1 : decode cX6_readSeed 1 = .ok (.sipush 264, 3) := by decide +kernel
theorem dX6_readSeed_4 : decode cX6_readSeed 4 = .ok (.invokevirtual 116, 3) := by decide +kernel
theorem dX6_readSeed_7 : decode cX6_readSeed 7 = .ok (.ifCond .eq 14, 3) := by decide +kernel
theorem dX6_readSeed_10 : decode cX6_readSeed 10 = .ok (.aload_n 0, 1) := by decide +kernel
theorem dX6_readSeed_11 : decode cX6_readSeed 11 = .ok (.iconst 0, 1) := by decide +kernel
theorem dX6_readSeed_12 : decode cX6_readSeed 12 = .ok (.sipush 9999, 3) := by decide +kernel
theorem dX6_readSeed_15 : decode cX6_readSeed 15 = .ok (.invokevirtual 129, 3) := by decide +kernel
theorem dX6_readSeed_18 : decode cX6_readSeed 18 = .ok (.ifCond .ne 5, 3) := by decide +kernel
theorem dX6_readSeed_21 : decode cX6_readSeed 21 = .ok (.iconst 0, 1) := by decide +kernel
theorem dX6_readSeed_22 : decode cX6_readSeed 22 = .ok (.ireturn, 1) := by decide +kernel
theorem dX6_readSeed_23 : decode cX6_readSeed 23 = .ok (.aload_n 0, 1) := by decide +kernel
theorem dX6_readSeed_24 : decode cX6_readSeed 24 = .ok (.getfield 31, 3) := by decide +kernel
theorem dX6_readSeed_27 : decode cX6_readSeed 27 = .ok (.aload_n 0, 1) := by decide +kernel
theorem dX6_readSeed_28 : decode cX6_readSeed 28 = .ok (.getfield 136, 3) := by decide +kernel
theorem dX6_readSeed_31 : decode cX6_readSeed 31 = .ok (.putfield 187, 3) := by decide +kernel
theorem dX6_readSeed_34 : decode cX6_readSeed 34 = .ok (.aload_n 0, 1) := by decide +kernel
theorem dX6_readSeed_35 : decode cX6_readSeed 35 = .ok (.bipush 59, 2) := by decide +kernel
theorem dX6_readSeed_37 : decode cX6_readSeed 37 = .ok (.invokevirtual 116, 3) := by decide +kernel
theorem dX6_readSeed_40 : decode cX6_readSeed 40 = .ok (.ireturn, 1) := by decide +kernel
theorem dX6_readNewName_0 : decode cX6_readNewName 0 = .ok (.aload_n 0, 1) := by decide +kernel
theorem dX6_readNewName_1 : decode cX6_readNewName 1 = .ok (.invokevirtual 119, 3) := by decide +kernel
theorem dX6_readNewName_4 : decode cX6_readNewName 4 = .ok (.lstore_n 1, 1) := by decide +kernel
theorem dX6_readNewName_5 : decode cX6_readNewName 5 = .ok (.aload_n 0, 1) := by decide +kernel
theorem dX6_readNewName_6 : decode cX6_readNewName 6 = .ok (.getfield 65, 3) := by decide +kernel
theorem dX6_readNewName_9 : decode cX6_readNewName 9 = .ok (.iconst 1, 1) := by decide +kernel
theorem dX6_readNewName_10 : decode cX6_readNewName 10 = .ok (.if_icmp .ne 67, 3) := by decide +kernel
theorem dX6_readNewName_13 : decode cX6_readNewName 13 = .ok (.iconst 0, 1) := by decide +kernel
theorem dX6_readNewName_14 : decode cX6_readNewName 14 = .ok (.istore_n 3, 1) := by decide +kernel
theorem dX6_readNewName_15 : decode cX6_readNewName 15 = .ok (.iload_n 3, 1) := by decide +kernel
theorem dX6_readNewName_16 : decode cX6_readNewName 16 = .ok (.aload_n 0, 1) := by decide +kernel
theorem dX6_readNewName_17 : decode cX6_readNewName 17 = .ok (.getfield 55, 3) := by decide +kernel
theorem dX6_readNewName_20 : decode cX6_readNewName 20 = .ok (.if_icmp .ge 25, 3) := by decide +kernel
theorem dX6_readNewName_23 : decode cX6_readNewName 23 = .ok (.aload_n 0, 1) := by decide +kernel
theorem dX6_readNewName_24 : decode cX6_readNewName 24 = .ok (.getfield 18, 3) := by decide +kernel
theorem dX6_readNewName_27 : decode cX6_readNewName 27 = .ok (.iload_n 3, 1) := by decide +kernel
theorem dX6_readNewName_28 : decode cX6_readNewName 28 = .ok (.laload, 1) := by decide +kernel
theorem dX6_readNewName_29 : decode cX6_readNewName 29 = .ok (.lload_n 1, 1) := by decide +kernel
theorem dX6_readNewName_30 : decode cX6_readNewName 30 = .ok (.lcmp, 1) := by decide +kernel
theorem dX6_readNewName_31 : decode cX6_readNewName 31 = .ok (.ifCond .ne 8, 3) := by decide +kernel
theorem dX6_readNewName_34 : decode cX6_readNewName 34 = .ok (.aload_n 0, 1) := by decide +kernel
theorem dX6_readNewName_35 : decode cX6_readNewName 35 = .ok (.iconst 3, 1) := by decide +kernel
theorem dX6_readNewName_36 : decode cX6_readNewName 36 = .ok (.invokevirtual 190, 3) := by decide +kernel
theorem dX6_readNewName_39 : decode cX6_readNewName 39 = .ok (.iinc 3 1, 3) := by decide +kernel
theorem dX6_readNewName_42 : decode cX6_readNewName 42 = .ok (.goto (-27), 3) := by decide +kernel
theorem dX6_readNewName_45 : decode cX6_readNewName 45 = .ok (.aload_n 0, 1) := by decide +kernel
theorem dX6_readNewName_46 : decode cX6_readNewName 46 = .ok (.getfield 55, 3) := by decide +kernel
theorem dX6_readNewName_49 : decode cX6_readNewName 49 = .ok (.aload_n 0, 1) := by decide +kernel
theorem dX6_readNewName_50 : decode cX6_readNewName 50 = .ok (.getfield 18, 3) := by decide +kernel
theorem dX6_readNewName_53 : decode cX6_readNewName 53 = .ok (.arraylength, 1) := by decide +kernel
theorem dX6_readNewName_54 : decode cX6_readNewName 54 = .ok (.if_icmp .ge 23, 3) := by decide +kernel
theorem dX6_readNewName_57 : decode cX6_readNewName 57 = .ok (.aload_n 0, 1) := by decide +kernel
theorem dX6_readNewName_58 : decode cX6_readNewName 58 = .ok (.getfield 18, 3) := by decide +kernel
theorem dX6_readNewName_61 : decode cX6_readNewName 61 = .ok (.aload_n 0, 1) := by decide +kernel
theorem dX6_readNewName_62 : decode cX6_readNewName 62 = .ok (.getfield 55, 3) := by decide +kernel
theorem dX6_readNewName_65 : decode cX6_readNewName 65 = .ok (.lload_n 1, 1) := by decide +kernel
theorem dX6_readNewName_66 : decode cX6_readNewName 66 = .ok (.lastore, 1) := by decide +kernel
theorem dX6_readNewName_67 : decode cX6_readNewName 67 = .ok (.aload_n 0, 1) := by decide +kernel
theorem dX6_readNewName_68 : decode cX6_readNewName 68 = .ok (.dup, 1) := by decide +kernel
theorem dX6_readNewName_69 : decode cX6_readNewName 69 = .ok (.getfield 55, 3) := by decide +kernel
theorem dX6_readNewName_72 : decode cX6_readNewName 72 = .ok (.iconst 1, 1) := by decide +kernel
theorem dX6_readNewName_73 : decode cX6_readNewName 73 = .ok (.iadd, 1) := by decide +kernel
theorem dX6_readNewName_74 : decode cX6_readNewName 74 = .ok (.putfield 55, 3) := by decide +kernel
theorem dX6_readNewName_77 : decode cX6_readNewName 77 = .ok (.aload_n 0, 1) := by decide +kernel
theorem dX6_readNewName_78 : decode cX6_readNewName 78 = .ok (.iconst 1, 1) := by decide +kernel
theorem dX6_readNewName_79 : decode cX6_readNewName 79 = .ok (.invokevirtual 116, 3) := by decide +kernel
theorem dX6_readNewName_82 : decode cX6_readNewName 82 = .ok (.ireturn, 1) := by decide +kernel
theorem dX6_readTraitName_0 : decode cX6_readTraitName 0 = .ok (.aload_n 0, 1) := by decide +kernel
theorem dX6_readTraitName_1 : decode cX6_readTraitName 1 = .ok (.iconst (-1), 1) := by decide +kernel
theorem dX6_readTraitName_2 : decode cX6_readTraitName 2 = .ok (.putfield 142, 3) := by decide +kernel
theorem dX6_readTraitName_5 : decode cX6_readTraitName 5 = .ok (.aload_n 0, 1) := by decide +kernel
theorem dX6_readTraitName_6 : decode cX6_readTraitName 6 = .ok (.getfield 31, 3) := by decide +kernel
theorem dX6_readTraitName_9 : decode cX6_readTraitName 9 = .ok (.getfield 113, 3) := by decide +kernel
theorem dX6_readTraitName_12 : decode cX6_readTraitName 12 = .ok (.iconst 1, 1) := by decide +kernel
theorem dX6_readTraitName_13 : decode cX6_readTraitName 13 = .ok (.isub, 1) := by decide +kernel
theorem dX6_readTraitName_14 : decode cX6_readTraitName 14 = .ok (.istore_n 1, 1) := by decide +kernel
theorem dX6_readTraitName_15 : decode cX6_readTraitName 15 = .ok (.iload_n 1, 1) := by decide +kernel
theorem dX6_readTraitName_16 : decode cX6_readTraitName 16 = .ok (.ifCond .lt 28, 3) := by decide +kernel
theorem dX6_readTraitName_19 : decode cX6_readTraitName 19 = .ok (.aload_n 0, 1) := by decide +kernel
theorem dX6_readTraitName_20 : decode cX6_readTraitName 20 = .ok (.getfield 22, 3) := by decide +kernel
theorem dX6_readTraitName_23 : decode cX6_readTraitName 23 = .ok (.iload_n 1, 1) := by decide +kernel
theorem dX6_readTraitName_24 : decode cX6_readTraitName 24 = .ok (.laload, 1) := by decide +kernel
theorem dX6_readTraitName_25 : decode cX6_readTraitName 25 = .ok (.aload_n 0, 1) := by decide +kernel
theorem dX6_readTraitName_26 : decode cX6_readTraitName 26 = .ok (.invokevirtual 119, 3) := by decide +kernel
theorem dX6_readTraitName_29 : decode cX6_readTraitName 29 = .ok (.lcmp, 1) := by decide +kernel
theorem dX6_readTraitName_30 : decode cX6_readTraitName 30 = .ok (.ifCond .ne 8, 3) := by decide +kernel
theorem dX6_readTraitName_33 : decode cX6_readTraitName 33 = .ok (.aload_n 0, 1) := by decide +kernel
theorem dX6_readTraitName_34 : decode cX6_readTraitName 34 = .ok (.iload_n 1, 1) := by decide +kernel
theorem dX6_readTraitName_35 : decode cX6_readTraitName 35 = .ok (.putfield 142, 3) := by decide +kernel
theorem dX6_readTraitName_38 : decode cX6_readTraitName 38 = .ok (.iinc 1 (-1), 3) := by decide +kernel
theorem dX6_readTraitName_41 : decode cX6_readTraitName 41 = .ok (.goto (-26), 3) := by decide +kernel
theorem dX6_readTraitName_44 : decode cX6_readTraitName 44 = .ok (.aload_n 0, 1) := by decide +kernel
theorem dX6_readTraitName_45 : decode cX6_readTraitName 45 = .ok (.getfield 142, 3) := by decide +kernel
theorem dX6_readTraitName_48 : decode cX6_readTraitName 48 = .ok (.iconst (-1), 1) := by decide +kernel
theorem dX6_readTraitName_49 : decode cX6_readTraitName 49 = .ok (.if_icmp .ne 21, 3) := by decide +kernel
theorem dX6_readTraitName_52 : decode cX6_readTraitName 52 = .ok (.aload_n 0, 1) := by decide +kernel
theorem dX6_readTraitName_53 : decode cX6_readTraitName 53 = .ok (.iconst 0, 1) := by decide +kernel
theorem dX6_readTraitName_54 : decode cX6_readTraitName 54 = .ok (.putfield 142, 3) := by decide +kernel
theorem dX6_readTraitName_57 : decode cX6_readTraitName 57 = .ok (.aload_n 0, 1) := by decide +kernel
theorem dX6_readTraitName_58 : decode cX6_readTraitName 58 = .ok (.getfield 65, 3) := by decide +kernel
theorem dX6_readTraitName_61 : decode cX6_readTraitName 61 = .ok (.iconst 1, 1) := by decide +kernel
theorem dX6_readTraitName_62 : decode cX6_readTraitName 62 = .ok (.if_icmp .ne 8, 3) := by decide +kernel
theorem dX6_readTraitName_65 : decode cX6_readTraitName 65 = .ok (.aload_n 0, 1) := by decide +kernel
theorem dX6_readTraitName_66 : decode cX6_readTraitName 66 = .ok (.iconst 4, 1) := by decide +kernel
theorem dX6_readTraitName_67 : decode cX6_readTraitName 67 = .ok (.invokevirtual 190, 3) := by decide +kernel
theorem dX6_readTraitName_70 : decode cX6_readTraitName 70 = .ok (.aload_n 0, 1) := by decide +kernel
theorem dX6_readTraitName_71 : decode cX6_readTraitName 71 = .ok (.iconst 1, 1) := by decide +kernel
theorem dX6_readTraitName_72 : decode cX6_readTraitName 72 = .ok (.invokevirtual 116, 3) := by decide +kernel
theorem dX6_readTraitName_75 : decode cX6_readTraitName 75 = .ok (.ireturn, 1) := by decide +kernel
theorem dX6_readNumber_0 : decode cX6_readNumber 0 = .ok (.aload_n 0, 1) := by decide +kernel
theorem dX6_readNumber_1 : decode cX6_readNumber 1 = .ok (.aload_n 0, 1) := by decide +kernel
theorem dX6_readNumber_2 : decode cX6_readNumber 2 = .ok (.invokevirtual 119, 3) := by decide +kernel
theorem dX6_readNumber_5 : decode cX6_readNumber 5 = .ok (.l2i, 1) := by decide +kernel
theorem dX6_readNumber_6 : decode cX6_readNumber 6 = .ok (.putfield 136, 3) := by decide +kernel
theorem dX6_readNumber_9 : decode cX6_readNumber 9 = .ok (.aload_n 0, 1) := by decide +kernel
theorem dX6_readNumber_10 : decode cX6_readNumber 10 = .ok (.getfield 65, 3) := by decide +kernel
theorem dX6_readNumber_13 : decode cX6_readNumber 13 = .ok (.iconst 2, 1) := by decide +kernel
theorem dX6_readNumber_14 : decode cX6_readNumber 14 = .ok (.if_icmp .ne 24, 3) := by decide +kernel
theorem dX6_readNumber_17 : decode cX6_readNumber 17 = .ok (.aload_n 0, 1) := by decide +kernel
theorem dX6_readNumber_18 : decode cX6_readNumber 18 = .ok (.getfield 136, 3) := by decide +kernel
theorem dX6_readNumber_21 : decode cX6_readNumber 21 = .ok (.iload_n 1, 1) := by decide +kernel
theorem dX6_readNumber_22 : decode cX6_readNumber 22 = .ok (.if_icmp .lt 11, 3) := by decide +kernel
theorem dX6_readNumber_25 : decode cX6_readNumber 25 = .ok (.aload_n 0, 1) := by decide +kernel
theorem dX6_readNumber_26 : decode cX6_readNumber 26 = .ok (.getfield 136, 3) := by decide +kernel
theorem dX6_readNumber_29 : decode cX6_readNumber 29 = .ok (.iload_n 2, 1) := by decide +kernel
theorem dX6_readNumber_30 : decode cX6_readNumber 30 = .ok (.if_icmp .le 8, 3) := by decide +kernel
theorem dX6_readNumber_33 : decode cX6_readNumber 33 = .ok (.aload_n 0, 1) := by decide +kernel
theorem dX6_readNumber_34 : decode cX6_readNumber 34 = .ok (.iconst 5, 1) := by decide +kernel
theorem dX6_readNumber_35 : decode cX6_readNumber 35 = .ok (.invokevirtual 190, 3) := by decide +kernel
theorem dX6_readNumber_38 : decode cX6_readNumber 38 = .ok (.aload_n 0, 1) := by decide +kernel
theorem dX6_readNumber_39 : decode cX6_readNumber 39 = .ok (.iconst 2, 1) := by decide +kernel
theorem dX6_readNumber_40 : decode cX6_readNumber 40 = .ok (.invokevirtual 116, 3) := by decide +kernel
theorem dX6_readNumber_43 : decode cX6_readNumber 43 = .ok (.ireturn, 1) := by decide +kernel
theorem dX6_readEither_0 : decode cX6_readEither 0 = .ok (.aload_n 0, 1) := by decide +kernel
theorem dX6_readEither_1 : decode cX6_readEither 1 = .ok (.iload_n 1, 1) := by decide +kernel
theorem dX6_readEither_2 : decode cX6_readEither 2 = .ok (.invokevirtual 194, 3) := by decide +kernel
theorem dX6_readEither_5 : decode cX6_readEither 5 = .ok (.ifCond .ne 5, 3) := by decide +kernel
theorem dX6_readEither_8 : decode cX6_readEither 8 = .ok (.iconst 0, 1) := by decide +kernel
theorem dX6_readEither_9 : decode cX6_readEither 9 = .ok (.ireturn, 1) := by decide +kernel
theorem dX6_readEither_10 : decode cX6_readEither 10 = .ok (.iconst 0, 1) := by decide +kernel
theorem dX6_readEither_11 : decode cX6_readEither 11 = .ok (.istore_n 3, 1) := by decide +kernel
theorem dX6_readEither_12 : decode cX6_readEither 12 = .ok (.iload_n 3, 1) := by decide +kernel
theorem dX6_readEither_13 : decode cX6_readEither 13 = .ok (.sipush 400, 3) := by decide +kernel
theorem dX6_readEither_16 : decode cX6_readEither 16 = .ok (.if_icmp .ge 44, 3) := by decide +kernel
theorem dX6_readEither_19 : decode cX6_readEither 19 = .ok (.aload_n 0, 1) := by decide +kernel
theorem dX6_readEither_20 : decode cX6_readEither 20 = .ok (.getfield 65, 3) := by decide +kernel
theorem dX6_readEither_23 : decode cX6_readEither 23 = .ok (.sipush 267, 3) := by decide +kernel
theorem dX6_readEither_26 : decode cX6_readEither 26 = .ok (.if_icmp .ne 34, 3) := by decide +kernel
theorem dX6_readEither_29 : decode cX6_readEither 29 = .ok (.aload_n 0, 1) := by decide +kernel
theorem dX6_readEither_30 : decode cX6_readEither 30 = .ok (.sipush 267, 3) := by decide +kernel
theorem dX6_readEither_33 : decode cX6_readEither 33 = .ok (.invokevirtual 116, 3) := by decide +kernel
theorem dX6_readEither_36 : decode cX6_readEither 36 = .ok (.ifCond .eq 11, 3) := by decide +kernel
theorem dX6_readEither_39 : decode cX6_readEither 39 = .ok (.aload_n 0, 1) := by decide +kernel
theorem dX6_readEither_40 : decode cX6_readEither 40 = .ok (.iload_n 1, 1) := by decide +kernel
theorem dX6_readEither_41 : decode cX6_readEither 41 = .ok (.invokevirtual 194, 3) := by decide +kernel
theorem dX6_readEither_44 : decode cX6_readEither 44 = .ok (.ifCond .ne 5, 3) := by decide +kernel
theorem dX6_readEither_47 : decode cX6_readEither 47 = .ok (.iconst 0, 1) := by decide +kernel
theorem dX6_readEither_48 : decode cX6_readEither 48 = .ok (.ireturn, 1) := by decide +kernel
theorem dX6_readEither_49 : decode cX6_readEither 49 = .ok (.aload_n 0, 1) := by decide +kernel
theorem dX6_readEither_50 : decode cX6_readEither 50 = .ok (.iconst 0, 1) := by decide +kernel
theorem dX6_readEither_51 : decode cX6_readEither 51 = .ok (.invokevirtual 197, 3) := by decide +kernel
theorem dX6_readEither_54 : decode cX6_readEither 54 = .ok (.iinc 3 1, 3) := by decide +kernel
theorem dX6_readEither_57 : decode cX6_readEither 57 = .ok (.goto (-45), 3) := by decide +kernel
theorem dX6_readEither_60 : decode cX6_readEither 60 = .ok (.aload_n 0, 1) := by decide +kernel
theorem dX6_readEither_61 : decode cX6_readEither 61 = .ok (.iload_n 2, 1) := by decide +kernel
theorem dX6_readEither_62 : decode cX6_readEither 62 = .ok (.invokevirtual 116, 3) := by decide +kernel
theorem dX6_readEither_65 : decode cX6_readEither 65 = .ok (.ireturn, 1) := by decide +kernel
theorem dX6_readBoth_0 : decode cX6_readBoth 0 = .ok (.aload_n 0, 1) := by decide +kernel
theorem dX6_readBoth_1 : decode cX6_readBoth 1 = .ok (.iload_n 1, 1) := by decide +kernel
theorem dX6_readBoth_2 : decode cX6_readBoth 2 = .ok (.invokevirtual 201, 3) := by decide +kernel
theorem dX6_readBoth_5 : decode cX6_readBoth 5 = .ok (.ifCond .ne 5, 3) := by decide +kernel
theorem dX6_readBoth_8 : decode cX6_readBoth 8 = .ok (.iconst 0, 1) := by decide +kernel
theorem dX6_readBoth_9 : decode cX6_readBoth 9 = .ok (.ireturn, 1) := by decide +kernel
theorem dX6_readBoth_10 : decode cX6_readBoth 10 = .ok (.iconst 0, 1) := by decide +kernel
theorem dX6_readBoth_11 : decode cX6_readBoth 11 = .ok (.istore_n 2, 1) := by decide +kernel
theorem dX6_readBoth_12 : decode cX6_readBoth 12 = .ok (.iload_n 2, 1) := by decide +kernel
theorem dX6_readBoth_13 : decode cX6_readBoth 13 = .ok (.sipush 400, 3) := by decide +kernel
theorem dX6_readBoth_16 : decode cX6_readBoth 16 = .ok (.if_icmp .ge 44, 3) := by decide +kernel
theorem dX6_readBoth_19 : decode cX6_readBoth 19 = .ok (.aload_n 0, 1) := by decide +kernel
theorem dX6_readBoth_20 : decode cX6_readBoth 20 = .ok (.getfield 65, 3) := by decide +kernel
theorem dX6_readBoth_23 : decode cX6_readBoth 23 = .ok (.sipush 268, 3) := by decide +kernel
theorem dX6_readBoth_26 : decode cX6_readBoth 26 = .ok (.if_icmp .ne 34, 3) := by decide +kernel
theorem dX6_readBoth_29 : decode cX6_readBoth 29 = .ok (.aload_n 0, 1) := by decide +kernel
theorem dX6_readBoth_30 : decode cX6_readBoth 30 = .ok (.sipush 268, 3) := by decide +kernel
theorem dX6_readBoth_33 : decode cX6_readBoth 33 = .ok (.invokevirtual 116, 3) := by decide +kernel
theorem dX6_readBoth_36 : decode cX6_readBoth 36 = .ok (.ifCond .eq 11, 3) := by decide +kernel
theorem dX6_readBoth_39 : decode cX6_readBoth 39 = .ok (.aload_n 0, 1) := by decide +kernel
theorem dX6_readBoth_40 : decode cX6_readBoth 40 = .ok (.iload_n 1, 1) := by decide +kernel
theorem dX6_readBoth_41 : decode cX6_readBoth 41 = .ok (.invokevirtual 201, 3) := by decide +kernel
theorem dX6_readBoth_44 : decode cX6_readBoth 44 = .ok (.ifCond .ne 5, 3) := by decide +kernel
theorem dX6_readBoth_47 : decode cX6_readBoth 47 = .ok (.iconst 0, 1) := by decide +kernel
theorem dX6_readBoth_48 : decode cX6_readBoth 48 = .ok (.ireturn, 1) := by decide +kernel
theorem dX6_readBoth_49 : decode cX6_readBoth 49 = .ok (.aload_n 0, 1) := by decide +kernel
theorem dX6_readBoth_50 : decode cX6_readBoth 50 = .ok (.iconst 1, 1) := by decide +kernel
theorem dX6_readBoth_51 : decode cX6_readBoth 51 = .ok (.invokevirtual 197, 3) := by decide +kernel
theorem dX6_readBoth_54 : decode cX6_readBoth 54 = .ok (.iinc 2 1, 3) := by decide +kernel
theorem dX6_readBoth_57 : decode cX6_readBoth 57 = .ok (.goto (-45), 3) := by decide +kernel
theorem dX6_readBoth_60 : decode cX6_readBoth 60 = .ok (.iconst 1, 1) := by decide +kernel
theorem dX6_readBoth_61 : decode cX6_readBoth 61 = .ok (.ireturn, 1) := by decide +kernel
theorem dX6_readNot_0 : decode cX6_readNot 0 = .ok (.iconst 0, 1) := by decide +kernel
theorem dX6_readNot_1 : decode cX6_readNot 1 = .ok (.istore_n 2, 1) := by decide +kernel
theorem dX6_readNot_2 : decode cX6_readNot 2 = .ok (.iconst 0, 1) := by decide +kernel
theorem dX6_readNot_3 : decode cX6_readNot 3 = .ok (.istore_n 3, 1) := by decide +kernel
theorem dX6_readNot_4 : decode cX6_readNot 4 = .ok (.iload_n 3, 1) := by decide +kernel
theorem dX6_readNot_5 : decode cX6_readNot 5 = .ok (.bipush 6, 2) := by decide +kernel
theorem dX6_readNot_7 : decode cX6_readNot 7 = .ok (.if_icmp .gt 53, 3) := by decide +kernel
theorem dX6_readNot_10 : decode cX6_readNot 10 = .ok (.aload_n 0, 1) := by decide +kernel
theorem dX6_readNot_11 : decode cX6_readNot 11 = .ok (.getfield 65, 3) := by decide +kernel
theorem dX6_readNot_14 : decode cX6_readNot 14 = .ok (.sipush 269, 3) := by decide +kernel
theorem dX6_readNot_17 : decode cX6_readNot 17 = .ok (.if_icmp .ne 43, 3) := by decide +kernel
theorem dX6_readNot_20 : decode cX6_readNot 20 = .ok (.iload_n 3, 1) := by decide +kernel
theorem dX6_readNot_21 : decode cX6_readNot 21 = .ok (.bipush 6, 2) := by decide +kernel
theorem dX6_readNot_23 : decode cX6_readNot 23 = .ok (.if_icmp .ne 9, 3) := by decide +kernel
theorem dX6_readNot_26 : decode cX6_readNot 26 = .ok (.aload_n 0, 1) := by decide +kernel
theorem dX6_readNot_27 : decode cX6_readNot 27 = .ok (.iconst 2, 1) := by decide +kernel
theorem dX6_readNot_28 : decode cX6_readNot 28 = .ok (.invokevirtual 97, 3) := by decide +kernel
theorem dX6_readNot_31 : decode cX6_readNot 31 = .ok (.ireturn, 1) := by decide +kernel
theorem dX6_readNot_32 : decode cX6_readNot 32 = .ok (.aload_n 0, 1) := by decide +kernel
theorem dX6_readNot_33 : decode cX6_readNot 33 = .ok (.sipush 269, 3) := by decide +kernel
theorem dX6_readNot_36 : decode cX6_readNot 36 = .ok (.invokevirtual 116, 3) := by decide +kernel
theorem dX6_readNot_39 : decode cX6_readNot 39 = .ok (.ifCond .ne 5, 3) := by decide +kernel
theorem dX6_readNot_42 : decode cX6_readNot 42 = .ok (.iconst 0, 1) := by decide +kernel
theorem dX6_readNot_43 : decode cX6_readNot 43 = .ok (.ireturn, 1) := by decide +kernel
theorem dX6_readNot_44 : decode cX6_readNot 44 = .ok (.iload_n 2, 1) := by decide +kernel
theorem dX6_readNot_45 : decode cX6_readNot 45 = .ok (.ifCond .ne 7, 3) := by decide +kernel
theorem dX6_readNot_48 : decode cX6_readNot 48 = .ok (.iconst 1, 1) := by decide +kernel
theorem dX6_readNot_49 : decode cX6_readNot 49 = .ok (.goto 4, 3) := by decide +kernel
theorem dX6_readNot_52 : decode cX6_readNot 52 = .ok (.iconst 0, 1) := by decide +kernel
theorem dX6_readNot_53 : decode cX6_readNot 53 = .ok (.istore_n 2, 1) := by decide +kernel
theorem dX6_readNot_54 : decode cX6_readNot 54 = .ok (.iinc 3 1, 3) := by decide +kernel
theorem dX6_readNot_57 : decode cX6_readNot 57 = .ok (.goto (-53), 3) := by decide +kernel
theorem dX6_readNot_60 : decode cX6_readNot 60 = .ok (.aload_n 0, 1) := by decide +kernel
theorem dX6_readNot_61 : decode cX6_readNot 61 = .ok (.getfield 65, 3) := by decide +kernel
theorem dX6_readNot_64 : decode cX6_readNot 64 = .ok (.bipush 40, 2) := by decide +kernel
theorem dX6_readNot_66 : decode cX6_readNot 66 = .ok (.if_icmp .ne 38, 3) := by decide +kernel
theorem dX6_readNot_69 : decode cX6_readNot 69 = .ok (.iload_n 1, 1) := by decide +kernel
theorem dX6_readNot_70 : decode cX6_readNot 70 = .ok (.bipush 6, 2) := by decide +kernel
theorem dX6_readNot_72 : decode cX6_readNot 72 = .ok (.if_icmp .lt 9, 3) := by decide +kernel
theorem dX6_readNot_75 : decode cX6_readNot 75 = .ok (.aload_n 0, 1) := by decide +kernel
theorem dX6_readNot_76 : decode cX6_readNot 76 = .ok (.iconst 2, 1) := by decide +kernel
theorem dX6_readNot_77 : decode cX6_readNot 77 = .ok (.invokevirtual 97, 3) := by decide +kernel
theorem dX6_readNot_80 : decode cX6_readNot 80 = .ok (.ireturn, 1) := by decide +kernel
theorem dX6_readNot_81 : decode cX6_readNot 81 = .ok (.aload_n 0, 1) := by decide +kernel
theorem dX6_readNot_82 : decode cX6_readNot 82 = .ok (.bipush 40, 2) := by decide +kernel
theorem dX6_readNot_84 : decode cX6_readNot 84 = .ok (.invokevirtual 116, 3) := by decide +kernel
theorem dX6_readNot_87 : decode cX6_readNot 87 = .ok (.ifCond .eq 15, 3) := by decide +kernel
theorem dX6_readNot_90 : decode cX6_readNot 90 = .ok (.aload_n 0, 1) := by decide +kernel
theorem dX6_readNot_91 : decode cX6_readNot 91 = .ok (.iload_n 1, 1) := by decide +kernel
theorem dX6_readNot_92 : decode cX6_readNot 92 = .ok (.iconst 1, 1) := by decide +kernel
theorem dX6_readNot_93 : decode cX6_readNot 93 = .ok (.iadd, 1) := by decide +kernel
theorem dX6_readNot_94 : decode cX6_readNot 94 = .ok (.bipush 41, 2) := by decide +kernel
theorem dX6_readNot_96 : decode cX6_readNot 96 = .ok (.invokevirtual 172, 3) := by decide +kernel
theorem dX6_readNot_99 : decode cX6_readNot 99 = .ok (.ifCond .ne 18, 3) := by decide +kernel
theorem dX6_readNot_102 : decode cX6_readNot 102 = .ok (.iconst 0, 1) := by decide +kernel
theorem dX6_readNot_103 : decode cX6_readNot 103 = .ok (.ireturn, 1) := by decide +kernel
theorem dX6_readNot_104 : decode cX6_readNot 104 = .ok (.aload_n 0, 1) := by decide +kernel
theorem dX6_readNot_105 : decode cX6_readNot 105 = .ok (.invokevirtual 139, 3) := by decide +kernel
theorem dX6_readNot_108 : decode cX6_readNot 108 = .ok (.ifCond .ne 5, 3) := by decide +kernel
theorem dX6_readNot_111 : decode cX6_readNot 111 = .ok (.iconst 0, 1) := by decide +kernel
theorem dX6_readNot_112 : decode cX6_readNot 112 = .ok (.ireturn, 1) := by decide +kernel
theorem dX6_readNot_113 : decode cX6_readNot 113 = .ok (.aload_n 0, 1) := by decide +kernel
theorem dX6_readNot_114 : decode cX6_readNot 114 = .ok (.invokevirtual 204, 3) := by decide +kernel
theorem dX6_readNot_117 : decode cX6_readNot 117 = .ok (.iload_n 2, 1) := by decide +kernel
theorem dX6_readNot_118 : decode cX6_readNot 118 = .ok (.ifCond .eq 7, 3) := by decide +kernel
theorem dX6_readNot_121 : decode cX6_readNot 121 = .ok (.aload_n 0, 1) := by decide +kernel
theorem dX6_readNot_122 : decode cX6_readNot 122 = .ok (.invokevirtual 207, 3) := by decide +kernel
theorem dX6_readNot_125 : decode cX6_readNot 125 = .ok (.iconst 1, 1) := by decide +kernel
theorem dX6_readNot_126 : decode cX6_readNot 126 = .ok (.ireturn, 1) := by decide +kernel
theorem dX6_pushTable_0 : decode cX6_pushTable 0 = .ok (.aload_n 0, 1) := by decide +kernel
theorem dX6_pushTable_1 : decode cX6_pushTable 1 = .ok (.getfield 169, 3) := by decide +kernel
theorem dX6_pushTable_4 : decode cX6_pushTable 4 = .ok (.bipush 15, 2) := by decide +kernel
theorem dX6_pushTable_6 : decode cX6_pushTable 6 = .ok (.if_icmp .ge 47, 3) := by decide +kernel
theorem dX6_pushTable_9 : decode cX6_pushTable 9 = .ok (.iconst 0, 1) := by decide +kernel
theorem dX6_pushTable_10 : decode cX6_pushTable 10 = .ok (.istore_n 1, 1) := by decide +kernel
theorem dX6_pushTable_11 : decode cX6_pushTable 11 = .ok (.iload_n 1, 1) := by decide +kernel
theorem dX6_pushTable_12 : decode cX6_pushTable 12 = .ok (.iconst 4, 1) := by decide +kernel
theorem dX6_pushTable_13 : decode cX6_pushTable 13 = .ok (.if_icmp .ge 30, 3) := by decide +kernel
theorem dX6_pushTable_16 : decode cX6_pushTable 16 = .ok (.aload_n 0, 1) := by decide +kernel
theorem dX6_pushTable_17 : decode cX6_pushTable 17 = .ok (.getfield 27, 3) := by decide +kernel
theorem dX6_pushTable_20 : decode cX6_pushTable 20 = .ok (.aload_n 0, 1) := by decide +kernel
theorem dX6_pushTable_21 : decode cX6_pushTable 21 = .ok (.getfield 169, 3) := by decide +kernel
theorem dX6_pushTable_24 : decode cX6_pushTable 24 = .ok (.iconst 4, 1) := by decide +kernel
theorem dX6_pushTable_25 : decode cX6_pushTable 25 = .ok (.imul, 1) := by decide +kernel
theorem dX6_pushTable_26 : decode cX6_pushTable 26 = .ok (.iload_n 1, 1) := by decide +kernel
theorem dX6_pushTable_27 : decode cX6_pushTable 27 = .ok (.iadd, 1) := by decide +kernel
theorem dX6_pushTable_28 : decode cX6_pushTable 28 = .ok (.aload_n 0, 1) := by decide +kernel
theorem dX6_pushTable_29 : decode cX6_pushTable 29 = .ok (.getfield 142, 3) := by decide +kernel
theorem dX6_pushTable_32 : decode cX6_pushTable 32 = .ok (.iload_n 1, 1) := by decide +kernel
theorem dX6_pushTable_33 : decode cX6_pushTable 33 = .ok (.invokestatic 210, 3) := by decide +kernel
theorem dX6_pushTable_36 : decode cX6_pushTable 36 = .ok (.lastore, 1) := by decide +kernel
theorem dX6_pushTable_37 : decode cX6_pushTable 37 = .ok (.iinc 1 1, 3) := by decide +kernel
theorem dX6_pushTable_40 : decode cX6_pushTable 40 = .ok (.goto (-29), 3) := by decide +kernel
theorem dX6_pushTable_43 : decode cX6_pushTable 43 = .ok (.aload_n 0, 1) := by decide +kernel
theorem dX6_pushTable_44 : decode cX6_pushTable 44 = .ok (.dup, 1) := by decide +kernel
theorem dX6_pushTable_45 : decode cX6_pushTable 45 = .ok (.getfield 169, 3) := by decide +kernel
theorem dX6_pushTable_48 : decode cX6_pushTable 48 = .ok (.iconst 1, 1) := by decide +kernel
theorem dX6_pushTable_49 : decode cX6_pushTable 49 = .ok (.iadd, 1) := by decide +kernel
theorem dX6_pushTable_50 : decode cX6_pushTable 50 = .ok (.putfield 169, 3) := by decide +kernel
theorem dX6_pushTable_53 : decode cX6_pushTable 53 = .ok (.return_, 1) := by decide +kernel
theorem dX6_turnTable_0 : decode cX6_turnTable 0 = .ok (.aload_n 0, 1) := by decide +kernel
theorem dX6_turnTable_1 : decode cX6_turnTable 1 = .ok (.getfield 169, 3) := by decide +kernel
theorem dX6_turnTable_4 : decode cX6_turnTable 4 = .ok (.iconst 1, 1) := by decide +kernel
theorem dX6_turnTable_5 : decode cX6_turnTable 5 = .ok (.if_icmp .lt 44, 3) := by decide +kernel
theorem dX6_turnTable_8 : decode cX6_turnTable 8 = .ok (.aload_n 0, 1) := by decide +kernel
theorem dX6_turnTable_9 : decode cX6_turnTable 9 = .ok (.getfield 169, 3) := by decide +kernel
theorem dX6_turnTable_12 : decode cX6_turnTable 12 = .ok (.iconst 1, 1) := by decide +kernel
theorem dX6_turnTable_13 : decode cX6_turnTable 13 = .ok (.isub, 1) := by decide +kernel
theorem dX6_turnTable_14 : decode cX6_turnTable 14 = .ok (.iconst 4, 1) := by decide +kernel
theorem dX6_turnTable_15 : decode cX6_turnTable 15 = .ok (.imul, 1) := by decide +kernel
theorem dX6_turnTable_16 : decode cX6_turnTable 16 = .ok (.istore_n 1, 1) := by decide +kernel
theorem dX6_turnTable_17 : decode cX6_turnTable 17 = .ok (.iload_n 1, 1) := by decide +kernel
theorem dX6_turnTable_18 : decode cX6_turnTable 18 = .ok (.aload_n 0, 1) := by decide +kernel
theorem dX6_turnTable_19 : decode cX6_turnTable 19 = .ok (.getfield 169, 3) := by decide +kernel
theorem dX6_turnTable_22 : decode cX6_turnTable 22 = .ok (.iconst 4, 1) := by decide +kernel
theorem dX6_turnTable_23 : decode cX6_turnTable 23 = .ok (.imul, 1) := by decide +kernel
theorem dX6_turnTable_24 : decode cX6_turnTable 24 = .ok (.if_icmp .ge 25, 3) := by decide +kernel
theorem dX6_turnTable_27 : decode cX6_turnTable 27 = .ok (.aload_n 0, 1) := by decide +kernel
theorem dX6_turnTable_28 : decode cX6_turnTable 28 = .ok (.getfield 27, 3) := by decide +kernel
theorem dX6_turnTable_31 : decode cX6_turnTable 31 = .ok (.iload_n 1, 1) := by decide +kernel
theorem dX6_turnTable_32 : decode cX6_turnTable 32 = .ok (.aload_n 0, 1) := by decide +kernel
theorem dX6_turnTable_33 : decode cX6_turnTable 33 = .ok (.getfield 27, 3) := by decide +kernel
theorem dX6_turnTable_36 : decode cX6_turnTable 36 = .ok (.iload_n 1, 1) := by decide +kernel
theorem dX6_turnTable_37 : decode cX6_turnTable 37 = .ok (.laload, 1) := by decide +kernel
theorem dX6_turnTable_38 : decode cX6_turnTable 38 = .ok (.ldc2_w 214, 3) := by decide +kernel
theorem dX6_turnTable_41 : decode cX6_turnTable 41 = .ok (.lxor, 1) := by decide +kernel
theorem dX6_turnTable_42 : decode cX6_turnTable 42 = .ok (.lastore, 1) := by decide +kernel
theorem dX6_turnTable_43 : decode cX6_turnTable 43 = .ok (.iinc 1 1, 3) := by decide +kernel
theorem dX6_turnTable_46 : decode cX6_turnTable 46 = .ok (.goto (-29), 3) := by decide +kernel
theorem dX6_turnTable_49 : decode cX6_turnTable 49 = .ok (.return_, 1) := by decide +kernel
theorem dX6_joinTables_0 : decode cX6_joinTables 0 = .ok (.aload_n 0, 1) := by decide +kernel
theorem dX6_joinTables_1 : decode cX6_joinTables 1 = .ok (.getfield 169, 3) := by decide +kernel
theorem dX6_joinTables_4 : decode cX6_joinTables 4 = .ok (.iconst 2, 1) := by decide +kernel
theorem dX6_joinTables_5 : decode cX6_joinTables 5 = .ok (.if_icmp .lt 76, 3) := by decide +kernel
theorem dX6_joinTables_8 : decode cX6_joinTables 8 = .ok (.aload_n 0, 1) := by decide +kernel
theorem dX6_joinTables_9 : decode cX6_joinTables 9 = .ok (.dup, 1) := by decide +kernel
theorem dX6_joinTables_10 : decode cX6_joinTables 10 = .ok (.getfield 169, 3) := by decide +kernel
theorem dX6_joinTables_13 : decode cX6_joinTables 13 = .ok (.iconst 1, 1) := by decide +kernel
theorem dX6_joinTables_14 : decode cX6_joinTables 14 = .ok (.isub, 1) := by decide +kernel
theorem dX6_joinTables_15 : decode cX6_joinTables 15 = .ok (.putfield 169, 3) := by decide +kernel
theorem dX6_joinTables_18 : decode cX6_joinTables 18 = .ok (.aload_n 0, 1) := by decide +kernel
theorem dX6_joinTables_19 : decode cX6_joinTables 19 = .ok (.getfield 169, 3) := by decide +kernel
theorem dX6_joinTables_22 : decode cX6_joinTables 22 = .ok (.iconst 1, 1) := by decide +kernel
theorem dX6_joinTables_23 : decode cX6_joinTables 23 = .ok (.isub, 1) := by decide +kernel
theorem dX6_joinTables_24 : decode cX6_joinTables 24 = .ok (.iconst 4, 1) := by decide +kernel
theorem dX6_joinTables_25 : decode cX6_joinTables 25 = .ok (.imul, 1) := by decide +kernel
theorem dX6_joinTables_26 : decode cX6_joinTables 26 = .ok (.istore_n 2, 1) := by decide +kernel
theorem dX6_joinTables_27 : decode cX6_joinTables 27 = .ok (.iload_n 2, 1) := by decide +kernel
theorem dX6_joinTables_28 : decode cX6_joinTables 28 = .ok (.aload_n 0, 1) := by decide +kernel
theorem dX6_joinTables_29 : decode cX6_joinTables 29 = .ok (.getfield 169, 3) := by decide +kernel
theorem dX6_joinTables_32 : decode cX6_joinTables 32 = .ok (.iconst 4, 1) := by decide +kernel
theorem dX6_joinTables_33 : decode cX6_joinTables 33 = .ok (.imul, 1) := by decide +kernel
theorem dX6_joinTables_34 : decode cX6_joinTables 34 = .ok (.if_icmp .ge 47, 3) := by decide +kernel
theorem dX6_joinTables_37 : decode cX6_joinTables 37 = .ok (.aload_n 0, 1) := by decide +kernel
theorem dX6_joinTables_38 : decode cX6_joinTables 38 = .ok (.getfield 27, 3) := by decide +kernel
theorem dX6_joinTables_41 : decode cX6_joinTables 41 = .ok (.iload_n 2, 1) := by decide +kernel
theorem dX6_joinTables_42 : decode cX6_joinTables 42 = .ok (.iconst 4, 1) := by decide +kernel
theorem dX6_joinTables_43 : decode cX6_joinTables 43 = .ok (.iadd, 1) := by decide +kernel
theorem dX6_joinTables_44 : decode cX6_joinTables 44 = .ok (.laload, 1) := by decide +kernel
theorem dX6_joinTables_45 : decode cX6_joinTables 45 = .ok (.lstore_n 3, 1) := by decide +kernel
theorem dX6_joinTables_46 : decode cX6_joinTables 46 = .ok (.aload_n 0, 1) := by decide +kernel
theorem dX6_joinTables_47 : decode cX6_joinTables 47 = .ok (.getfield 27, 3) := by decide +kernel
theorem dX6_joinTables_50 : decode cX6_joinTables 50 = .ok (.iload_n 2, 1) := by decide +kernel
theorem dX6_joinTables_51 : decode cX6_joinTables 51 = .ok (.iload_n 1, 1) := by decide +kernel
theorem dX6_joinTables_52 : decode cX6_joinTables 52 = .ok (.ifCond .eq 14, 3) := by decide +kernel
theorem dX6_joinTables_55 : decode cX6_joinTables 55 = .ok (.aload_n 0, 1) := by decide +kernel
theorem dX6_joinTables_56 : decode cX6_joinTables 56 = .ok (.getfield 27, 3) := by decide +kernel
theorem dX6_joinTables_59 : decode cX6_joinTables 59 = .ok (.iload_n 2, 1) := by decide +kernel
theorem dX6_joinTables_60 : decode cX6_joinTables 60 = .ok (.laload, 1) := by decide +kernel
theorem dX6_joinTables_61 : decode cX6_joinTables 61 = .ok (.lload_n 3, 1) := by decide +kernel
theorem dX6_joinTables_62 : decode cX6_joinTables 62 = .ok (.land, 1) := by decide +kernel
theorem dX6_joinTables_63 : decode cX6_joinTables 63 = .ok (.goto 11, 3) := by decide +kernel
theorem dX6_joinTables_66 : decode cX6_joinTables 66 = .ok (.aload_n 0, 1) := by decide +kernel
theorem dX6_joinTables_67 : decode cX6_joinTables 67 = .ok (.getfield 27, 3) := by decide +kernel
theorem dX6_joinTables_70 : decode cX6_joinTables 70 = .ok (.iload_n 2, 1) := by decide +kernel
theorem dX6_joinTables_71 : decode cX6_joinTables 71 = .ok (.laload, 1) := by decide +kernel
theorem dX6_joinTables_72 : decode cX6_joinTables 72 = .ok (.lload_n 3, 1) := by decide +kernel
theorem dX6_joinTables_73 : decode cX6_joinTables 73 = .ok (.lor, 1) := by decide +kernel
theorem dX6_joinTables_74 : decode cX6_joinTables 74 = .ok (.lastore, 1) := by decide +kernel
theorem dX6_joinTables_75 : decode cX6_joinTables 75 = .ok (.iinc 2 1, 3) := by decide +kernel
theorem dX6_joinTables_78 : decode cX6_joinTables 78 = .ok (.goto (-51), 3) := by decide +kernel
theorem dX6_joinTables_81 : decode cX6_joinTables 81 = .ok (.return_, 1) := by decide +kernel
theorem dX6_readLaw_0 : decode cX6_readLaw 0 = .ok (.aload_n 0, 1) := by decide +kernel
theorem dX6_readLaw_1 : decode cX6_readLaw 1 = .ok (.aload_n 0, 1) := by decide +kernel
theorem dX6_readLaw_2 : decode cX6_readLaw 2 = .ok (.getfield 65, 3) := by decide +kernel
theorem dX6_readLaw_5 : decode cX6_readLaw 5 = .ok (.invokevirtual 116, 3) := by decide +kernel
theorem dX6_readLaw_8 : decode cX6_readLaw 8 = .ok (.ifCond .eq 12, 3) := by decide +kernel
theorem dX6_readLaw_11 : decode cX6_readLaw 11 = .ok (.aload_n 0, 1) := by decide +kernel
theorem dX6_readLaw_12 : decode cX6_readLaw 12 = .ok (.bipush 61, 2) := by decide +kernel
theorem dX6_readLaw_14 : decode cX6_readLaw 14 = .ok (.invokevirtual 116, 3) := by decide +kernel
theorem dX6_readLaw_17 : decode cX6_readLaw 17 = .ok (.ifCond .ne 5, 3) := by decide +kernel
theorem dX6_readLaw_20 : decode cX6_readLaw 20 = .ok (.iconst 0, 1) := by decide +kernel
theorem dX6_readLaw_21 : decode cX6_readLaw 21 = .ok (.ireturn, 1) := by decide +kernel
theorem dX6_readLaw_22 : decode cX6_readLaw 22 = .ok (.aload_n 0, 1) := by decide +kernel
theorem dX6_readLaw_23 : decode cX6_readLaw 23 = .ok (.aload_n 1, 1) := by decide +kernel
theorem dX6_readLaw_24 : decode cX6_readLaw 24 = .ok (.putfield 39, 3) := by decide +kernel
theorem dX6_readLaw_27 : decode cX6_readLaw 27 = .ok (.aload_n 0, 1) := by decide +kernel
theorem dX6_readLaw_28 : decode cX6_readLaw 28 = .ok (.getfield 39, 3) := by decide +kernel
theorem dX6_readLaw_31 : decode cX6_readLaw 31 = .ok (.invokevirtual 216, 3) := by decide +kernel
theorem dX6_readLaw_34 : decode cX6_readLaw 34 = .ok (.iconst 0, 1) := by decide +kernel
theorem dX6_readLaw_35 : decode cX6_readLaw 35 = .ok (.istore_n 2, 1) := by decide +kernel
theorem dX6_readLaw_36 : decode cX6_readLaw 36 = .ok (.iload_n 2, 1) := by decide +kernel
theorem dX6_readLaw_37 : decode cX6_readLaw 37 = .ok (.iconst 4, 1) := by decide +kernel
theorem dX6_readLaw_38 : decode cX6_readLaw 38 = .ok (.if_icmp .gt 74, 3) := by decide +kernel
theorem dX6_readLaw_41 : decode cX6_readLaw 41 = .ok (.aload_n 0, 1) := by decide +kernel
theorem dX6_readLaw_42 : decode cX6_readLaw 42 = .ok (.getfield 65, 3) := by decide +kernel
theorem dX6_readLaw_45 : decode cX6_readLaw 45 = .ok (.sipush 270, 3) := by decide +kernel
theorem dX6_readLaw_48 : decode cX6_readLaw 48 = .ok (.if_icmp .ne 64, 3) := by decide +kernel
theorem dX6_readLaw_51 : decode cX6_readLaw 51 = .ok (.iload_n 2, 1) := by decide +kernel
theorem dX6_readLaw_52 : decode cX6_readLaw 52 = .ok (.iconst 4, 1) := by decide +kernel
theorem dX6_readLaw_53 : decode cX6_readLaw 53 = .ok (.if_icmp .ne 9, 3) := by decide +kernel
theorem dX6_readLaw_56 : decode cX6_readLaw 56 = .ok (.aload_n 0, 1) := by decide +kernel
theorem dX6_readLaw_57 : decode cX6_readLaw 57 = .ok (.iconst 2, 1) := by decide +kernel
theorem dX6_readLaw_58 : decode cX6_readLaw 58 = .ok (.invokevirtual 97, 3) := by decide +kernel
theorem dX6_readLaw_61 : decode cX6_readLaw 61 = .ok (.ireturn, 1) := by decide +kernel
theorem dX6_readLaw_62 : decode cX6_readLaw 62 = .ok (.aload_n 0, 1) := by decide +kernel
theorem dX6_readLaw_63 : decode cX6_readLaw 63 = .ok (.sipush 270, 3) := by decide +kernel
theorem dX6_readLaw_66 : decode cX6_readLaw 66 = .ok (.invokevirtual 116, 3) := by decide +kernel
theorem dX6_readLaw_69 : decode cX6_readLaw 69 = .ok (.ifCond .eq 35, 3) := by decide +kernel
theorem dX6_readLaw_72 : decode cX6_readLaw 72 = .ok (.aload_n 0, 1) := by decide +kernel
theorem dX6_readLaw_73 : decode cX6_readLaw 73 = .ok (.iconst 0, 1) := by decide +kernel
theorem dX6_readLaw_74 : decode cX6_readLaw 74 = .ok (.bipush 60, 2) := by decide +kernel
theorem dX6_readLaw_76 : decode cX6_readLaw 76 = .ok (.invokevirtual 219, 3) := by decide +kernel
theorem dX6_readLaw_79 : decode cX6_readLaw 79 = .ok (.ifCond .eq 25, 3) := by decide +kernel
theorem dX6_readLaw_82 : decode cX6_readLaw 82 = .ok (.aload_n 0, 1) := by decide +kernel
theorem dX6_readLaw_83 : decode cX6_readLaw 83 = .ok (.iconst 0, 1) := by decide +kernel
theorem dX6_readLaw_84 : decode cX6_readLaw 84 = .ok (.sipush 271, 3) := by decide +kernel
theorem dX6_readLaw_87 : decode cX6_readLaw 87 = .ok (.invokevirtual 219, 3) := by decide +kernel
theorem dX6_readLaw_90 : decode cX6_readLaw 90 = .ok (.ifCond .eq 14, 3) := by decide +kernel
theorem dX6_readLaw_93 : decode cX6_readLaw 93 = .ok (.aload_n 0, 1) := by decide +kernel
theorem dX6_readLaw_94 : decode cX6_readLaw 94 = .ok (.iconst 0, 1) := by decide +kernel
theorem dX6_readLaw_95 : decode cX6_readLaw 95 = .ok (.sipush 272, 3) := by decide +kernel
theorem dX6_readLaw_98 : decode cX6_readLaw 98 = .ok (.invokevirtual 219, 3) := by decide +kernel
theorem dX6_readLaw_101 : decode cX6_readLaw 101 = .ok (.ifCond .ne 5, 3) := by decide +kernel
theorem dX6_readLaw_104 : decode cX6_readLaw 104 = .ok (.iconst 0, 1) := by decide +kernel
theorem dX6_readLaw_105 : decode cX6_readLaw 105 = .ok (.ireturn, 1) := by decide +kernel
theorem dX6_readLaw_106 : decode cX6_readLaw 106 = .ok (.iinc 2 1, 3) := by decide +kernel
theorem dX6_readLaw_109 : decode cX6_readLaw 109 = .ok (.goto (-73), 3) := by decide +kernel
theorem dX6_readLaw_112 : decode cX6_readLaw 112 = .ok (.aload_n 0, 1) := by decide +kernel
theorem dX6_readLaw_113 : decode cX6_readLaw 113 = .ok (.iconst 0, 1) := by decide +kernel
theorem dX6_readLaw_114 : decode cX6_readLaw 114 = .ok (.bipush 59, 2) := by decide +kernel
theorem dX6_readLaw_116 : decode cX6_readLaw 116 = .ok (.invokevirtual 219, 3) := by decide +kernel
theorem dX6_readLaw_119 : decode cX6_readLaw 119 = .ok (.ireturn, 1) := by decide +kernel
theorem dX6_readSum_0 : decode cX6_readSum 0 = .ok (.aload_n 0, 1) := by decide +kernel
theorem dX6_readSum_1 : decode cX6_readSum 1 = .ok (.iload_n 1, 1) := by decide +kernel
theorem dX6_readSum_2 : decode cX6_readSum 2 = .ok (.invokevirtual 222, 3) := by decide +kernel
theorem dX6_readSum_5 : decode cX6_readSum 5 = .ok (.ifCond .ne 5, 3) := by decide +kernel
theorem dX6_readSum_8 : decode cX6_readSum 8 = .ok (.iconst 0, 1) := by decide +kernel
theorem dX6_readSum_9 : decode cX6_readSum 9 = .ok (.ireturn, 1) := by decide +kernel
theorem dX6_readSum_10 : decode cX6_readSum 10 = .ok (.iconst 0, 1) := by decide +kernel
theorem dX6_readSum_11 : decode cX6_readSum 11 = .ok (.istore_n 3, 1) := by decide +kernel
theorem dX6_readSum_12 : decode cX6_readSum 12 = .ok (.iload_n 3, 1) := by decide +kernel
theorem dX6_readSum_13 : decode cX6_readSum 13 = .ok (.sipush 400, 3) := by decide +kernel
theorem dX6_readSum_16 : decode cX6_readSum 16 = .ok (.if_icmp .ge 75, 3) := by decide +kernel
theorem dX6_readSum_19 : decode cX6_readSum 19 = .ok (.aload_n 0, 1) := by decide +kernel
theorem dX6_readSum_20 : decode cX6_readSum 20 = .ok (.getfield 65, 3) := by decide +kernel
theorem dX6_readSum_23 : decode cX6_readSum 23 = .ok (.bipush 43, 2) := by decide +kernel
theorem dX6_readSum_25 : decode cX6_readSum 25 = .ok (.if_icmp .eq 12, 3) := by decide +kernel
theorem dX6_readSum_28 : decode cX6_readSum 28 = .ok (.aload_n 0, 1) := by decide +kernel
theorem dX6_readSum_29 : decode cX6_readSum 29 = .ok (.getfield 65, 3) := by decide +kernel
theorem dX6_readSum_32 : decode cX6_readSum 32 = .ok (.bipush 45, 2) := by decide +kernel
theorem dX6_readSum_34 : decode cX6_readSum 34 = .ok (.if_icmp .ne 57, 3) := by decide +kernel
theorem dX6_readSum_37 : decode cX6_readSum 37 = .ok (.aload_n 0, 1) := by decide +kernel
theorem dX6_readSum_38 : decode cX6_readSum 38 = .ok (.getfield 65, 3) := by decide +kernel
theorem dX6_readSum_41 : decode cX6_readSum 41 = .ok (.bipush 43, 2) := by decide +kernel
theorem dX6_readSum_43 : decode cX6_readSum 43 = .ok (.if_icmp .ne 8, 3) := by decide +kernel
theorem dX6_readSum_46 : decode cX6_readSum 46 = .ok (.bipush (-11), 2) := by decide +kernel
theorem dX6_readSum_48 : decode cX6_readSum 48 = .ok (.goto 5, 3) := by decide +kernel
theorem dX6_readSum_51 : decode cX6_readSum 51 = .ok (.bipush (-12), 2) := by decide +kernel
theorem dX6_readSum_53 : decode cX6_readSum 53 = .ok (.istore 4, 2) := by decide +kernel
theorem dX6_readSum_55 : decode cX6_readSum 55 = .ok (.aload_n 0, 1) := by decide +kernel
theorem dX6_readSum_56 : decode cX6_readSum 56 = .ok (.aload_n 0, 1) := by decide +kernel
theorem dX6_readSum_57 : decode cX6_readSum 57 = .ok (.getfield 65, 3) := by decide +kernel
theorem dX6_readSum_60 : decode cX6_readSum 60 = .ok (.invokevirtual 116, 3) := by decide +kernel
theorem dX6_readSum_63 : decode cX6_readSum 63 = .ok (.ifCond .eq 11, 3) := by decide +kernel
theorem dX6_readSum_66 : decode cX6_readSum 66 = .ok (.aload_n 0, 1) := by decide +kernel
theorem dX6_readSum_67 : decode cX6_readSum 67 = .ok (.iload_n 1, 1) := by decide +kernel
theorem dX6_readSum_68 : decode cX6_readSum 68 = .ok (.invokevirtual 222, 3) := by decide +kernel
theorem dX6_readSum_71 : decode cX6_readSum 71 = .ok (.ifCond .ne 5, 3) := by decide +kernel
theorem dX6_readSum_74 : decode cX6_readSum 74 = .ok (.iconst 0, 1) := by decide +kernel
theorem dX6_readSum_75 : decode cX6_readSum 75 = .ok (.ireturn, 1) := by decide +kernel
theorem dX6_readSum_76 : decode cX6_readSum 76 = .ok (.aload_n 0, 1) := by decide +kernel
theorem dX6_readSum_77 : decode cX6_readSum 77 = .ok (.getfield 39, 3) := by decide +kernel
theorem dX6_readSum_80 : decode cX6_readSum 80 = .ok (.iload 4, 2) := by decide +kernel
theorem dX6_readSum_82 : decode cX6_readSum 82 = .ok (.invokevirtual 225, 3) := by decide +kernel
theorem dX6_readSum_85 : decode cX6_readSum 85 = .ok (.iinc 3 1, 3) := by decide +kernel
theorem dX6_readSum_88 : decode cX6_readSum 88 = .ok (.goto (-76), 3) := by decide +kernel
theorem dX6_readSum_91 : decode cX6_readSum 91 = .ok (.iload_n 1, 1) := by decide +kernel
theorem dX6_readSum_92 : decode cX6_readSum 92 = .ok (.ifCond .ne 10, 3) := by decide +kernel
theorem dX6_readSum_95 : decode cX6_readSum 95 = .ok (.aload_n 0, 1) := by decide +kernel
theorem dX6_readSum_96 : decode cX6_readSum 96 = .ok (.getfield 39, 3) := by decide +kernel
theorem dX6_readSum_99 : decode cX6_readSum 99 = .ok (.invokevirtual 228, 3) := by decide +kernel
theorem dX6_readSum_102 : decode cX6_readSum 102 = .ok (.aload_n 0, 1) := by decide +kernel
theorem dX6_readSum_103 : decode cX6_readSum 103 = .ok (.iload_n 2, 1) := by decide +kernel
theorem dX6_readSum_104 : decode cX6_readSum 104 = .ok (.invokevirtual 116, 3) := by decide +kernel
theorem dX6_readSum_107 : decode cX6_readSum 107 = .ok (.ireturn, 1) := by decide +kernel
theorem dX6_readProduct_0 : decode cX6_readProduct 0 = .ok (.aload_n 0, 1) := by decide +kernel
theorem dX6_readProduct_1 : decode cX6_readProduct 1 = .ok (.iload_n 1, 1) := by decide +kernel
theorem dX6_readProduct_2 : decode cX6_readProduct 2 = .ok (.invokevirtual 231, 3) := by decide +kernel
theorem dX6_readProduct_5 : decode cX6_readProduct 5 = .ok (.ifCond .ne 5, 3) := by decide +kernel
theorem dX6_readProduct_8 : decode cX6_readProduct 8 = .ok (.iconst 0, 1) := by decide +kernel
theorem dX6_readProduct_9 : decode cX6_readProduct 9 = .ok (.ireturn, 1) := by decide +kernel
theorem dX6_readProduct_10 : decode cX6_readProduct 10 = .ok (.iconst 0, 1) := by decide +kernel
theorem dX6_readProduct_11 : decode cX6_readProduct 11 = .ok (.istore_n 2, 1) := by decide +kernel
theorem dX6_readProduct_12 : decode cX6_readProduct 12 = .ok (.iload_n 2, 1) := by decide +kernel
theorem dX6_readProduct_13 : decode cX6_readProduct 13 = .ok (.sipush 400, 3) := by decide +kernel
theorem dX6_readProduct_16 : decode cX6_readProduct 16 = .ok (.if_icmp .ge 73, 3) := by decide +kernel
theorem dX6_readProduct_19 : decode cX6_readProduct 19 = .ok (.aload_n 0, 1) := by decide +kernel
theorem dX6_readProduct_20 : decode cX6_readProduct 20 = .ok (.getfield 65, 3) := by decide +kernel
theorem dX6_readProduct_23 : decode cX6_readProduct 23 = .ok (.bipush 42, 2) := by decide +kernel
theorem dX6_readProduct_25 : decode cX6_readProduct 25 = .ok (.if_icmp .eq 12, 3) := by decide +kernel
theorem dX6_readProduct_28 : decode cX6_readProduct 28 = .ok (.aload_n 0, 1) := by decide +kernel
theorem dX6_readProduct_29 : decode cX6_readProduct 29 = .ok (.getfield 65, 3) := by decide +kernel
theorem dX6_readProduct_32 : decode cX6_readProduct 32 = .ok (.bipush 47, 2) := by decide +kernel
theorem dX6_readProduct_34 : decode cX6_readProduct 34 = .ok (.if_icmp .ne 55, 3) := by decide +kernel
theorem dX6_readProduct_37 : decode cX6_readProduct 37 = .ok (.aload_n 0, 1) := by decide +kernel
theorem dX6_readProduct_38 : decode cX6_readProduct 38 = .ok (.getfield 65, 3) := by decide +kernel
theorem dX6_readProduct_41 : decode cX6_readProduct 41 = .ok (.bipush 42, 2) := by decide +kernel
theorem dX6_readProduct_43 : decode cX6_readProduct 43 = .ok (.if_icmp .ne 8, 3) := by decide +kernel
theorem dX6_readProduct_46 : decode cX6_readProduct 46 = .ok (.bipush (-13), 2) := by decide +kernel
theorem dX6_readProduct_48 : decode cX6_readProduct 48 = .ok (.goto 5, 3) := by decide +kernel
theorem dX6_readProduct_51 : decode cX6_readProduct 51 = .ok (.bipush (-14), 2) := by decide +kernel
theorem dX6_readProduct_53 : decode cX6_readProduct 53 = .ok (.istore_n 3, 1) := by decide +kernel
theorem dX6_readProduct_54 : decode cX6_readProduct 54 = .ok (.aload_n 0, 1) := by decide +kernel
theorem dX6_readProduct_55 : decode cX6_readProduct 55 = .ok (.aload_n 0, 1) := by decide +kernel
theorem dX6_readProduct_56 : decode cX6_readProduct 56 = .ok (.getfield 65, 3) := by decide +kernel
theorem dX6_readProduct_59 : decode cX6_readProduct 59 = .ok (.invokevirtual 116, 3) := by decide +kernel
theorem dX6_readProduct_62 : decode cX6_readProduct 62 = .ok (.ifCond .eq 11, 3) := by decide +kernel
theorem dX6_readProduct_65 : decode cX6_readProduct 65 = .ok (.aload_n 0, 1) := by decide +kernel
theorem dX6_readProduct_66 : decode cX6_readProduct 66 = .ok (.iload_n 1, 1) := by decide +kernel
theorem dX6_readProduct_67 : decode cX6_readProduct 67 = .ok (.invokevirtual 231, 3) := by decide +kernel
theorem dX6_readProduct_70 : decode cX6_readProduct 70 = .ok (.ifCond .ne 5, 3) := by decide +kernel
theorem dX6_readProduct_73 : decode cX6_readProduct 73 = .ok (.iconst 0, 1) := by decide +kernel
theorem dX6_readProduct_74 : decode cX6_readProduct 74 = .ok (.ireturn, 1) := by decide +kernel
theorem dX6_readProduct_75 : decode cX6_readProduct 75 = .ok (.aload_n 0, 1) := by decide +kernel
theorem dX6_readProduct_76 : decode cX6_readProduct 76 = .ok (.getfield 39, 3) := by decide +kernel
theorem dX6_readProduct_79 : decode cX6_readProduct 79 = .ok (.iload_n 3, 1) := by decide +kernel
theorem dX6_readProduct_80 : decode cX6_readProduct 80 = .ok (.invokevirtual 225, 3) := by decide +kernel
theorem dX6_readProduct_83 : decode cX6_readProduct 83 = .ok (.iinc 2 1, 3) := by decide +kernel
theorem dX6_readProduct_86 : decode cX6_readProduct 86 = .ok (.goto (-74), 3) := by decide +kernel
theorem dX6_readProduct_89 : decode cX6_readProduct 89 = .ok (.iconst 1, 1) := by decide +kernel
theorem dX6_readProduct_90 : decode cX6_readProduct 90 = .ok (.ireturn, 1) := by decide +kernel
theorem dX6_readUnit_0 : decode cX6_readUnit 0 = .ok (.aload_n 0, 1) := by decide +kernel
theorem dX6_readUnit_1 : decode cX6_readUnit 1 = .ok (.getfield 65, 3) := by decide +kernel
theorem dX6_readUnit_4 : decode cX6_readUnit 4 = .ok (.bipush 40, 2) := by decide +kernel
theorem dX6_readUnit_6 : decode cX6_readUnit 6 = .ok (.if_icmp .ne 42, 3) := by decide +kernel
theorem dX6_readUnit_9 : decode cX6_readUnit 9 = .ok (.iload_n 1, 1) := by decide +kernel
theorem dX6_readUnit_10 : decode cX6_readUnit 10 = .ok (.bipush 6, 2) := by decide +kernel
theorem dX6_readUnit_12 : decode cX6_readUnit 12 = .ok (.if_icmp .lt 9, 3) := by decide +kernel
theorem dX6_readUnit_15 : decode cX6_readUnit 15 = .ok (.aload_n 0, 1) := by decide +kernel
theorem dX6_readUnit_16 : decode cX6_readUnit 16 = .ok (.iconst 2, 1) := by decide +kernel
theorem dX6_readUnit_17 : decode cX6_readUnit 17 = .ok (.invokevirtual 97, 3) := by decide +kernel
theorem dX6_readUnit_20 : decode cX6_readUnit 20 = .ok (.ireturn, 1) := by decide +kernel
theorem dX6_readUnit_21 : decode cX6_readUnit 21 = .ok (.aload_n 0, 1) := by decide +kernel
theorem dX6_readUnit_22 : decode cX6_readUnit 22 = .ok (.bipush 40, 2) := by decide +kernel
theorem dX6_readUnit_24 : decode cX6_readUnit 24 = .ok (.invokevirtual 116, 3) := by decide +kernel
theorem dX6_readUnit_27 : decode cX6_readUnit 27 = .ok (.ifCond .eq 19, 3) := by decide +kernel
theorem dX6_readUnit_30 : decode cX6_readUnit 30 = .ok (.aload_n 0, 1) := by decide +kernel
theorem dX6_readUnit_31 : decode cX6_readUnit 31 = .ok (.iload_n 1, 1) := by decide +kernel
theorem dX6_readUnit_32 : decode cX6_readUnit 32 = .ok (.iconst 1, 1) := by decide +kernel
theorem dX6_readUnit_33 : decode cX6_readUnit 33 = .ok (.iadd, 1) := by decide +kernel
theorem dX6_readUnit_34 : decode cX6_readUnit 34 = .ok (.bipush 41, 2) := by decide +kernel
theorem dX6_readUnit_36 : decode cX6_readUnit 36 = .ok (.invokevirtual 219, 3) := by decide +kernel
theorem dX6_readUnit_39 : decode cX6_readUnit 39 = .ok (.ifCond .eq 7, 3) := by decide +kernel
theorem dX6_readUnit_42 : decode cX6_readUnit 42 = .ok (.iconst 1, 1) := by decide +kernel
theorem dX6_readUnit_43 : decode cX6_readUnit 43 = .ok (.goto 4, 3) := by decide +kernel
theorem dX6_readUnit_46 : decode cX6_readUnit 46 = .ok (.iconst 0, 1) := by decide +kernel
theorem dX6_readUnit_47 : decode cX6_readUnit 47 = .ok (.ireturn, 1) := by decide +kernel
theorem dX6_readUnit_48 : decode cX6_readUnit 48 = .ok (.aload_n 0, 1) := by decide +kernel
theorem dX6_readUnit_49 : decode cX6_readUnit 49 = .ok (.getfield 65, 3) := by decide +kernel
theorem dX6_readUnit_52 : decode cX6_readUnit 52 = .ok (.iconst 2, 1) := by decide +kernel
theorem dX6_readUnit_53 : decode cX6_readUnit 53 = .ok (.if_icmp .ne 21, 3) := by decide +kernel
theorem dX6_readUnit_56 : decode cX6_readUnit 56 = .ok (.aload_n 0, 1) := by decide +kernel
theorem dX6_readUnit_57 : decode cX6_readUnit 57 = .ok (.getfield 39, 3) := by decide +kernel
theorem dX6_readUnit_60 : decode cX6_readUnit 60 = .ok (.aload_n 0, 1) := by decide +kernel
theorem dX6_readUnit_61 : decode cX6_readUnit 61 = .ok (.invokevirtual 119, 3) := by decide +kernel
theorem dX6_readUnit_64 : decode cX6_readUnit 64 = .ok (.l2i, 1) := by decide +kernel
theorem dX6_readUnit_65 : decode cX6_readUnit 65 = .ok (.invokevirtual 225, 3) := by decide +kernel
theorem dX6_readUnit_68 : decode cX6_readUnit 68 = .ok (.aload_n 0, 1) := by decide +kernel
theorem dX6_readUnit_69 : decode cX6_readUnit 69 = .ok (.iconst 2, 1) := by decide +kernel
theorem dX6_readUnit_70 : decode cX6_readUnit 70 = .ok (.invokevirtual 116, 3) := by decide +kernel
theorem dX6_readUnit_73 : decode cX6_readUnit 73 = .ok (.ireturn, 1) := by decide +kernel
theorem dX6_readUnit_74 : decode cX6_readUnit 74 = .ok (.aload_n 0, 1) := by decide +kernel
theorem dX6_readUnit_75 : decode cX6_readUnit 75 = .ok (.getfield 65, 3) := by decide +kernel
theorem dX6_readUnit_78 : decode cX6_readUnit 78 = .ok (.sipush 273, 3) := by decide +kernel
theorem dX6_readUnit_81 : decode cX6_readUnit 81 = .ok (.if_icmp .ge 9, 3) := by decide +kernel
theorem dX6_readUnit_84 : decode cX6_readUnit 84 = .ok (.aload_n 0, 1) := by decide +kernel
theorem dX6_readUnit_85 : decode cX6_readUnit 85 = .ok (.iconst 1, 1) := by decide +kernel
theorem dX6_readUnit_86 : decode cX6_readUnit 86 = .ok (.invokevirtual 97, 3) := by decide +kernel
theorem dX6_readUnit_89 : decode cX6_readUnit 89 = .ok (.ireturn, 1) := by decide +kernel
theorem dX6_readUnit_90 : decode cX6_readUnit 90 = .ok (.aload_n 0, 1) := by decide +kernel
theorem dX6_readUnit_91 : decode cX6_readUnit 91 = .ok (.getfield 39, 3) := by decide +kernel
theorem dX6_readUnit_94 : decode cX6_readUnit 94 = .ok (.iconst (-1), 1) := by decide +kernel
theorem dX6_readUnit_95 : decode cX6_readUnit 95 = .ok (.aload_n 0, 1) := by decide +kernel
theorem dX6_readUnit_96 : decode cX6_readUnit 96 = .ok (.getfield 65, 3) := by decide +kernel
theorem dX6_readUnit_99 : decode cX6_readUnit 99 = .ok (.sipush 273, 3) := by decide +kernel
theorem dX6_readUnit_102 : decode cX6_readUnit 102 = .ok (.isub, 1) := by decide +kernel
theorem dX6_readUnit_103 : decode cX6_readUnit 103 = .ok (.isub, 1) := by decide +kernel
theorem dX6_readUnit_104 : decode cX6_readUnit 104 = .ok (.invokevirtual 225, 3) := by decide +kernel
theorem dX6_readUnit_107 : decode cX6_readUnit 107 = .ok (.aload_n 0, 1) := by decide +kernel
theorem dX6_readUnit_108 : decode cX6_readUnit 108 = .ok (.aload_n 0, 1) := by decide +kernel
theorem dX6_readUnit_109 : decode cX6_readUnit 109 = .ok (.getfield 65, 3) := by decide +kernel
theorem dX6_readUnit_112 : decode cX6_readUnit 112 = .ok (.invokevirtual 116, 3) := by decide +kernel
theorem dX6_readUnit_115 : decode cX6_readUnit 115 = .ok (.ireturn, 1) := by decide +kernel
theorem dX7_init_0 : decode cX7_init 0 = .ok (.aload_n 0, 1) := by decide +kernel
theorem dX7_init_1 : decode cX7_init 1 = .ok (.invokespecial 3, 3) := by decide +kernel
theorem dX7_init_4 : decode cX7_init 4 = .ok (.aload_n 0, 1) := by decide +kernel
theorem dX7_init_5 : decode cX7_init 5 = .ok (.sipush 402, 3) := by decide +kernel
theorem dX7_init_8 : decode cX7_init 8 = .ok (.newarray .int, 2) := by decide +kernel
theorem dX7_init_10 : decode cX7_init 10 = .ok (.putfield 9, 3) := by decide +kernel
theorem dX7_init_13 : decode cX7_init 13 = .ok (.aload_n 0, 1) := by decide +kernel
theorem dX7_init_14 : decode cX7_init 14 = .ok (.sipush 402, 3) := by decide +kernel
theorem dX7_init_17 : decode cX7_init 17 = .ok (.newarray .int, 2) := by decide +kernel
theorem dX7_init_19 : decode cX7_init 19 = .ok (.putfield 15, 3) := by decide +kernel
theorem dX7_init_22 : decode cX7_init 22 = .ok (.aload_n 0, 1) := by decide +kernel
theorem dX7_init_23 : decode cX7_init 23 = .ok (.sipush 402, 3) := by decide +kernel
theorem dX7_init_26 : decode cX7_init 26 = .ok (.newarray .long, 2) := by decide +kernel
theorem dX7_init_28 : decode cX7_init 28 = .ok (.putfield 18, 3) := by decide +kernel
theorem dX7_init_31 : decode cX7_init 31 = .ok (.aload_n 0, 1) := by decide +kernel
theorem dX7_init_32 : decode cX7_init 32 = .ok (.bipush 26, 2) := by decide +kernel
theorem dX7_init_34 : decode cX7_init 34 = .ok (.newarray .long, 2) := by decide +kernel
theorem dX7_init_36 : decode cX7_init 36 = .ok (.putfield 22, 3) := by decide +kernel
theorem dX7_init_39 : decode cX7_init 39 = .ok (.aload_n 0, 1) := by decide +kernel
theorem dX7_init_40 : decode cX7_init 40 = .ok (.sipush 2000, 3) := by decide +kernel
theorem dX7_init_43 : decode cX7_init 43 = .ok (.newarray .byte, 2) := by decide +kernel
theorem dX7_init_45 : decode cX7_init 45 = .ok (.putfield 25, 3) := by decide +kernel
theorem dX7_init_48 : decode cX7_init 48 = .ok (.iconst 0, 1) := by decide +kernel
theorem dX7_init_49 : decode cX7_init 49 = .ok (.istore_n 1, 1) := by decide +kernel
theorem dX7_init_50 : decode cX7_init 50 = .ok (.iload_n 1, 1) := by decide +kernel
theorem dX7_init_51 : decode cX7_init 51 = .ok (.bipush 26, 2) := by decide +kernel
theorem dX7_init_53 : decode cX7_init 53 = .ok (.if_icmp .ge 72, 3) := by decide +kernel
theorem dX7_init_56 : decode cX7_init 56 = .ok (.iload_n 1, 1) := by decide +kernel
theorem dX7_init_57 : decode cX7_init 57 = .ok (.bipush 8, 2) := by decide +kernel
theorem dX7_init_59 : decode cX7_init 59 = .ok (.imul, 1) := by decide +kernel
theorem dX7_init_60 : decode cX7_init 60 = .ok (.istore_n 2, 1) := by decide +kernel
theorem dX7_init_61 : decode cX7_init 61 = .ok (.iload_n 2, 1) := by decide +kernel
theorem dX7_init_62 : decode cX7_init 62 = .ok (.iload_n 1, 1) := by decide +kernel
theorem dX7_init_63 : decode cX7_init 63 = .ok (.iconst 1, 1) := by decide +kernel
theorem dX7_init_64 : decode cX7_init 64 = .ok (.iadd, 1) := by decide +kernel
theorem dX7_init_65 : decode cX7_init 65 = .ok (.bipush 8, 2) := by decide +kernel
theorem dX7_init_67 : decode cX7_init 67 = .ok (.imul, 1) := by decide +kernel
theorem dX7_init_68 : decode cX7_init 68 = .ok (.if_icmp .ge 51, 3) := by decide +kernel
theorem dX7_init_71 : decode cX7_init 71 = .ok (.iload_n 2, 1) := by decide +kernel
theorem dX7_init_72 : decode cX7_init 72 = .ok (.ldc 29, 2) := by decide +kernel
theorem dX7_init_74 : decode cX7_init 74 = .ok (.invokevirtual 31, 3) := by decide +kernel
theorem dX7_init_77 : decode cX7_init 77 = .ok (.if_icmp .ge 36, 3) := by decide +kernel
theorem dX7_init_80 : decode cX7_init 80 = .ok (.ldc 29, 2) := by decide +kernel
theorem dX7_init_82 : decode cX7_init 82 = .ok (.iload_n 2, 1) := by decide +kernel
theorem dX7_init_83 : decode cX7_init 83 = .ok (.invokevirtual 37, 3) := by decide +kernel
theorem dX7_init_86 : decode cX7_init 86 = .ok (.invokestatic 41, 3) := by decide +kernel
theorem dX7_init_89 : decode cX7_init 89 = .ok (.ifCond .eq 24, 3) := by decide +kernel
theorem dX7_init_92 : decode cX7_init 92 = .ok (.aload_n 0, 1) := by decide +kernel
theorem dX7_init_93 : decode cX7_init 93 = .ok (.getfield 22, 3) := by decide +kernel
theorem dX7_init_96 : decode cX7_init 96 = .ok (.iload_n 1, 1) := by decide +kernel
theorem dX7_init_97 : decode cX7_init 97 = .ok (.aload_n 0, 1) := by decide +kernel
theorem dX7_init_98 : decode cX7_init 98 = .ok (.getfield 22, 3) := by decide +kernel
theorem dX7_init_101 : decode cX7_init 101 = .ok (.iload_n 1, 1) := by decide +kernel
theorem dX7_init_102 : decode cX7_init 102 = .ok (.laload, 1) := by decide +kernel
theorem dX7_init_103 : decode cX7_init 103 = .ok (.ldc 29, 2) := by decide +kernel
theorem dX7_init_105 : decode cX7_init 105 = .ok (.iload_n 2, 1) := by decide +kernel
theorem dX7_init_106 : decode cX7_init 106 = .ok (.invokevirtual 37, 3) := by decide +kernel
theorem dX7_init_109 : decode cX7_init 109 = .ok (.invokestatic 45, 3) := by decide +kernel
theorem dX7_init_112 : decode cX7_init 112 = .ok (.lastore, 1) := by decide +kernel
theorem dX7_init_113 : decode cX7_init 113 = .ok (.iinc 2 1, 3) := by decide +kernel
theorem dX7_init_116 : decode cX7_init 116 = .ok (.goto (-55), 3) := by decide +kernel
theorem dX7_init_119 : decode cX7_init 119 = .ok (.iinc 1 1, 3) := by decide +kernel
theorem dX7_init_122 : decode cX7_init 122 = .ok (.goto (-72), 3) := by decide +kernel
theorem dX7_init_125 : decode cX7_init 125 = .ok (.return_, 1) := by decide +kernel
theorem dX7_put_0 : decode cX7_put 0 = .ok (.bipush 24, 2) := by decide +kernel
theorem dX7_put_2 : decode cX7_put 2 = .ok (.istore_n 2, 1) := by decide +kernel
theorem dX7_put_3 : decode cX7_put 3 = .ok (.iload_n 2, 1) := by decide +kernel
theorem dX7_put_4 : decode cX7_put 4 = .ok (.ifCond .lt 44, 3) := by decide +kernel
theorem dX7_put_7 : decode cX7_put 7 = .ok (.aload_n 0, 1) := by decide +kernel
theorem dX7_put_8 : decode cX7_put 8 = .ok (.getfield 49, 3) := by decide +kernel
theorem dX7_put_11 : decode cX7_put 11 = .ok (.aload_n 0, 1) := by decide +kernel
theorem dX7_put_12 : decode cX7_put 12 = .ok (.getfield 25, 3) := by decide +kernel
theorem dX7_put_15 : decode cX7_put 15 = .ok (.arraylength, 1) := by decide +kernel
theorem dX7_put_16 : decode cX7_put 16 = .ok (.if_icmp .ge 26, 3) := by decide +kernel
theorem dX7_put_19 : decode cX7_put 19 = .ok (.aload_n 0, 1) := by decide +kernel
theorem dX7_put_20 : decode cX7_put 20 = .ok (.getfield 25, 3) := by decide +kernel
theorem dX7_put_23 : decode cX7_put 23 = .ok (.aload_n 0, 1) := by decide +kernel
theorem dX7_put_24 : decode cX7_put 24 = .ok (.getfield 49, 3) := by decide +kernel
theorem dX7_put_27 : decode cX7_put 27 = .ok (.iload_n 1, 1) := by decide +kernel
theorem dX7_put_28 : decode cX7_put 28 = .ok (.iload_n 2, 1) := by decide +kernel
theorem dX7_put_29 : decode cX7_put 29 = .ok (.iushr, 1) := by decide +kernel
theorem dX7_put_30 : decode cX7_put 30 = .ok (.i2b, 1) := by decide +kernel
theorem dX7_put_31 : decode cX7_put 31 = .ok (.bastore, 1) := by decide +kernel
theorem dX7_put_32 : decode cX7_put 32 = .ok (.aload_n 0, 1) := by decide +kernel
theorem dX7_put_33 : decode cX7_put 33 = .ok (.dup, 1) := by decide +kernel
theorem dX7_put_34 : decode cX7_put 34 = .ok (.getfield 49, 3) := by decide +kernel
theorem dX7_put_37 : decode cX7_put 37 = .ok (.iconst 1, 1) := by decide +kernel
theorem dX7_put_38 : decode cX7_put 38 = .ok (.iadd, 1) := by decide +kernel
theorem dX7_put_39 : decode cX7_put 39 = .ok (.putfield 49, 3) := by decide +kernel
theorem dX7_put_42 : decode cX7_put 42 = .ok (.iinc 2 (-8), 3) := by decide +kernel
theorem dX7_put_45 : decode cX7_put 45 = .ok (.goto (-42), 3) := by decide +kernel
theorem dX7_put_48 : decode cX7_put 48 = .ok (.return_, 1) := by decide +kernel
theorem dX7_cut_0 : decode cX7_cut 0 = .ok (.aload_n 0, 1) := by decide +kernel
theorem dX7_cut_1 : decode cX7_cut 1 = .ok (.iconst 0, 1) := by decide +kernel
theorem dX7_cut_2 : decode cX7_cut 2 = .ok (.putfield 52, 3) := by decide +kernel
theorem dX7_cut_5 : decode cX7_cut 5 = .ok (.aload_n 0, 1) := by decide +kernel
theorem dX7_cut_6 : decode cX7_cut 6 = .ok (.invokevirtual 55, 3) := by decide +kernel
theorem dX7_cut_9 : decode cX7_cut 9 = .ok (.iconst 0, 1) := by decide +kernel
theorem dX7_cut_10 : decode cX7_cut 10 = .ok (.istore_n 1, 1) := by decide +kernel
theorem dX7_cut_11 : decode cX7_cut 11 = .ok (.iload_n 1, 1) := by decide +kernel
theorem dX7_cut_12 : decode cX7_cut 12 = .ok (.sipush 400, 3) := by decide +kernel
theorem dX7_cut_15 : decode cX7_cut 15 = .ok (.if_icmp .gt 39, 3) := by decide +kernel
theorem dX7_cut_18 : decode cX7_cut 18 = .ok (.aload_n 0, 1) := by decide +kernel
theorem dX7_cut_19 : decode cX7_cut 19 = .ok (.getfield 52, 3) := by decide +kernel
theorem dX7_cut_22 : decode cX7_cut 22 = .ok (.aload_n 0, 1) := by decide +kernel
theorem dX7_cut_23 : decode cX7_cut 23 = .ok (.getfield 49, 3) := by decide +kernel
theorem dX7_cut_26 : decode cX7_cut 26 = .ok (.if_icmp .ge 28, 3) := by decide +kernel
theorem dX7_cut_29 : decode cX7_cut 29 = .ok (.aload_n 0, 1) := by decide +kernel
theorem dX7_cut_30 : decode cX7_cut 30 = .ok (.getfield 15, 3) := by decide +kernel
theorem dX7_cut_33 : decode cX7_cut 33 = .ok (.iload_n 1, 1) := by decide +kernel
theorem dX7_cut_34 : decode cX7_cut 34 = .ok (.aload_n 0, 1) := by decide +kernel
theorem dX7_cut_35 : decode cX7_cut 35 = .ok (.getfield 52, 3) := by decide +kernel
theorem dX7_cut_38 : decode cX7_cut 38 = .ok (.iastore, 1) := by decide +kernel
theorem dX7_cut_39 : decode cX7_cut 39 = .ok (.aload_n 0, 1) := by decide +kernel
theorem dX7_cut_40 : decode cX7_cut 40 = .ok (.iload_n 1, 1) := by decide +kernel
theorem dX7_cut_41 : decode cX7_cut 41 = .ok (.invokevirtual 58, 3) := by decide +kernel
theorem dX7_cut_44 : decode cX7_cut 44 = .ok (.aload_n 0, 1) := by decide +kernel
theorem dX7_cut_45 : decode cX7_cut 45 = .ok (.invokevirtual 55, 3) := by decide +kernel
theorem dX7_cut_48 : decode cX7_cut 48 = .ok (.iinc 1 1, 3) := by decide +kernel
theorem dX7_cut_51 : decode cX7_cut 51 = .ok (.goto (-40), 3) := by decide +kernel
theorem dX7_cut_54 : decode cX7_cut 54 = .ok (.aload_n 0, 1) := by decide +kernel
theorem dX7_cut_55 : decode cX7_cut 55 = .ok (.getfield 9, 3) := by decide +kernel
theorem dX7_cut_58 : decode cX7_cut 58 = .ok (.iload_n 1, 1) := by decide +kernel
theorem dX7_cut_59 : decode cX7_cut 59 = .ok (.iconst 0, 1) := by decide +kernel
theorem dX7_cut_60 : decode cX7_cut 60 = .ok (.iastore, 1) := by decide +kernel
theorem dX7_cut_61 : decode cX7_cut 61 = .ok (.aload_n 0, 1) := by decide +kernel
theorem dX7_cut_62 : decode cX7_cut 62 = .ok (.getfield 15, 3) := by decide +kernel
theorem dX7_cut_65 : decode cX7_cut 65 = .ok (.iload_n 1, 1) := by decide +kernel
theorem dX7_cut_66 : decode cX7_cut 66 = .ok (.aload_n 0, 1) := by decide +kernel
theorem dX7_cut_67 : decode cX7_cut 67 = .ok (.getfield 49, 3) := by decide +kernel
theorem dX7_cut_70 : decode cX7_cut 70 = .ok (.iastore, 1) := by decide +kernel
theorem dX7_cut_71 : decode cX7_cut 71 = .ok (.return_, 1) := by decide +kernel
theorem dX7_skipBlanks_0 : decode cX7_skipBlanks 0 = .ok (.aload_n 0, 1) := by decide +kernel
theorem dX7_skipBlanks_1 : decode cX7_skipBlanks 1 = .ok (.getfield 52, 3) := by decide +kernel
theorem dX7_skipBlanks_4 : decode cX7_skipBlanks 4 = .ok (.aload_n 0, 1) := by decide +kernel
theorem dX7_skipBlanks_5 : decode cX7_skipBlanks 5 = .ok (.getfield 49, 3) := by decide +kernel
theorem dX7_skipBlanks_8 : decode cX7_skipBlanks 8 = .ok (.if_icmp .ge 51, 3) := by decide +kernel
theorem dX7_skipBlanks_11 : decode cX7_skipBlanks 11 = .ok (.aload_n 0, 1) := by decide +kernel
theorem dX7_skipBlanks_12 : decode cX7_skipBlanks 12 = .ok (.getfield 25, 3) := by decide +kernel
theorem dX7_skipBlanks_15 : decode cX7_skipBlanks 15 = .ok (.aload_n 0, 1) := by decide +kernel
theorem dX7_skipBlanks_16 : decode cX7_skipBlanks 16 = .ok (.getfield 52, 3) := by decide +kernel
theorem dX7_skipBlanks_19 : decode cX7_skipBlanks 19 = .ok (.baload, 1) := by decide +kernel
theorem dX7_skipBlanks_20 : decode cX7_skipBlanks 20 = .ok (.istore_n 1, 1) := by decide +kernel
theorem dX7_skipBlanks_21 : decode cX7_skipBlanks 21 = .ok (.iload_n 1, 1) := by decide +kernel
theorem dX7_skipBlanks_22 : decode cX7_skipBlanks 22 = .ok (.bipush 9, 2) := by decide +kernel
theorem dX7_skipBlanks_24 : decode cX7_skipBlanks 24 = .ok (.if_icmp .eq 22, 3) := by decide +kernel
theorem dX7_skipBlanks_27 : decode cX7_skipBlanks 27 = .ok (.iload_n 1, 1) := by decide +kernel
theorem dX7_skipBlanks_28 : decode cX7_skipBlanks 28 = .ok (.bipush 10, 2) := by decide +kernel
theorem dX7_skipBlanks_30 : decode cX7_skipBlanks 30 = .ok (.if_icmp .eq 16, 3) := by decide +kernel
theorem dX7_skipBlanks_33 : decode cX7_skipBlanks 33 = .ok (.iload_n 1, 1) := by decide +kernel
theorem dX7_skipBlanks_34 : decode cX7_skipBlanks 34 = .ok (.bipush 13, 2) := by decide +kernel
theorem dX7_skipBlanks_36 : decode cX7_skipBlanks 36 = .ok (.if_icmp .eq 10, 3) := by decide +kernel
theorem dX7_skipBlanks_39 : decode cX7_skipBlanks 39 = .ok (.iload_n 1, 1) := by decide +kernel
theorem dX7_skipBlanks_40 : decode cX7_skipBlanks 40 = .ok (.bipush 32, 2) := by decide +kernel
theorem dX7_skipBlanks_42 : decode cX7_skipBlanks 42 = .ok (.if_icmp .eq 4, 3) := by decide +kernel
theorem dX7_skipBlanks_45 : decode cX7_skipBlanks 45 = .ok (.return_, 1) := by decide +kernel
theorem dX7_skipBlanks_46 : decode cX7_skipBlanks 46 = .ok (.aload_n 0, 1) := by decide +kernel
theorem dX7_skipBlanks_47 : decode cX7_skipBlanks 47 = .ok (.dup, 1) := by decide +kernel
theorem dX7_skipBlanks_48 : decode cX7_skipBlanks 48 = .ok (.getfield 52, 3) := by decide +kernel
theorem dX7_skipBlanks_51 : decode cX7_skipBlanks 51 = .ok (.iconst 1, 1) := by decide +kernel
theorem dX7_skipBlanks_52 : decode cX7_skipBlanks 52 = .ok (.iadd, 1) := by decide +kernel
theorem dX7_skipBlanks_53 : decode cX7_skipBlanks 53 = .ok (.putfield 52, 3) := by decide +kernel
theorem dX7_skipBlanks_56 : decode cX7_skipBlanks 56 = .ok (.goto (-56), 3) := by decide +kernel
theorem dX7_skipBlanks_59 : decode cX7_skipBlanks 59 = .ok (.return_, 1) := by decide +kernel
theorem dX7_cutOne_0 : decode cX7_cutOne 0 = .ok (.aload_n 0, 1) := by decide +kernel
theorem dX7_cutOne_1 : decode cX7_cutOne 1 = .ok (.getfield 25, 3) := by decide +kernel
theorem dX7_cutOne_4 : decode cX7_cutOne 4 = .ok (.aload_n 0, 1) := by decide +kernel
theorem dX7_cutOne_5 : decode cX7_cutOne 5 = .ok (.getfield 52, 3) := by decide +kernel
theorem dX7_cutOne_8 : decode cX7_cutOne 8 = .ok (.baload, 1) := by decide +kernel
theorem dX7_cutOne_9 : decode cX7_cutOne 9 = .ok (.istore_n 2, 1) := by decide +kernel
theorem dX7_cutOne_10 : decode cX7_cutOne 10 = .ok (.iload_n 2, 1) := by decide +kernel
theorem dX7_cutOne_11 : decode cX7_cutOne 11 = .ok (.invokestatic 41, 3) := by decide +kernel
theorem dX7_cutOne_14 : decode cX7_cutOne 14 = .ok (.ifCond .eq 11, 3) := by decide +kernel
theorem dX7_cutOne_17 : decode cX7_cutOne 17 = .ok (.aload_n 0, 1) := by decide +kernel
theorem dX7_cutOne_18 : decode cX7_cutOne 18 = .ok (.iload_n 1, 1) := by decide +kernel
theorem dX7_cutOne_19 : decode cX7_cutOne 19 = .ok (.invokevirtual 62, 3) := by decide +kernel
theorem dX7_cutOne_22 : decode cX7_cutOne 22 = .ok (.goto 46, 3) := by decide +kernel
theorem dX7_cutOne_25 : decode cX7_cutOne 25 = .ok (.iload_n 2, 1) := by decide +kernel
theorem dX7_cutOne_26 : decode cX7_cutOne 26 = .ok (.invokestatic 65, 3) := by decide +kernel
theorem dX7_cutOne_29 : decode cX7_cutOne 29 = .ok (.ifCond .eq 11, 3) := by decide +kernel
theorem dX7_cutOne_32 : decode cX7_cutOne 32 = .ok (.aload_n 0, 1) := by decide +kernel
theorem dX7_cutOne_33 : decode cX7_cutOne 33 = .ok (.iload_n 1, 1) := by decide +kernel
theorem dX7_cutOne_34 : decode cX7_cutOne 34 = .ok (.invokevirtual 68, 3) := by decide +kernel
theorem dX7_cutOne_37 : decode cX7_cutOne 37 = .ok (.goto 31, 3) := by decide +kernel
theorem dX7_cutOne_40 : decode cX7_cutOne 40 = .ok (.aload_n 0, 1) := by decide +kernel
theorem dX7_cutOne_41 : decode cX7_cutOne 41 = .ok (.getfield 9, 3) := by decide +kernel
theorem dX7_cutOne_44 : decode cX7_cutOne 44 = .ok (.iload_n 1, 1) := by decide +kernel
theorem dX7_cutOne_45 : decode cX7_cutOne 45 = .ok (.iload_n 2, 1) := by decide +kernel
theorem dX7_cutOne_46 : decode cX7_cutOne 46 = .ok (.invokestatic 71, 3) := by decide +kernel
theorem dX7_cutOne_49 : decode cX7_cutOne 49 = .ok (.ifCond .eq 7, 3) := by decide +kernel
theorem dX7_cutOne_52 : decode cX7_cutOne 52 = .ok (.iload_n 2, 1) := by decide +kernel
theorem dX7_cutOne_53 : decode cX7_cutOne 53 = .ok (.goto 4, 3) := by decide +kernel
theorem dX7_cutOne_56 : decode cX7_cutOne 56 = .ok (.iconst 3, 1) := by decide +kernel
theorem dX7_cutOne_57 : decode cX7_cutOne 57 = .ok (.iastore, 1) := by decide +kernel
theorem dX7_cutOne_58 : decode cX7_cutOne 58 = .ok (.aload_n 0, 1) := by decide +kernel
theorem dX7_cutOne_59 : decode cX7_cutOne 59 = .ok (.dup, 1) := by decide +kernel
theorem dX7_cutOne_60 : decode cX7_cutOne 60 = .ok (.getfield 52, 3) := by decide +kernel
theorem dX7_cutOne_63 : decode cX7_cutOne 63 = .ok (.iconst 1, 1) := by decide +kernel
theorem dX7_cutOne_64 : decode cX7_cutOne 64 = .ok (.iadd, 1) := by decide +kernel
theorem dX7_cutOne_65 : decode cX7_cutOne 65 = .ok (.putfield 52, 3) := by decide +kernel
theorem dX7_cutOne_68 : decode cX7_cutOne 68 = .ok (.return_, 1) := by decide +kernel
theorem dX7_cutWord_0 : decode cX7_cutWord 0 = .ok (.iconst 0, 1) := by decide +kernel
theorem dX7_cutWord_1 : decode cX7_cutWord 1 = .ok (.istore_n 2, 1) := by decide +kernel
theorem dX7_cutWord_2 : decode cX7_cutWord 2 = .ok (.lconst 0, 1) := by decide +kernel
theorem dX7_cutWord_3 : decode cX7_cutWord 3 = .ok (.lstore_n 3, 1) := by decide +kernel
theorem dX7_cutWord_4 : decode cX7_cutWord 4 = .ok (.aload_n 0, 1) := by decide +kernel
theorem dX7_cutWord_5 : decode cX7_cutWord 5 = .ok (.getfield 52, 3) := by decide +kernel
theorem dX7_cutWord_8 : decode cX7_cutWord 8 = .ok (.aload_n 0, 1) := by decide +kernel
theorem dX7_cutWord_9 : decode cX7_cutWord 9 = .ok (.getfield 49, 3) := by decide +kernel
theorem dX7_cutWord_12 : decode cX7_cutWord 12 = .ok (.if_icmp .ge 48, 3) := by decide +kernel
theorem dX7_cutWord_15 : decode cX7_cutWord 15 = .ok (.aload_n 0, 1) := by decide +kernel
theorem dX7_cutWord_16 : decode cX7_cutWord 16 = .ok (.getfield 25, 3) := by decide +kernel
theorem dX7_cutWord_19 : decode cX7_cutWord 19 = .ok (.aload_n 0, 1) := by decide +kernel
theorem dX7_cutWord_20 : decode cX7_cutWord 20 = .ok (.getfield 52, 3) := by decide +kernel
theorem dX7_cutWord_23 : decode cX7_cutWord 23 = .ok (.baload, 1) := by decide +kernel
theorem dX7_cutWord_24 : decode cX7_cutWord 24 = .ok (.invokestatic 41, 3) := by decide +kernel
theorem dX7_cutWord_27 : decode cX7_cutWord 27 = .ok (.ifCond .eq 33, 3) := by decide +kernel
theorem dX7_cutWord_30 : decode cX7_cutWord 30 = .ok (.lload_n 3, 1) := by decide +kernel
theorem dX7_cutWord_31 : decode cX7_cutWord 31 = .ok (.aload_n 0, 1) := by decide +kernel
theorem dX7_cutWord_32 : decode cX7_cutWord 32 = .ok (.getfield 25, 3) := by decide +kernel
theorem dX7_cutWord_35 : decode cX7_cutWord 35 = .ok (.aload_n 0, 1) := by decide +kernel
theorem dX7_cutWord_36 : decode cX7_cutWord 36 = .ok (.getfield 52, 3) := by decide +kernel
theorem dX7_cutWord_39 : decode cX7_cutWord 39 = .ok (.baload, 1) := by decide +kernel
theorem dX7_cutWord_40 : decode cX7_cutWord 40 = .ok (.invokestatic 45, 3) := by decide +kernel
theorem dX7_cutWord_43 : decode cX7_cutWord 43 = .ok (.lstore_n 3, 1) := by decide +kernel
theorem dX7_cutWord_44 : decode cX7_cutWord 44 = .ok (.iinc 2 1, 3) := by decide +kernel
theorem dX7_cutWord_47 : decode cX7_cutWord 47 = .ok (.aload_n 0, 1) := by decide +kernel
theorem dX7_cutWord_48 : decode cX7_cutWord 48 = .ok (.dup, 1) := by decide +kernel
theorem dX7_cutWord_49 : decode cX7_cutWord 49 = .ok (.getfield 52, 3) := by decide +kernel
theorem dX7_cutWord_52 : decode cX7_cutWord 52 = .ok (.iconst 1, 1) := by decide +kernel
theorem dX7_cutWord_53 : decode cX7_cutWord 53 = .ok (.iadd, 1) := by decide +kernel
theorem dX7_cutWord_54 : decode cX7_cutWord 54 = .ok (.putfield 52, 3) := by decide +kernel
theorem dX7_cutWord_57 : decode cX7_cutWord 57 = .ok (.goto (-53), 3) := by decide +kernel
theorem dX7_cutWord_60 : decode cX7_cutWord 60 = .ok (.aload_n 0, 1) := by decide +kernel
theorem dX7_cutWord_61 : decode cX7_cutWord 61 = .ok (.getfield 18, 3) := by decide +kernel
theorem dX7_cutWord_64 : decode cX7_cutWord 64 = .ok (.iload_n 1, 1) := by decide +kernel
theorem dX7_cutWord_65 : decode cX7_cutWord 65 = .ok (.lload_n 3, 1) := by decide +kernel
theorem dX7_cutWord_66 : decode cX7_cutWord 66 = .ok (.lastore, 1) := by decide +kernel
theorem dX7_cutWord_67 : decode cX7_cutWord 67 = .ok (.aload_n 0, 1) := by decide +kernel
theorem dX7_cutWord_68 : decode cX7_cutWord 68 = .ok (.getfield 9, 3) := by decide +kernel
theorem dX7_cutWord_71 : decode cX7_cutWord 71 = .ok (.iload_n 1, 1) := by decide +kernel
theorem dX7_cutWord_72 : decode cX7_cutWord 72 = .ok (.iload_n 2, 1) := by decide +kernel
theorem dX7_cutWord_73 : decode cX7_cutWord 73 = .ok (.bipush 8, 2) := by decide +kernel
theorem dX7_cutWord_75 : decode cX7_cutWord 75 = .ok (.if_icmp .le 7, 3) := by decide +kernel
theorem dX7_cutWord_78 : decode cX7_cutWord 78 = .ok (.iconst 3, 1) := by decide +kernel
theorem dX7_cutWord_79 : decode cX7_cutWord 79 = .ok (.goto 8, 3) := by decide +kernel
theorem dX7_cutWord_82 : decode cX7_cutWord 82 = .ok (.aload_n 0, 1) := by decide +kernel
theorem dX7_cutWord_83 : decode cX7_cutWord 83 = .ok (.lload_n 3, 1) := by decide +kernel
theorem dX7_cutWord_84 : decode cX7_cutWord 84 = .ok (.invokevirtual 74, 3) := by decide +kernel
theorem dX7_cutWord_87 : decode cX7_cutWord 87 = .ok (.iastore, 1) := by decide +kernel
theorem dX7_cutWord_88 : decode cX7_cutWord 88 = .ok (.return_, 1) := by decide +kernel
theorem dX7_kindOf_0 : decode cX7_kindOf 0 = .ok (.iconst 0, 1) := by decide +kernel
theorem dX7_kindOf_1 : decode cX7_kindOf 1 = .ok (.istore_n 3, 1) := by decide +kernel
theorem dX7_kindOf_2 : decode cX7_kindOf 2 = .ok (.iload_n 3, 1) := by decide +kernel
theorem dX7_kindOf_3 : decode cX7_kindOf 3 = .ok (.bipush 26, 2) := by decide +kernel
theorem dX7_kindOf_5 : decode cX7_kindOf 5 = .ok (.if_icmp .ge 26, 3) := by decide +kernel
theorem dX7_kindOf_8 : decode cX7_kindOf 8 = .ok (.aload_n 0, 1) := by decide +kernel
theorem dX7_kindOf_9 : decode cX7_kindOf 9 = .ok (.getfield 22, 3) := by decide +kernel
theorem dX7_kindOf_12 : decode cX7_kindOf 12 = .ok (.iload_n 3, 1) := by decide +kernel
theorem dX7_kindOf_13 : decode cX7_kindOf 13 = .ok (.laload, 1) := by decide +kernel
theorem dX7_kindOf_14 : decode cX7_kindOf 14 = .ok (.lload_n 1, 1) := by decide +kernel
theorem dX7_kindOf_15 : decode cX7_kindOf 15 = .ok (.lcmp, 1) := by decide +kernel
theorem dX7_kindOf_16 : decode cX7_kindOf 16 = .ok (.ifCond .ne 9, 3) := by decide +kernel
theorem dX7_kindOf_19 : decode cX7_kindOf 19 = .ok (.sipush 256, 3) := by decide +kernel
theorem dX7_kindOf_22 : decode cX7_kindOf 22 = .ok (.iload_n 3, 1) := by decide +kernel
theorem dX7_kindOf_23 : decode cX7_kindOf 23 = .ok (.iadd, 1) := by decide +kernel
theorem dX7_kindOf_24 : decode cX7_kindOf 24 = .ok (.ireturn, 1) := by decide +kernel
theorem dX7_kindOf_25 : decode cX7_kindOf 25 = .ok (.iinc 3 1, 3) := by decide +kernel
theorem dX7_kindOf_28 : decode cX7_kindOf 28 = .ok (.goto (-26), 3) := by decide +kernel
theorem dX7_kindOf_31 : decode cX7_kindOf 31 = .ok (.iconst 1, 1) := by decide +kernel
theorem dX7_kindOf_32 : decode cX7_kindOf 32 = .ok (.ireturn, 1) := by decide +kernel
theorem dX7_cutNumber_0 : decode cX7_cutNumber 0 = .ok (.iconst 0, 1) := by decide +kernel
theorem dX7_cutNumber_1 : decode cX7_cutNumber 1 = .ok (.istore_n 2, 1) := by decide +kernel
theorem dX7_cutNumber_2 : decode cX7_cutNumber 2 = .ok (.iconst 0, 1) := by decide +kernel
theorem dX7_cutNumber_3 : decode cX7_cutNumber 3 = .ok (.istore_n 3, 1) := by decide +kernel
theorem dX7_cutNumber_4 : decode cX7_cutNumber 4 = .ok (.aload_n 0, 1) := by decide +kernel
theorem dX7_cutNumber_5 : decode cX7_cutNumber 5 = .ok (.getfield 52, 3) := by decide +kernel
theorem dX7_cutNumber_8 : decode cX7_cutNumber 8 = .ok (.aload_n 0, 1) := by decide +kernel
theorem dX7_cutNumber_9 : decode cX7_cutNumber 9 = .ok (.getfield 49, 3) := by decide +kernel
theorem dX7_cutNumber_12 : decode cX7_cutNumber 12 = .ok (.if_icmp .ge 52, 3) := by decide +kernel
theorem dX7_cutNumber_15 : decode cX7_cutNumber 15 = .ok (.aload_n 0, 1) := by decide +kernel
theorem dX7_cutNumber_16 : decode cX7_cutNumber 16 = .ok (.getfield 25, 3) := by decide +kernel
theorem dX7_cutNumber_19 : decode cX7_cutNumber 19 = .ok (.aload_n 0, 1) := by decide +kernel
theorem dX7_cutNumber_20 : decode cX7_cutNumber 20 = .ok (.getfield 52, 3) := by decide +kernel
theorem dX7_cutNumber_23 : decode cX7_cutNumber 23 = .ok (.baload, 1) := by decide +kernel
theorem dX7_cutNumber_24 : decode cX7_cutNumber 24 = .ok (.invokestatic 65, 3) := by decide +kernel
theorem dX7_cutNumber_27 : decode cX7_cutNumber 27 = .ok (.ifCond .eq 37, 3) := by decide +kernel
theorem dX7_cutNumber_30 : decode cX7_cutNumber 30 = .ok (.iload_n 3, 1) := by decide +kernel
theorem dX7_cutNumber_31 : decode cX7_cutNumber 31 = .ok (.bipush 10, 2) := by decide +kernel
theorem dX7_cutNumber_33 : decode cX7_cutNumber 33 = .ok (.imul, 1) := by decide +kernel
theorem dX7_cutNumber_34 : decode cX7_cutNumber 34 = .ok (.aload_n 0, 1) := by decide +kernel
theorem dX7_cutNumber_35 : decode cX7_cutNumber 35 = .ok (.getfield 25, 3) := by decide +kernel
theorem dX7_cutNumber_38 : decode cX7_cutNumber 38 = .ok (.aload_n 0, 1) := by decide +kernel
theorem dX7_cutNumber_39 : decode cX7_cutNumber 39 = .ok (.getfield 52, 3) := by decide +kernel
theorem dX7_cutNumber_42 : decode cX7_cutNumber 42 = .ok (.baload, 1) := by decide +kernel
theorem dX7_cutNumber_43 : decode cX7_cutNumber 43 = .ok (.bipush 48, 2) := by decide +kernel
theorem dX7_cutNumber_45 : decode cX7_cutNumber 45 = .ok (.isub, 1) := by decide +kernel
theorem dX7_cutNumber_46 : decode cX7_cutNumber 46 = .ok (.iadd, 1) := by decide +kernel
theorem dX7_cutNumber_47 : decode cX7_cutNumber 47 = .ok (.istore_n 3, 1) := by decide +kernel
theorem dX7_cutNumber_48 : decode cX7_cutNumber 48 = .ok (.iinc 2 1, 3) := by decide +kernel
theorem dX7_cutNumber_51 : decode cX7_cutNumber 51 = .ok (.aload_n 0, 1) := by decide +kernel
theorem dX7_cutNumber_52 : decode cX7_cutNumber 52 = .ok (.dup, 1) := by decide +kernel
theorem dX7_cutNumber_53 : decode cX7_cutNumber 53 = .ok (.getfield 52, 3) := by decide +kernel
theorem dX7_cutNumber_56 : decode cX7_cutNumber 56 = .ok (.iconst 1, 1) := by decide +kernel
theorem dX7_cutNumber_57 : decode cX7_cutNumber 57 = .ok (.iadd, 1) := by decide +kernel
theorem dX7_cutNumber_58 : decode cX7_cutNumber 58 = .ok (.putfield 52, 3) := by decide +kernel
theorem dX7_cutNumber_61 : decode cX7_cutNumber 61 = .ok (.goto (-57), 3) := by decide +kernel
theorem dX7_cutNumber_64 : decode cX7_cutNumber 64 = .ok (.aload_n 0, 1) := by decide +kernel
theorem dX7_cutNumber_65 : decode cX7_cutNumber 65 = .ok (.getfield 18, 3) := by decide +kernel
theorem dX7_cutNumber_68 : decode cX7_cutNumber 68 = .ok (.iload_n 1, 1) := by decide +kernel
theorem dX7_cutNumber_69 : decode cX7_cutNumber 69 = .ok (.iload_n 3, 1) := by decide +kernel
theorem dX7_cutNumber_70 : decode cX7_cutNumber 70 = .ok (.i2l, 1) := by decide +kernel
theorem dX7_cutNumber_71 : decode cX7_cutNumber 71 = .ok (.lastore, 1) := by decide +kernel
theorem dX7_cutNumber_72 : decode cX7_cutNumber 72 = .ok (.aload_n 0, 1) := by decide +kernel
theorem dX7_cutNumber_73 : decode cX7_cutNumber 73 = .ok (.getfield 9, 3) := by decide +kernel
theorem dX7_cutNumber_76 : decode cX7_cutNumber 76 = .ok (.iload_n 1, 1) := by decide +kernel
theorem dX7_cutNumber_77 : decode cX7_cutNumber 77 = .ok (.iload_n 2, 1) := by decide +kernel
theorem dX7_cutNumber_78 : decode cX7_cutNumber 78 = .ok (.iconst 4, 1) := by decide +kernel
theorem dX7_cutNumber_79 : decode cX7_cutNumber 79 = .ok (.if_icmp .le 7, 3) := by decide +kernel
theorem dX7_cutNumber_82 : decode cX7_cutNumber 82 = .ok (.iconst 3, 1) := by decide +kernel
theorem dX7_cutNumber_83 : decode cX7_cutNumber 83 = .ok (.goto 4, 3) := by decide +kernel
theorem dX7_cutNumber_86 : decode cX7_cutNumber 86 = .ok (.iconst 2, 1) := by decide +kernel
theorem dX7_cutNumber_87 : decode cX7_cutNumber 87 = .ok (.iastore, 1) := by decide +kernel
theorem dX7_cutNumber_88 : decode cX7_cutNumber 88 = .ok (.return_, 1) := by decide +kernel
theorem dX7_withLetter_0 : decode cX7_withLetter 0 = .ok (.lload_n 0, 1) := by decide +kernel
theorem dX7_withLetter_1 : decode cX7_withLetter 1 = .ok (.ldc2_w 78, 3) := by decide +kernel
theorem dX7_withLetter_4 : decode cX7_withLetter 4 = .ok (.lmul, 1) := by decide +kernel
theorem dX7_withLetter_5 : decode cX7_withLetter 5 = .ok (.iload_n 2, 1) := by decide +kernel
theorem dX7_withLetter_6 : decode cX7_withLetter 6 = .ok (.bipush 97, 2) := by decide +kernel
theorem dX7_withLetter_8 : decode cX7_withLetter 8 = .ok (.isub, 1) := by decide +kernel
theorem dX7_withLetter_9 : decode cX7_withLetter 9 = .ok (.iconst 1, 1) := by decide +kernel
theorem dX7_withLetter_10 : decode cX7_withLetter 10 = .ok (.iadd, 1) := by decide +kernel
theorem dX7_withLetter_11 : decode cX7_withLetter 11 = .ok (.i2l, 1) := by decide +kernel
theorem dX7_withLetter_12 : decode cX7_withLetter 12 = .ok (.ladd, 1) := by decide +kernel
theorem dX7_withLetter_13 : decode cX7_withLetter 13 = .ok (.lreturn, 1) := by decide +kernel
theorem dX7_isLetter_0 : decode cX7_isLetter 0 = .ok (.iload_n 0, 1) := by decide +kernel
theorem dX7_isLetter_1 : decode cX7_isLetter 1 = .ok (.bipush 97, 2) := by decide +kernel
theorem dX7_isLetter_3 : decode cX7_isLetter 3 = .ok (.if_icmp .lt 13, 3) := by decide +kernel
theorem dX7_isLetter_6 : decode cX7_isLetter 6 = .ok (.iload_n 0, 1) := by decide +kernel
theorem dX7_isLetter_7 : decode cX7_isLetter 7 = .ok (.bipush 122, 2) := by decide +kernel
theorem dX7_isLetter_9 : decode cX7_isLetter 9 = .ok (.if_icmp .gt 7, 3) := by decide +kernel
theorem dX7_isLetter_12 : decode cX7_isLetter 12 = .ok (.iconst 1, 1) := by decide +kernel
theorem dX7_isLetter_13 : decode cX7_isLetter 13 = .ok (.goto 4, 3) := by decide +kernel
theorem dX7_isLetter_16 : decode cX7_isLetter 16 = .ok (.iconst 0, 1) := by decide +kernel
theorem dX7_isLetter_17 : decode cX7_isLetter 17 = .ok (.ireturn, 1) := by decide +kernel
theorem dX7_isDigit_0 : decode cX7_isDigit 0 = .ok (.iload_n 0, 1) := by decide +kernel
theorem dX7_isDigit_1 : decode cX7_isDigit 1 = .ok (.bipush 48, 2) := by decide +kernel
theorem dX7_isDigit_3 : decode cX7_isDigit 3 = .ok (.if_icmp .lt 13, 3) := by decide +kernel
theorem dX7_isDigit_6 : decode cX7_isDigit 6 = .ok (.iload_n 0, 1) := by decide +kernel
theorem dX7_isDigit_7 : decode cX7_isDigit 7 = .ok (.bipush 57, 2) := by decide +kernel
theorem dX7_isDigit_9 : decode cX7_isDigit 9 = .ok (.if_icmp .gt 7, 3) := by decide +kernel
theorem dX7_isDigit_12 : decode cX7_isDigit 12 = .ok (.iconst 1, 1) := by decide +kernel
theorem dX7_isDigit_13 : decode cX7_isDigit 13 = .ok (.goto 4, 3) := by decide +kernel
theorem dX7_isDigit_16 : decode cX7_isDigit 16 = .ok (.iconst 0, 1) := by decide +kernel
theorem dX7_isDigit_17 : decode cX7_isDigit 17 = .ok (.ireturn, 1) := by decide +kernel
theorem dX7_isSign_0 : decode cX7_isSign 0 = .ok (.iload_n 0, 1) := by decide +kernel
theorem dX7_isSign_1 : decode cX7_isSign 1 = .ok (.tableswitch 105 40 61 #[103, 103, 103, 103, 105, 103, 105, 103, 105, 105, 105, 105, 105, 105, 105, 105, 105, 105, 105, 103, 103, 103], 103) := by decide +kernel
theorem dX7_isSign_104 : decode cX7_isSign 104 = .ok (.iconst 1, 1) := by decide +kernel
theorem dX7_isSign_105 : decode cX7_isSign 105 = .ok (.ireturn, 1) := by decide +kernel
theorem dX7_isSign_106 : decode cX7_isSign 106 = .ok (.iconst 0, 1) := by decide +kernel
theorem dX7_isSign_107 : decode cX7_isSign 107 = .ok (.ireturn, 1) := by decide +kernel
theorem dX8_init_0 : decode cX8_init 0 = .ok (.aload_n 0, 1) := by decide +kernel
theorem dX8_init_1 : decode cX8_init 1 = .ok (.invokespecial 3, 3) := by decide +kernel
theorem dX8_init_4 : decode cX8_init 4 = .ok (.aload_n 0, 1) := by decide +kernel
theorem dX8_init_5 : decode cX8_init 5 = .ok (.bipush 7, 2) := by decide +kernel
theorem dX8_init_7 : decode cX8_init 7 = .ok (.newarray .int, 2) := by decide +kernel
theorem dX8_init_9 : decode cX8_init 9 = .ok (.putfield 9, 3) := by decide +kernel
theorem dX8_init_12 : decode cX8_init 12 = .ok (.aload_n 0, 1) := by decide +kernel
theorem dX8_init_13 : decode cX8_init 13 = .ok (.bipush 7, 2) := by decide +kernel
theorem dX8_init_15 : decode cX8_init 15 = .ok (.newarray .int, 2) := by decide +kernel
theorem dX8_init_17 : decode cX8_init 17 = .ok (.putfield 15, 3) := by decide +kernel
theorem dX8_init_20 : decode cX8_init 20 = .ok (.aload_n 0, 1) := by decide +kernel
theorem dX8_init_21 : decode cX8_init 21 = .ok (.iconst 4, 1) := by decide +kernel
theorem dX8_init_22 : decode cX8_init 22 = .ok (.newarray .int, 2) := by decide +kernel
theorem dX8_init_24 : decode cX8_init 24 = .ok (.putfield 18, 3) := by decide +kernel
theorem dX8_init_27 : decode cX8_init 27 = .ok (.aload_n 0, 1) := by decide +kernel
theorem dX8_init_28 : decode cX8_init 28 = .ok (.iconst 4, 1) := by decide +kernel
theorem dX8_init_29 : decode cX8_init 29 = .ok (.newarray .int, 2) := by decide +kernel
theorem dX8_init_31 : decode cX8_init 31 = .ok (.putfield 21, 3) := by decide +kernel
theorem dX8_init_34 : decode cX8_init 34 = .ok (.aload_n 0, 1) := by decide +kernel
theorem dX8_init_35 : decode cX8_init 35 = .ok (.iconst 4, 1) := by decide +kernel
theorem dX8_init_36 : decode cX8_init 36 = .ok (.newarray .int, 2) := by decide +kernel
theorem dX8_init_38 : decode cX8_init 38 = .ok (.putfield 24, 3) := by decide +kernel
theorem dX8_init_41 : decode cX8_init 41 = .ok (.aload_n 0, 1) := by decide +kernel
theorem dX8_init_42 : decode cX8_init 42 = .ok (.iconst 4, 1) := by decide +kernel
theorem dX8_init_43 : decode cX8_init 43 = .ok (.newarray .int, 2) := by decide +kernel
theorem dX8_init_45 : decode cX8_init 45 = .ok (.putfield 27, 3) := by decide +kernel
theorem dX8_init_48 : decode cX8_init 48 = .ok (.aload_n 0, 1) := by decide +kernel
theorem dX8_init_49 : decode cX8_init 49 = .ok (.iconst 4, 1) := by decide +kernel
theorem dX8_init_50 : decode cX8_init 50 = .ok (.newarray .int, 2) := by decide +kernel
theorem dX8_init_52 : decode cX8_init 52 = .ok (.putfield 30, 3) := by decide +kernel
theorem dX8_init_55 : decode cX8_init 55 = .ok (.aload_n 0, 1) := by decide +kernel
theorem dX8_init_56 : decode cX8_init 56 = .ok (.bipush 16, 2) := by decide +kernel
theorem dX8_init_58 : decode cX8_init 58 = .ok (.newarray .long, 2) := by decide +kernel
theorem dX8_init_60 : decode cX8_init 60 = .ok (.putfield 33, 3) := by decide +kernel
theorem dX8_init_63 : decode cX8_init 63 = .ok (.aload_n 0, 1) := by decide +kernel
theorem dX8_init_64 : decode cX8_init 64 = .ok (.new 37, 3) := by decide +kernel
theorem dX8_init_67 : decode cX8_init 67 = .ok (.dup, 1) := by decide +kernel
theorem dX8_init_68 : decode cX8_init 68 = .ok (.invokespecial 39, 3) := by decide +kernel
theorem dX8_init_71 : decode cX8_init 71 = .ok (.putfield 40, 3) := by decide +kernel
theorem dX8_init_74 : decode cX8_init 74 = .ok (.aload_n 0, 1) := by decide +kernel
theorem dX8_init_75 : decode cX8_init 75 = .ok (.new 37, 3) := by decide +kernel
theorem dX8_init_78 : decode cX8_init 78 = .ok (.dup, 1) := by decide +kernel
theorem dX8_init_79 : decode cX8_init 79 = .ok (.invokespecial 39, 3) := by decide +kernel
theorem dX8_init_82 : decode cX8_init 82 = .ok (.putfield 44, 3) := by decide +kernel
theorem dX8_init_85 : decode cX8_init 85 = .ok (.aload_n 0, 1) := by decide +kernel
theorem dX8_init_86 : decode cX8_init 86 = .ok (.new 37, 3) := by decide +kernel
theorem dX8_init_89 : decode cX8_init 89 = .ok (.dup, 1) := by decide +kernel
theorem dX8_init_90 : decode cX8_init 90 = .ok (.invokespecial 39, 3) := by decide +kernel
theorem dX8_init_93 : decode cX8_init 93 = .ok (.putfield 47, 3) := by decide +kernel
theorem dX8_init_96 : decode cX8_init 96 = .ok (.aload_n 0, 1) := by decide +kernel
theorem dX8_init_97 : decode cX8_init 97 = .ok (.invokevirtual 50, 3) := by decide +kernel
theorem dX8_init_100 : decode cX8_init 100 = .ok (.return_, 1) := by decide +kernel
theorem dX8_clear_0 : decode cX8_clear 0 = .ok (.aload_n 0, 1) := by decide +kernel
theorem dX8_clear_1 : decode cX8_clear 1 = .ok (.iconst 0, 1) := by decide +kernel
theorem dX8_clear_2 : decode cX8_clear 2 = .ok (.putfield 53, 3) := by decide +kernel
theorem dX8_clear_5 : decode cX8_clear 5 = .ok (.aload_n 0, 1) := by decide +kernel
theorem dX8_clear_6 : decode cX8_clear 6 = .ok (.iconst 0, 1) := by decide +kernel
theorem dX8_clear_7 : decode cX8_clear 7 = .ok (.putfield 57, 3) := by decide +kernel
theorem dX8_clear_10 : decode cX8_clear 10 = .ok (.aload_n 0, 1) := by decide +kernel
theorem dX8_clear_11 : decode cX8_clear 11 = .ok (.iconst 0, 1) := by decide +kernel
theorem dX8_clear_12 : decode cX8_clear 12 = .ok (.putfield 60, 3) := by decide +kernel
theorem dX8_clear_15 : decode cX8_clear 15 = .ok (.aload_n 0, 1) := by decide +kernel
theorem dX8_clear_16 : decode cX8_clear 16 = .ok (.iconst 0, 1) := by decide +kernel
theorem dX8_clear_17 : decode cX8_clear 17 = .ok (.putfield 63, 3) := by decide +kernel
theorem dX8_clear_20 : decode cX8_clear 20 = .ok (.aload_n 0, 1) := by decide +kernel
theorem dX8_clear_21 : decode cX8_clear 21 = .ok (.iconst 0, 1) := by decide +kernel
theorem dX8_clear_22 : decode cX8_clear 22 = .ok (.putfield 66, 3) := by decide +kernel
theorem dX8_clear_25 : decode cX8_clear 25 = .ok (.aload_n 0, 1) := by decide +kernel
theorem dX8_clear_26 : decode cX8_clear 26 = .ok (.iconst 0, 1) := by decide +kernel
theorem dX8_clear_27 : decode cX8_clear 27 = .ok (.putfield 69, 3) := by decide +kernel
theorem dX8_clear_30 : decode cX8_clear 30 = .ok (.aload_n 0, 1) := by decide +kernel
theorem dX8_clear_31 : decode cX8_clear 31 = .ok (.getfield 40, 3) := by decide +kernel
theorem dX8_clear_34 : decode cX8_clear 34 = .ok (.iconst 1, 1) := by decide +kernel
theorem dX8_clear_35 : decode cX8_clear 35 = .ok (.invokevirtual 72, 3) := by decide +kernel
theorem dX8_clear_38 : decode cX8_clear 38 = .ok (.aload_n 0, 1) := by decide +kernel
theorem dX8_clear_39 : decode cX8_clear 39 = .ok (.getfield 44, 3) := by decide +kernel
theorem dX8_clear_42 : decode cX8_clear 42 = .ok (.iconst 1, 1) := by decide +kernel
theorem dX8_clear_43 : decode cX8_clear 43 = .ok (.invokevirtual 72, 3) := by decide +kernel
theorem dX8_clear_46 : decode cX8_clear 46 = .ok (.aload_n 0, 1) := by decide +kernel
theorem dX8_clear_47 : decode cX8_clear 47 = .ok (.getfield 47, 3) := by decide +kernel
theorem dX8_clear_50 : decode cX8_clear 50 = .ok (.bipush (-6), 2) := by decide +kernel
theorem dX8_clear_52 : decode cX8_clear 52 = .ok (.invokevirtual 72, 3) := by decide +kernel
theorem dX8_clear_55 : decode cX8_clear 55 = .ok (.return_, 1) := by decide +kernel
theorem dX8_hasBeing_0 : decode cX8_hasBeing 0 = .ok (.iload_n 1, 1) := by decide +kernel
theorem dX8_hasBeing_1 : decode cX8_hasBeing 1 = .ok (.ifCond .lt 15, 3) := by decide +kernel
theorem dX8_hasBeing_4 : decode cX8_hasBeing 4 = .ok (.iload_n 1, 1) := by decide +kernel
theorem dX8_hasBeing_5 : decode cX8_hasBeing 5 = .ok (.aload_n 0, 1) := by decide +kernel
theorem dX8_hasBeing_6 : decode cX8_hasBeing 6 = .ok (.getfield 57, 3) := by decide +kernel
theorem dX8_hasBeing_9 : decode cX8_hasBeing 9 = .ok (.if_icmp .ge 7, 3) := by decide +kernel
theorem dX8_hasBeing_12 : decode cX8_hasBeing 12 = .ok (.iconst 1, 1) := by decide +kernel
theorem dX8_hasBeing_13 : decode cX8_hasBeing 13 = .ok (.goto 4, 3) := by decide +kernel
theorem dX8_hasBeing_16 : decode cX8_hasBeing 16 = .ok (.iconst 0, 1) := by decide +kernel
theorem dX8_hasBeing_17 : decode cX8_hasBeing 17 = .ok (.ireturn, 1) := by decide +kernel
theorem dX8_hasBridge_0 : decode cX8_hasBridge 0 = .ok (.iload_n 1, 1) := by decide +kernel
theorem dX8_hasBridge_1 : decode cX8_hasBridge 1 = .ok (.ifCond .lt 15, 3) := by decide +kernel
theorem dX8_hasBridge_4 : decode cX8_hasBridge 4 = .ok (.iload_n 1, 1) := by decide +kernel
theorem dX8_hasBridge_5 : decode cX8_hasBridge 5 = .ok (.aload_n 0, 1) := by decide +kernel
theorem dX8_hasBridge_6 : decode cX8_hasBridge 6 = .ok (.getfield 63, 3) := by decide +kernel
theorem dX8_hasBridge_9 : decode cX8_hasBridge 9 = .ok (.if_icmp .ge 7, 3) := by decide +kernel
theorem dX8_hasBridge_12 : decode cX8_hasBridge 12 = .ok (.iconst 1, 1) := by decide +kernel
theorem dX8_hasBridge_13 : decode cX8_hasBridge 13 = .ok (.goto 4, 3) := by decide +kernel
theorem dX8_hasBridge_16 : decode cX8_hasBridge 16 = .ok (.iconst 0, 1) := by decide +kernel
theorem dX8_hasBridge_17 : decode cX8_hasBridge 17 = .ok (.ireturn, 1) := by decide +kernel
theorem dX8_hasWayOrNone_0 : decode cX8_hasWayOrNone 0 = .ok (.iload_n 1, 1) := by decide +kernel
theorem dX8_hasWayOrNone_1 : decode cX8_hasWayOrNone 1 = .ok (.iconst (-1), 1) := by decide +kernel
theorem dX8_hasWayOrNone_2 : decode cX8_hasWayOrNone 2 = .ok (.if_icmp .lt 15, 3) := by decide +kernel
theorem dX8_hasWayOrNone_5 : decode cX8_hasWayOrNone 5 = .ok (.iload_n 1, 1) := by decide +kernel
theorem dX8_hasWayOrNone_6 : decode cX8_hasWayOrNone 6 = .ok (.aload_n 0, 1) := by decide +kernel
theorem dX8_hasWayOrNone_7 : decode cX8_hasWayOrNone 7 = .ok (.getfield 60, 3) := by decide +kernel
theorem dX8_hasWayOrNone_10 : decode cX8_hasWayOrNone 10 = .ok (.if_icmp .ge 7, 3) := by decide +kernel
theorem dX8_hasWayOrNone_13 : decode cX8_hasWayOrNone 13 = .ok (.iconst 1, 1) := by decide +kernel
theorem dX8_hasWayOrNone_14 : decode cX8_hasWayOrNone 14 = .ok (.goto 4, 3) := by decide +kernel
theorem dX8_hasWayOrNone_17 : decode cX8_hasWayOrNone 17 = .ok (.iconst 0, 1) := by decide +kernel
theorem dX8_hasWayOrNone_18 : decode cX8_hasWayOrNone 18 = .ok (.ireturn, 1) := by decide +kernel
theorem dX8_setCount_0 : decode cX8_setCount 0 = .ok (.iconst 1, 1) := by decide +kernel
theorem dX8_setCount_1 : decode cX8_setCount 1 = .ok (.aload_n 0, 1) := by decide +kernel
theorem dX8_setCount_2 : decode cX8_setCount 2 = .ok (.getfield 53, 3) := by decide +kernel
theorem dX8_setCount_5 : decode cX8_setCount 5 = .ok (.ishl, 1) := by decide +kernel
theorem dX8_setCount_6 : decode cX8_setCount 6 = .ok (.ireturn, 1) := by decide +kernel
theorem dX8_setOf_0 : decode cX8_setOf 0 = .ok (.iload_n 2, 1) := by decide +kernel
theorem dX8_setOf_1 : decode cX8_setOf 1 = .ok (.ifCond .ge 12, 3) := by decide +kernel
theorem dX8_setOf_4 : decode cX8_setOf 4 = .ok (.aload_n 0, 1) := by decide +kernel
theorem dX8_setOf_5 : decode cX8_setOf 5 = .ok (.getfield 15, 3) := by decide +kernel
theorem dX8_setOf_8 : decode cX8_setOf 8 = .ok (.iload_n 1, 1) := by decide +kernel
theorem dX8_setOf_9 : decode cX8_setOf 9 = .ok (.iaload, 1) := by decide +kernel
theorem dX8_setOf_10 : decode cX8_setOf 10 = .ok (.goto 25, 3) := by decide +kernel
theorem dX8_setOf_13 : decode cX8_setOf 13 = .ok (.aload_n 0, 1) := by decide +kernel
theorem dX8_setOf_14 : decode cX8_setOf 14 = .ok (.getfield 15, 3) := by decide +kernel
theorem dX8_setOf_17 : decode cX8_setOf 17 = .ok (.iload_n 1, 1) := by decide +kernel
theorem dX8_setOf_18 : decode cX8_setOf 18 = .ok (.iaload, 1) := by decide +kernel
theorem dX8_setOf_19 : decode cX8_setOf 19 = .ok (.aload_n 0, 1) := by decide +kernel
theorem dX8_setOf_20 : decode cX8_setOf 20 = .ok (.getfield 21, 3) := by decide +kernel
theorem dX8_setOf_23 : decode cX8_setOf 23 = .ok (.iload_n 2, 1) := by decide +kernel
theorem dX8_setOf_24 : decode cX8_setOf 24 = .ok (.iaload, 1) := by decide +kernel
theorem dX8_setOf_25 : decode cX8_setOf 25 = .ok (.ior, 1) := by decide +kernel
theorem dX8_setOf_26 : decode cX8_setOf 26 = .ok (.aload_n 0, 1) := by decide +kernel
theorem dX8_setOf_27 : decode cX8_setOf 27 = .ok (.getfield 24, 3) := by decide +kernel
theorem dX8_setOf_30 : decode cX8_setOf 30 = .ok (.iload_n 2, 1) := by decide +kernel
theorem dX8_setOf_31 : decode cX8_setOf 31 = .ok (.iaload, 1) := by decide +kernel
theorem dX8_setOf_32 : decode cX8_setOf 32 = .ok (.iconst (-1), 1) := by decide +kernel
theorem dX8_setOf_33 : decode cX8_setOf 33 = .ok (.ixor, 1) := by decide +kernel
theorem dX8_setOf_34 : decode cX8_setOf 34 = .ok (.iand, 1) := by decide +kernel
theorem dX8_setOf_35 : decode cX8_setOf 35 = .ok (.ireturn, 1) := by decide +kernel
theorem dX8_costOf_0 : decode cX8_costOf 0 = .ok (.iload_n 1, 1) := by decide +kernel
theorem dX8_costOf_1 : decode cX8_costOf 1 = .ok (.ifCond .ge 7, 3) := by decide +kernel
theorem dX8_costOf_4 : decode cX8_costOf 4 = .ok (.iconst 0, 1) := by decide +kernel
theorem dX8_costOf_5 : decode cX8_costOf 5 = .ok (.goto 9, 3) := by decide +kernel
theorem dX8_costOf_8 : decode cX8_costOf 8 = .ok (.aload_n 0, 1) := by decide +kernel
theorem dX8_costOf_9 : decode cX8_costOf 9 = .ok (.getfield 18, 3) := by decide +kernel
theorem dX8_costOf_12 : decode cX8_costOf 12 = .ok (.iload_n 1, 1) := by decide +kernel
theorem dX8_costOf_13 : decode cX8_costOf 13 = .ok (.iaload, 1) := by decide +kernel
theorem dX8_costOf_14 : decode cX8_costOf 14 = .ok (.ireturn, 1) := by decide +kernel
theorem dX8_clauseHolds_0 : decode cX8_clauseHolds 0 = .ok (.aload_n 0, 1) := by decide +kernel
theorem dX8_clauseHolds_1 : decode cX8_clauseHolds 1 = .ok (.iload_n 1, 1) := by decide +kernel
theorem dX8_clauseHolds_2 : decode cX8_clauseHolds 2 = .ok (.invokevirtual 76, 3) := by decide +kernel
theorem dX8_clauseHolds_5 : decode cX8_clauseHolds 5 = .ok (.ifCond .eq 14, 3) := by decide +kernel
theorem dX8_clauseHolds_8 : decode cX8_clauseHolds 8 = .ok (.iload_n 2, 1) := by decide +kernel
theorem dX8_clauseHolds_9 : decode cX8_clauseHolds 9 = .ok (.ifCond .lt 10, 3) := by decide +kernel
theorem dX8_clauseHolds_12 : decode cX8_clauseHolds 12 = .ok (.iload_n 2, 1) := by decide +kernel
theorem dX8_clauseHolds_13 : decode cX8_clauseHolds 13 = .ok (.sipush 256, 3) := by decide +kernel
theorem dX8_clauseHolds_16 : decode cX8_clauseHolds 16 = .ok (.if_icmp .lt 5, 3) := by decide +kernel
theorem dX8_clauseHolds_19 : decode cX8_clauseHolds 19 = .ok (.iconst 0, 1) := by decide +kernel
theorem dX8_clauseHolds_20 : decode cX8_clauseHolds 20 = .ok (.ireturn, 1) := by decide +kernel
theorem dX8_clauseHolds_21 : decode cX8_clauseHolds 21 = .ok (.aload_n 0, 1) := by decide +kernel
theorem dX8_clauseHolds_22 : decode cX8_clauseHolds 22 = .ok (.getfield 33, 3) := by decide +kernel
theorem dX8_clauseHolds_25 : decode cX8_clauseHolds 25 = .ok (.iload_n 1, 1) := by decide +kernel
theorem dX8_clauseHolds_26 : decode cX8_clauseHolds 26 = .ok (.iconst 4, 1) := by decide +kernel
theorem dX8_clauseHolds_27 : decode cX8_clauseHolds 27 = .ok (.imul, 1) := by decide +kernel
theorem dX8_clauseHolds_28 : decode cX8_clauseHolds 28 = .ok (.iload_n 2, 1) := by decide +kernel
theorem dX8_clauseHolds_29 : decode cX8_clauseHolds 29 = .ok (.bipush 6, 2) := by decide +kernel
theorem dX8_clauseHolds_31 : decode cX8_clauseHolds 31 = .ok (.iushr, 1) := by decide +kernel
theorem dX8_clauseHolds_32 : decode cX8_clauseHolds 32 = .ok (.iadd, 1) := by decide +kernel
theorem dX8_clauseHolds_33 : decode cX8_clauseHolds 33 = .ok (.laload, 1) := by decide +kernel
theorem dX8_clauseHolds_34 : decode cX8_clauseHolds 34 = .ok (.iload_n 2, 1) := by decide +kernel
theorem dX8_clauseHolds_35 : decode cX8_clauseHolds 35 = .ok (.bipush 63, 2) := by decide +kernel
theorem dX8_clauseHolds_37 : decode cX8_clauseHolds 37 = .ok (.iand, 1) := by decide +kernel
theorem dX8_clauseHolds_38 : decode cX8_clauseHolds 38 = .ok (.lushr, 1) := by decide +kernel
theorem dX8_clauseHolds_39 : decode cX8_clauseHolds 39 = .ok (.lconst 1, 1) := by decide +kernel
theorem dX8_clauseHolds_40 : decode cX8_clauseHolds 40 = .ok (.land, 1) := by decide +kernel
theorem dX8_clauseHolds_41 : decode cX8_clauseHolds 41 = .ok (.lconst 0, 1) := by decide +kernel
theorem dX8_clauseHolds_42 : decode cX8_clauseHolds 42 = .ok (.lcmp, 1) := by decide +kernel
theorem dX8_clauseHolds_43 : decode cX8_clauseHolds 43 = .ok (.ifCond .eq 7, 3) := by decide +kernel
theorem dX8_clauseHolds_46 : decode cX8_clauseHolds 46 = .ok (.iconst 1, 1) := by decide +kernel
theorem dX8_clauseHolds_47 : decode cX8_clauseHolds 47 = .ok (.goto 4, 3) := by decide +kernel
theorem dX8_clauseHolds_50 : decode cX8_clauseHolds 50 = .ok (.iconst 0, 1) := by decide +kernel
theorem dX8_clauseHolds_51 : decode cX8_clauseHolds 51 = .ok (.ireturn, 1) := by decide +kernel
theorem dX8_setsOfBoth_0 : decode cX8_setsOfBoth 0 = .ok (.aload_n 0, 1) := by decide +kernel
theorem dX8_setsOfBoth_1 : decode cX8_setsOfBoth 1 = .ok (.iload_n 1, 1) := by decide +kernel
theorem dX8_setsOfBoth_2 : decode cX8_setsOfBoth 2 = .ok (.invokevirtual 76, 3) := by decide +kernel
theorem dX8_setsOfBoth_5 : decode cX8_setsOfBoth 5 = .ok (.ifCond .eq 11, 3) := by decide +kernel
theorem dX8_setsOfBoth_8 : decode cX8_setsOfBoth 8 = .ok (.aload_n 0, 1) := by decide +kernel
theorem dX8_setsOfBoth_9 : decode cX8_setsOfBoth 9 = .ok (.iload_n 2, 1) := by decide +kernel
theorem dX8_setsOfBoth_10 : decode cX8_setsOfBoth 10 = .ok (.invokevirtual 76, 3) := by decide +kernel
theorem dX8_setsOfBoth_13 : decode cX8_setsOfBoth 13 = .ok (.ifCond .ne 5, 3) := by decide +kernel
theorem dX8_setsOfBoth_16 : decode cX8_setsOfBoth 16 = .ok (.iconst 0, 1) := by decide +kernel
theorem dX8_setsOfBoth_17 : decode cX8_setsOfBoth 17 = .ok (.ireturn, 1) := by decide +kernel
theorem dX8_setsOfBoth_18 : decode cX8_setsOfBoth 18 = .ok (.iconst 0, 1) := by decide +kernel
theorem dX8_setsOfBoth_19 : decode cX8_setsOfBoth 19 = .ok (.istore_n 3, 1) := by decide +kernel
theorem dX8_setsOfBoth_20 : decode cX8_setsOfBoth 20 = .ok (.iconst 0, 1) := by decide +kernel
theorem dX8_setsOfBoth_21 : decode cX8_setsOfBoth 21 = .ok (.istore 4, 2) := by decide +kernel
theorem dX8_setsOfBoth_23 : decode cX8_setsOfBoth 23 = .ok (.iload 4, 2) := by decide +kernel
theorem dX8_setsOfBoth_25 : decode cX8_setsOfBoth 25 = .ok (.iconst 4, 1) := by decide +kernel
theorem dX8_setsOfBoth_26 : decode cX8_setsOfBoth 26 = .ok (.if_icmp .ge 49, 3) := by decide +kernel
theorem dX8_setsOfBoth_29 : decode cX8_setsOfBoth 29 = .ok (.aload_n 0, 1) := by decide +kernel
theorem dX8_setsOfBoth_30 : decode cX8_setsOfBoth 30 = .ok (.getfield 33, 3) := by decide +kernel
theorem dX8_setsOfBoth_33 : decode cX8_setsOfBoth 33 = .ok (.iload_n 1, 1) := by decide +kernel
theorem dX8_setsOfBoth_34 : decode cX8_setsOfBoth 34 = .ok (.iconst 4, 1) := by decide +kernel
theorem dX8_setsOfBoth_35 : decode cX8_setsOfBoth 35 = .ok (.imul, 1) := by decide +kernel
theorem dX8_setsOfBoth_36 : decode cX8_setsOfBoth 36 = .ok (.iload 4, 2) := by decide +kernel
theorem dX8_setsOfBoth_38 : decode cX8_setsOfBoth 38 = .ok (.iadd, 1) := by decide +kernel
theorem dX8_setsOfBoth_39 : decode cX8_setsOfBoth 39 = .ok (.laload, 1) := by decide +kernel
theorem dX8_setsOfBoth_40 : decode cX8_setsOfBoth 40 = .ok (.aload_n 0, 1) := by decide +kernel
theorem dX8_setsOfBoth_41 : decode cX8_setsOfBoth 41 = .ok (.getfield 33, 3) := by decide +kernel
theorem dX8_setsOfBoth_44 : decode cX8_setsOfBoth 44 = .ok (.iload_n 2, 1) := by decide +kernel
theorem dX8_setsOfBoth_45 : decode cX8_setsOfBoth 45 = .ok (.iconst 4, 1) := by decide +kernel
theorem dX8_setsOfBoth_46 : decode cX8_setsOfBoth 46 = .ok (.imul, 1) := by decide +kernel
theorem dX8_setsOfBoth_47 : decode cX8_setsOfBoth 47 = .ok (.iload 4, 2) := by decide +kernel
theorem dX8_setsOfBoth_49 : decode cX8_setsOfBoth 49 = .ok (.iadd, 1) := by decide +kernel
theorem dX8_setsOfBoth_50 : decode cX8_setsOfBoth 50 = .ok (.laload, 1) := by decide +kernel
theorem dX8_setsOfBoth_51 : decode cX8_setsOfBoth 51 = .ok (.land, 1) := by decide +kernel
theorem dX8_setsOfBoth_52 : decode cX8_setsOfBoth 52 = .ok (.lstore 5, 2) := by decide +kernel
theorem dX8_setsOfBoth_54 : decode cX8_setsOfBoth 54 = .ok (.iload_n 3, 1) := by decide +kernel
theorem dX8_setsOfBoth_55 : decode cX8_setsOfBoth 55 = .ok (.lload 5, 2) := by decide +kernel
theorem dX8_setsOfBoth_57 : decode cX8_setsOfBoth 57 = .ok (.aload_n 0, 1) := by decide +kernel
theorem dX8_setsOfBoth_58 : decode cX8_setsOfBoth 58 = .ok (.iload 4, 2) := by decide +kernel
theorem dX8_setsOfBoth_60 : decode cX8_setsOfBoth 60 = .ok (.invokevirtual 80, 3) := by decide +kernel
theorem dX8_setsOfBoth_63 : decode cX8_setsOfBoth 63 = .ok (.land, 1) := by decide +kernel
theorem dX8_setsOfBoth_64 : decode cX8_setsOfBoth 64 = .ok (.invokestatic 84, 3) := by decide +kernel
theorem dX8_setsOfBoth_67 : decode cX8_setsOfBoth 67 = .ok (.iadd, 1) := by decide +kernel
theorem dX8_setsOfBoth_68 : decode cX8_setsOfBoth 68 = .ok (.istore_n 3, 1) := by decide +kernel
theorem dX8_setsOfBoth_69 : decode cX8_setsOfBoth 69 = .ok (.iinc 4 1, 3) := by decide +kernel
theorem dX8_setsOfBoth_72 : decode cX8_setsOfBoth 72 = .ok (.goto (-49), 3) := by decide +kernel
theorem dX8_setsOfBoth_75 : decode cX8_setsOfBoth 75 = .ok (.iload_n 3, 1) := by decide +kernel
theorem dX8_setsOfBoth_76 : decode cX8_setsOfBoth 76 = .ok (.ireturn, 1) := by decide +kernel
theorem dX8_setsThere_0 : decode cX8_setsThere 0 = .ok (.aload_n 0, 1) := by decide +kernel
theorem dX8_setsThere_1 : decode cX8_setsThere 1 = .ok (.invokevirtual 90, 3) := by decide +kernel
theorem dX8_setsThere_4 : decode cX8_setsThere 4 = .ok (.iload_n 1, 1) := by decide +kernel
theorem dX8_setsThere_5 : decode cX8_setsThere 5 = .ok (.bipush 64, 2) := by decide +kernel
theorem dX8_setsThere_7 : decode cX8_setsThere 7 = .ok (.imul, 1) := by decide +kernel
theorem dX8_setsThere_8 : decode cX8_setsThere 8 = .ok (.isub, 1) := by decide +kernel
theorem dX8_setsThere_9 : decode cX8_setsThere 9 = .ok (.istore_n 2, 1) := by decide +kernel
theorem dX8_setsThere_10 : decode cX8_setsThere 10 = .ok (.iload_n 2, 1) := by decide +kernel
theorem dX8_setsThere_11 : decode cX8_setsThere 11 = .ok (.ifCond .gt 5, 3) := by decide +kernel
theorem dX8_setsThere_14 : decode cX8_setsThere 14 = .ok (.lconst 0, 1) := by decide +kernel
theorem dX8_setsThere_15 : decode cX8_setsThere 15 = .ok (.lreturn, 1) := by decide +kernel
theorem dX8_setsThere_16 : decode cX8_setsThere 16 = .ok (.iload_n 2, 1) := by decide +kernel
theorem dX8_setsThere_17 : decode cX8_setsThere 17 = .ok (.bipush 64, 2) := by decide +kernel
theorem dX8_setsThere_19 : decode cX8_setsThere 19 = .ok (.if_icmp .lt 9, 3) := by decide +kernel
theorem dX8_setsThere_22 : decode cX8_setsThere 22 = .ok (.ldc2_w 94, 3) := by decide +kernel
theorem dX8_setsThere_25 : decode cX8_setsThere 25 = .ok (.goto 8, 3) := by decide +kernel
theorem dX8_setsThere_28 : decode cX8_setsThere 28 = .ok (.lconst 1, 1) := by decide +kernel
theorem dX8_setsThere_29 : decode cX8_setsThere 29 = .ok (.iload_n 2, 1) := by decide +kernel
theorem dX8_setsThere_30 : decode cX8_setsThere 30 = .ok (.lshl, 1) := by decide +kernel
theorem dX8_setsThere_31 : decode cX8_setsThere 31 = .ok (.lconst 1, 1) := by decide +kernel
theorem dX8_setsThere_32 : decode cX8_setsThere 32 = .ok (.lsub, 1) := by decide +kernel
theorem dX8_setsThere_33 : decode cX8_setsThere 33 = .ok (.lreturn, 1) := by decide +kernel
theorem dX8_setsWith_0 : decode cX8_setsWith 0 = .ok (.iload_n 0, 1) := by decide +kernel
theorem dX8_setsWith_1 : decode cX8_setsWith 1 = .ok (.getstatic 96, 3) := by decide +kernel
theorem dX8_setsWith_4 : decode cX8_setsWith 4 = .ok (.arraylength, 1) := by decide +kernel
theorem dX8_setsWith_5 : decode cX8_setsWith 5 = .ok (.if_icmp .ge 17, 3) := by decide +kernel
theorem dX8_setsWith_8 : decode cX8_setsWith 8 = .ok (.iload_n 0, 1) := by decide +kernel
theorem dX8_setsWith_9 : decode cX8_setsWith 9 = .ok (.ifCond .ge 7, 3) := by decide +kernel
theorem dX8_setsWith_12 : decode cX8_setsWith 12 = .ok (.lconst 0, 1) := by decide +kernel
theorem dX8_setsWith_13 : decode cX8_setsWith 13 = .ok (.goto 8, 3) := by decide +kernel
theorem dX8_setsWith_16 : decode cX8_setsWith 16 = .ok (.getstatic 96, 3) := by decide +kernel
theorem dX8_setsWith_19 : decode cX8_setsWith 19 = .ok (.iload_n 0, 1) := by decide +kernel
theorem dX8_setsWith_20 : decode cX8_setsWith 20 = .ok (.laload, 1) := by decide +kernel
theorem dX8_setsWith_21 : decode cX8_setsWith 21 = .ok (.lreturn, 1) := by decide +kernel
theorem dX8_setsWith_22 : decode cX8_setsWith 22 = .ok (.iload_n 1, 1) := by decide +kernel
theorem dX8_setsWith_23 : decode cX8_setsWith 23 = .ok (.iload_n 0, 1) := by decide +kernel
theorem dX8_setsWith_24 : decode cX8_setsWith 24 = .ok (.getstatic 96, 3) := by decide +kernel
theorem dX8_setsWith_27 : decode cX8_setsWith 27 = .ok (.arraylength, 1) := by decide +kernel
theorem dX8_setsWith_28 : decode cX8_setsWith 28 = .ok (.isub, 1) := by decide +kernel
theorem dX8_setsWith_29 : decode cX8_setsWith 29 = .ok (.iushr, 1) := by decide +kernel
theorem dX8_setsWith_30 : decode cX8_setsWith 30 = .ok (.iconst 1, 1) := by decide +kernel
theorem dX8_setsWith_31 : decode cX8_setsWith 31 = .ok (.iand, 1) := by decide +kernel
theorem dX8_setsWith_32 : decode cX8_setsWith 32 = .ok (.ifCond .eq 9, 3) := by decide +kernel
theorem dX8_setsWith_35 : decode cX8_setsWith 35 = .ok (.ldc2_w 94, 3) := by decide +kernel
theorem dX8_setsWith_38 : decode cX8_setsWith 38 = .ok (.goto 4, 3) := by decide +kernel
theorem dX8_setsWith_41 : decode cX8_setsWith 41 = .ok (.lconst 0, 1) := by decide +kernel
theorem dX8_setsWith_42 : decode cX8_setsWith 42 = .ok (.lreturn, 1) := by decide +kernel
