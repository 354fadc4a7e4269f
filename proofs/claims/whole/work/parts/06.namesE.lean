set_option maxRecDepth 20000 in
theorem ggX12_init_X12_layKinds : GoodIn wsX12_init wsX12_layKinds := goodIn_r _ [31, 19, 32, 33, 34, 35, 36, 37, 38, 39, 40, 41, 42, 43, 44, 45, 46, 47, 48, 49, 50, 51, 52, 53, 54, 55, 56] (by decide +kernel) (by decide +kernel)
set_option maxRecDepth 20000 in
theorem gX12_init_X12_layKinds : GoodIn wsX12_init (wsV RX12 74 RX12 yX12_layKinds wsX12_layKinds) := goodIn_app (goodIn_of _ (by decide +kernel)) ggX12_init_X12_layKinds
theorem dX12_init_0 : decode cX12_init 0 = .ok (.aload_n 0, 1) := by decide +kernel
theorem dX12_init_1 : decode cX12_init 1 = .ok (.invokespecial 1, 3) := by decide +kernel
theorem dX12_init_4 : decode cX12_init 4 = .ok (.aload_n 0, 1) := by decide +kernel
theorem dX12_init_5 : decode cX12_init 5 = .ok (.bipush 40, 2) := by decide +kernel
theorem dX12_init_7 : decode cX12_init 7 = .ok (.newarray .int, 2) := by decide +kernel
theorem dX12_init_9 : decode cX12_init 9 = .ok (.putfield 7, 3) := by decide +kernel
theorem dX12_init_12 : decode cX12_init 12 = .ok (.aload_n 0, 1) := by decide +kernel
theorem dX12_init_13 : decode cX12_init 13 = .ok (.bipush 48, 2) := by decide +kernel
theorem dX12_init_15 : decode cX12_init 15 = .ok (.newarray .int, 2) := by decide +kernel
theorem dX12_init_17 : decode cX12_init 17 = .ok (.putfield 13, 3) := by decide +kernel
theorem dX12_init_20 : decode cX12_init 20 = .ok (.aload_n 0, 1) := by decide +kernel
theorem dX12_init_21 : decode cX12_init 21 = .ok (.bipush 48, 2) := by decide +kernel
theorem dX12_init_23 : decode cX12_init 23 = .ok (.newarray .int, 2) := by decide +kernel
theorem dX12_init_25 : decode cX12_init 25 = .ok (.putfield 16, 3) := by decide +kernel
theorem dX12_init_28 : decode cX12_init 28 = .ok (.aload_n 0, 1) := by decide +kernel
theorem dX12_init_29 : decode cX12_init 29 = .ok (.bipush 48, 2) := by decide +kernel
theorem dX12_init_31 : decode cX12_init 31 = .ok (.newarray .int, 2) := by decide +kernel
theorem dX12_init_33 : decode cX12_init 33 = .ok (.putfield 19, 3) := by decide +kernel
theorem dX12_init_36 : decode cX12_init 36 = .ok (.aload_n 0, 1) := by decide +kernel
theorem dX12_init_37 : decode cX12_init 37 = .ok (.iconst 2, 1) := by decide +kernel
theorem dX12_init_38 : decode cX12_init 38 = .ok (.newarray .int, 2) := by decide +kernel
theorem dX12_init_40 : decode cX12_init 40 = .ok (.putfield 22, 3) := by decide +kernel
theorem dX12_init_43 : decode cX12_init 43 = .ok (.aload_n 0, 1) := by decide +kernel
theorem dX12_init_44 : decode cX12_init 44 = .ok (.bipush 41, 2) := by decide +kernel
theorem dX12_init_46 : decode cX12_init 46 = .ok (.newarray .int, 2) := by decide +kernel
theorem dX12_init_48 : decode cX12_init 48 = .ok (.putfield 25, 3) := by decide +kernel
theorem dX12_init_51 : decode cX12_init 51 = .ok (.aload_n 0, 1) := by decide +kernel
theorem dX12_init_52 : decode cX12_init 52 = .ok (.bipush 41, 2) := by decide +kernel
theorem dX12_init_54 : decode cX12_init 54 = .ok (.newarray .int, 2) := by decide +kernel
theorem dX12_init_56 : decode cX12_init 56 = .ok (.putfield 28, 3) := by decide +kernel
theorem dX12_init_59 : decode cX12_init 59 = .ok (.aload_n 0, 1) := by decide +kernel
theorem dX12_init_60 : decode cX12_init 60 = .ok (.bipush 24, 2) := by decide +kernel
theorem dX12_init_62 : decode cX12_init 62 = .ok (.newarray .int, 2) := by decide +kernel
theorem dX12_init_64 : decode cX12_init 64 = .ok (.putfield 31, 3) := by decide +kernel
theorem dX12_init_67 : decode cX12_init 67 = .ok (.aload_n 0, 1) := by decide +kernel
theorem dX12_init_68 : decode cX12_init 68 = .ok (.bipush 96, 2) := by decide +kernel
theorem dX12_init_70 : decode cX12_init 70 = .ok (.newarray .int, 2) := by decide +kernel
theorem dX12_init_72 : decode cX12_init 72 = .ok (.putfield 34, 3) := by decide +kernel
theorem dX12_init_75 : decode cX12_init 75 = .ok (.aload_n 0, 1) := by decide +kernel
theorem dX12_init_76 : decode cX12_init 76 = .ok (.bipush 96, 2) := by decide +kernel
theorem dX12_init_78 : decode cX12_init 78 = .ok (.newarray .int, 2) := by decide +kernel
theorem dX12_init_80 : decode cX12_init 80 = .ok (.putfield 37, 3) := by decide +kernel
theorem dX12_init_83 : decode cX12_init 83 = .ok (.aload_n 0, 1) := by decide +kernel
theorem dX12_init_84 : decode cX12_init 84 = .ok (.bipush 96, 2) := by decide +kernel
theorem dX12_init_86 : decode cX12_init 86 = .ok (.newarray .int, 2) := by decide +kernel
theorem dX12_init_88 : decode cX12_init 88 = .ok (.putfield 40, 3) := by decide +kernel
theorem dX12_init_91 : decode cX12_init 91 = .ok (.aload_n 0, 1) := by decide +kernel
theorem dX12_init_92 : decode cX12_init 92 = .ok (.ldc 43, 2) := by decide +kernel
theorem dX12_init_94 : decode cX12_init 94 = .ok (.newarray .int, 2) := by decide +kernel
theorem dX12_init_96 : decode cX12_init 96 = .ok (.putfield 44, 3) := by decide +kernel
theorem dX12_init_99 : decode cX12_init 99 = .ok (.aload_n 0, 1) := by decide +kernel
theorem dX12_init_100 : decode cX12_init 100 = .ok (.sipush 512, 3) := by decide +kernel
theorem dX12_init_103 : decode cX12_init 103 = .ok (.newarray .int, 2) := by decide +kernel
theorem dX12_init_105 : decode cX12_init 105 = .ok (.putfield 47, 3) := by decide +kernel
theorem dX12_init_108 : decode cX12_init 108 = .ok (.aload_n 0, 1) := by decide +kernel
theorem dX12_init_109 : decode cX12_init 109 = .ok (.bipush 11, 2) := by decide +kernel
theorem dX12_init_111 : decode cX12_init 111 = .ok (.newarray .int, 2) := by decide +kernel
theorem dX12_init_113 : decode cX12_init 113 = .ok (.putfield 50, 3) := by decide +kernel
theorem dX12_init_116 : decode cX12_init 116 = .ok (.aload_n 0, 1) := by decide +kernel
theorem dX12_init_117 : decode cX12_init 117 = .ok (.bipush 14, 2) := by decide +kernel
theorem dX12_init_119 : decode cX12_init 119 = .ok (.newarray .int, 2) := by decide +kernel
theorem dX12_init_121 : decode cX12_init 121 = .ok (.putfield 53, 3) := by decide +kernel
theorem dX12_init_124 : decode cX12_init 124 = .ok (.aload_n 0, 1) := by decide +kernel
theorem dX12_init_125 : decode cX12_init 125 = .ok (.bipush 14, 2) := by decide +kernel
theorem dX12_init_127 : decode cX12_init 127 = .ok (.newarray .int, 2) := by decide +kernel
theorem dX12_init_129 : decode cX12_init 129 = .ok (.putfield 56, 3) := by decide +kernel
theorem dX12_init_132 : decode cX12_init 132 = .ok (.aload_n 0, 1) := by decide +kernel
theorem dX12_init_133 : decode cX12_init 133 = .ok (.bipush 96, 2) := by decide +kernel
theorem dX12_init_135 : decode cX12_init 135 = .ok (.newarray .int, 2) := by decide +kernel
theorem dX12_init_137 : decode cX12_init 137 = .ok (.putfield 59, 3) := by decide +kernel
theorem dX12_init_140 : decode cX12_init 140 = .ok (.aload_n 0, 1) := by decide +kernel
theorem dX12_init_141 : decode cX12_init 141 = .ok (.sipush 16384, 3) := by decide +kernel
theorem dX12_init_144 : decode cX12_init 144 = .ok (.newarray .int, 2) := by decide +kernel
theorem dX12_init_146 : decode cX12_init 146 = .ok (.putfield 62, 3) := by decide +kernel
theorem dX12_init_149 : decode cX12_init 149 = .ok (.aload_n 0, 1) := by decide +kernel
theorem dX12_init_150 : decode cX12_init 150 = .ok (.sipush 16384, 3) := by decide +kernel
theorem dX12_init_153 : decode cX12_init 153 = .ok (.newarray .int, 2) := by decide +kernel
theorem dX12_init_155 : decode cX12_init 155 = .ok (.putfield 65, 3) := by decide +kernel
theorem dX12_init_158 : decode cX12_init 158 = .ok (.aload_n 0, 1) := by decide +kernel
theorem dX12_init_159 : decode cX12_init 159 = .ok (.bipush 24, 2) := by decide +kernel
theorem dX12_init_161 : decode cX12_init 161 = .ok (.newarray .int, 2) := by decide +kernel
theorem dX12_init_163 : decode cX12_init 163 = .ok (.putfield 68, 3) := by decide +kernel
theorem dX12_init_166 : decode cX12_init 166 = .ok (.aload_n 0, 1) := by decide +kernel
theorem dX12_init_167 : decode cX12_init 167 = .ok (.bipush 24, 2) := by decide +kernel
theorem dX12_init_169 : decode cX12_init 169 = .ok (.newarray .int, 2) := by decide +kernel
theorem dX12_init_171 : decode cX12_init 171 = .ok (.putfield 71, 3) := by decide +kernel
theorem dX12_init_174 : decode cX12_init 174 = .ok (.iconst 0, 1) := by decide +kernel
theorem dX12_init_175 : decode cX12_init 175 = .ok (.istore_n 1, 1) := by decide +kernel
theorem dX12_init_176 : decode cX12_init 176 = .ok (.iload_n 1, 1) := by decide +kernel
theorem dX12_init_177 : decode cX12_init 177 = .ok (.iconst 2, 1) := by decide +kernel
theorem dX12_init_178 : decode cX12_init 178 = .ok (.if_icmp .ge 48, 3) := by decide +kernel
theorem dX12_init_181 : decode cX12_init 181 = .ok (.aload_n 0, 1) := by decide +kernel
theorem dX12_init_182 : decode cX12_init 182 = .ok (.getfield 13, 3) := by decide +kernel
theorem dX12_init_185 : decode cX12_init 185 = .ok (.bipush 24, 2) := by decide +kernel
theorem dX12_init_187 : decode cX12_init 187 = .ok (.iload_n 1, 1) := by decide +kernel
theorem dX12_init_188 : decode cX12_init 188 = .ok (.imul, 1) := by decide +kernel
theorem dX12_init_189 : decode cX12_init 189 = .ok (.bipush 48, 2) := by decide +kernel
theorem dX12_init_191 : decode cX12_init 191 = .ok (.iastore, 1) := by decide +kernel
theorem dX12_init_192 : decode cX12_init 192 = .ok (.aload_n 0, 1) := by decide +kernel
theorem dX12_init_193 : decode cX12_init 193 = .ok (.getfield 19, 3) := by decide +kernel
theorem dX12_init_196 : decode cX12_init 196 = .ok (.bipush 24, 2) := by decide +kernel
theorem dX12_init_198 : decode cX12_init 198 = .ok (.iload_n 1, 1) := by decide +kernel
theorem dX12_init_199 : decode cX12_init 199 = .ok (.imul, 1) := by decide +kernel
theorem dX12_init_200 : decode cX12_init 200 = .ok (.iconst 1, 1) := by decide +kernel
theorem dX12_init_201 : decode cX12_init 201 = .ok (.iastore, 1) := by decide +kernel
theorem dX12_init_202 : decode cX12_init 202 = .ok (.aload_n 0, 1) := by decide +kernel
theorem dX12_init_203 : decode cX12_init 203 = .ok (.getfield 16, 3) := by decide +kernel
theorem dX12_init_206 : decode cX12_init 206 = .ok (.bipush 24, 2) := by decide +kernel
theorem dX12_init_208 : decode cX12_init 208 = .ok (.iload_n 1, 1) := by decide +kernel
theorem dX12_init_209 : decode cX12_init 209 = .ok (.imul, 1) := by decide +kernel
theorem dX12_init_210 : decode cX12_init 210 = .ok (.bipush (-6), 2) := by decide +kernel
theorem dX12_init_212 : decode cX12_init 212 = .ok (.iastore, 1) := by decide +kernel
theorem dX12_init_213 : decode cX12_init 213 = .ok (.aload_n 0, 1) := by decide +kernel
theorem dX12_init_214 : decode cX12_init 214 = .ok (.getfield 22, 3) := by decide +kernel
theorem dX12_init_217 : decode cX12_init 217 = .ok (.iload_n 1, 1) := by decide +kernel
theorem dX12_init_218 : decode cX12_init 218 = .ok (.iconst 1, 1) := by decide +kernel
theorem dX12_init_219 : decode cX12_init 219 = .ok (.iastore, 1) := by decide +kernel
theorem dX12_init_220 : decode cX12_init 220 = .ok (.iinc 1 1, 3) := by decide +kernel
theorem dX12_init_223 : decode cX12_init 223 = .ok (.goto (-47), 3) := by decide +kernel
theorem dX12_init_226 : decode cX12_init 226 = .ok (.aload_n 0, 1) := by decide +kernel
theorem dX12_init_227 : decode cX12_init 227 = .ok (.invokevirtual 74, 3) := by decide +kernel
theorem dX12_init_230 : decode cX12_init 230 = .ok (.return_, 1) := by decide +kernel
theorem dX12_in_0 : decode cX12_in 0 = .ok (.lload_n 0, 1) := by decide +kernel
theorem dX12_in_1 : decode cX12_in 1 = .ok (.lload_n 2, 1) := by decide +kernel
theorem dX12_in_2 : decode cX12_in 2 = .ok (.lcmp, 1) := by decide +kernel
theorem dX12_in_3 : decode cX12_in 3 = .ok (.ifCond .lt 14, 3) := by decide +kernel
theorem dX12_in_6 : decode cX12_in 6 = .ok (.lload_n 0, 1) := by decide +kernel
theorem dX12_in_7 : decode cX12_in 7 = .ok (.lload 4, 2) := by decide +kernel
theorem dX12_in_9 : decode cX12_in 9 = .ok (.lcmp, 1) := by decide +kernel
theorem dX12_in_10 : decode cX12_in 10 = .ok (.ifCond .gt 7, 3) := by decide +kernel
theorem dX12_in_13 : decode cX12_in 13 = .ok (.iconst 1, 1) := by decide +kernel
theorem dX12_in_14 : decode cX12_in 14 = .ok (.goto 4, 3) := by decide +kernel
theorem dX12_in_17 : decode cX12_in 17 = .ok (.iconst 0, 1) := by decide +kernel
theorem dX12_in_18 : decode cX12_in 18 = .ok (.ireturn, 1) := by decide +kernel
theorem dX12_ones_0 : decode cX12_ones 0 = .ok (.iconst 0, 1) := by decide +kernel
theorem dX12_ones_1 : decode cX12_ones 1 = .ok (.istore_n 1, 1) := by decide +kernel
theorem dX12_ones_2 : decode cX12_ones 2 = .ok (.iconst 0, 1) := by decide +kernel
theorem dX12_ones_3 : decode cX12_ones 3 = .ok (.istore_n 2, 1) := by decide +kernel
theorem dX12_ones_4 : decode cX12_ones 4 = .ok (.iload_n 2, 1) := by decide +kernel
theorem dX12_ones_5 : decode cX12_ones 5 = .ok (.bipush 14, 2) := by decide +kernel
theorem dX12_ones_7 : decode cX12_ones 7 = .ok (.if_icmp .ge 17, 3) := by decide +kernel
theorem dX12_ones_10 : decode cX12_ones 10 = .ok (.iload_n 1, 1) := by decide +kernel
theorem dX12_ones_11 : decode cX12_ones 11 = .ok (.iload_n 0, 1) := by decide +kernel
theorem dX12_ones_12 : decode cX12_ones 12 = .ok (.iload_n 2, 1) := by decide +kernel
theorem dX12_ones_13 : decode cX12_ones 13 = .ok (.ishr, 1) := by decide +kernel
theorem dX12_ones_14 : decode cX12_ones 14 = .ok (.iconst 1, 1) := by decide +kernel
theorem dX12_ones_15 : decode cX12_ones 15 = .ok (.iand, 1) := by decide +kernel
theorem dX12_ones_16 : decode cX12_ones 16 = .ok (.iadd, 1) := by decide +kernel
theorem dX12_ones_17 : decode cX12_ones 17 = .ok (.istore_n 1, 1) := by decide +kernel
theorem dX12_ones_18 : decode cX12_ones 18 = .ok (.iinc 2 1, 3) := by decide +kernel
theorem dX12_ones_21 : decode cX12_ones 21 = .ok (.goto (-17), 3) := by decide +kernel
theorem dX12_ones_24 : decode cX12_ones 24 = .ok (.iload_n 1, 1) := by decide +kernel
theorem dX12_ones_25 : decode cX12_ones 25 = .ok (.ireturn, 1) := by decide +kernel
set_option maxRecDepth 20000 in
theorem ggX12_say_X12_in : GoodIn wsX12_say wsX12_in := goodIn_r _ [8] (by decide +kernel) (by decide +kernel)
set_option maxRecDepth 20000 in
theorem gX12_say_X12_in : GoodIn wsX12_say (va_wsS RX12 81 yX12_in wsX12_in) := goodIn_app (goodIn_of _ (by decide +kernel)) ggX12_say_X12_in
theorem dX12_say_0 : decode cX12_say 0 = .ok (.iload_n 1, 1) := by decide +kernel
theorem dX12_say_1 : decode cX12_say 1 = .ok (.i2l, 1) := by decide +kernel
theorem dX12_say_2 : decode cX12_say 2 = .ok (.ldc2_w 77, 3) := by decide +kernel
theorem dX12_say_5 : decode cX12_say 5 = .ok (.ldc2_w 79, 3) := by decide +kernel
theorem dX12_say_8 : decode cX12_say 8 = .ok (.invokestatic 81, 3) := by decide +kernel
theorem dX12_say_11 : decode cX12_say 11 = .ok (.ifCond .ne 6, 3) := by decide +kernel
theorem dX12_say_14 : decode cX12_say 14 = .ok (.bipush (-2), 2) := by decide +kernel
theorem dX12_say_16 : decode cX12_say 16 = .ok (.ireturn, 1) := by decide +kernel
theorem dX12_say_17 : decode cX12_say 17 = .ok (.aload_n 0, 1) := by decide +kernel
theorem dX12_say_18 : decode cX12_say 18 = .ok (.getfield 85, 3) := by decide +kernel
theorem dX12_say_21 : decode cX12_say 21 = .ok (.bipush 40, 2) := by decide +kernel
theorem dX12_say_23 : decode cX12_say 23 = .ok (.if_icmp .ne 6, 3) := by decide +kernel
theorem dX12_say_26 : decode cX12_say 26 = .ok (.bipush (-4), 2) := by decide +kernel
theorem dX12_say_28 : decode cX12_say 28 = .ok (.ireturn, 1) := by decide +kernel
theorem dX12_say_29 : decode cX12_say 29 = .ok (.aload_n 0, 1) := by decide +kernel
theorem dX12_say_30 : decode cX12_say 30 = .ok (.getfield 7, 3) := by decide +kernel
theorem dX12_say_33 : decode cX12_say 33 = .ok (.aload_n 0, 1) := by decide +kernel
theorem dX12_say_34 : decode cX12_say 34 = .ok (.getfield 85, 3) := by decide +kernel
theorem dX12_say_37 : decode cX12_say 37 = .ok (.iload_n 1, 1) := by decide +kernel
theorem dX12_say_38 : decode cX12_say 38 = .ok (.iastore, 1) := by decide +kernel
theorem dX12_say_39 : decode cX12_say 39 = .ok (.aload_n 0, 1) := by decide +kernel
theorem dX12_say_40 : decode cX12_say 40 = .ok (.dup, 1) := by decide +kernel
theorem dX12_say_41 : decode cX12_say 41 = .ok (.getfield 85, 3) := by decide +kernel
theorem dX12_say_44 : decode cX12_say 44 = .ok (.iconst 1, 1) := by decide +kernel
theorem dX12_say_45 : decode cX12_say 45 = .ok (.iadd, 1) := by decide +kernel
theorem dX12_say_46 : decode cX12_say 46 = .ok (.putfield 85, 3) := by decide +kernel
theorem dX12_say_49 : decode cX12_say 49 = .ok (.aload_n 0, 1) := by decide +kernel
theorem dX12_say_50 : decode cX12_say 50 = .ok (.getfield 85, 3) := by decide +kernel
theorem dX12_say_53 : decode cX12_say 53 = .ok (.ireturn, 1) := by decide +kernel
theorem dX12_wipe_0 : decode cX12_wipe 0 = .ok (.aload_n 0, 1) := by decide +kernel
theorem dX12_wipe_1 : decode cX12_wipe 1 = .ok (.getfield 85, 3) := by decide +kernel
theorem dX12_wipe_4 : decode cX12_wipe 4 = .ok (.istore_n 1, 1) := by decide +kernel
theorem dX12_wipe_5 : decode cX12_wipe 5 = .ok (.aload_n 0, 1) := by decide +kernel
theorem dX12_wipe_6 : decode cX12_wipe 6 = .ok (.iconst 0, 1) := by decide +kernel
theorem dX12_wipe_7 : decode cX12_wipe 7 = .ok (.putfield 85, 3) := by decide +kernel
theorem dX12_wipe_10 : decode cX12_wipe 10 = .ok (.iload_n 1, 1) := by decide +kernel
theorem dX12_wipe_11 : decode cX12_wipe 11 = .ok (.ireturn, 1) := by decide +kernel
set_option maxRecDepth 20000 in
theorem ggX12_isInput_X12_in : GoodIn wsX12_isInput wsX12_in := goodIn_r _ [6] (by decide +kernel) (by decide +kernel)
set_option maxRecDepth 20000 in
theorem gX12_isInput_X12_in : GoodIn wsX12_isInput (va_wsS RX12 81 yX12_in wsX12_in) := goodIn_app (goodIn_of _ (by decide +kernel)) ggX12_isInput_X12_in
theorem dX12_isInput_0 : decode cX12_isInput 0 = .ok (.iload_n 0, 1) := by decide +kernel
theorem dX12_isInput_1 : decode cX12_isInput 1 = .ok (.i2l, 1) := by decide +kernel
theorem dX12_isInput_2 : decode cX12_isInput 2 = .ok (.ldc2_w 89, 3) := by decide +kernel
theorem dX12_isInput_5 : decode cX12_isInput 5 = .ok (.ldc2_w 91, 3) := by decide +kernel
theorem dX12_isInput_8 : decode cX12_isInput 8 = .ok (.invokestatic 81, 3) := by decide +kernel
theorem dX12_isInput_11 : decode cX12_isInput 11 = .ok (.ireturn, 1) := by decide +kernel
set_option maxRecDepth 20000 in
theorem ggX12_isNumber_X12_in : GoodIn wsX12_isNumber wsX12_in := goodIn_r _ [6] (by decide +kernel) (by decide +kernel)
set_option maxRecDepth 20000 in
theorem gX12_isNumber_X12_in : GoodIn wsX12_isNumber (va_wsS RX12 81 yX12_in wsX12_in) := goodIn_app (goodIn_of _ (by decide +kernel)) ggX12_isNumber_X12_in
theorem dX12_isNumber_0 : decode cX12_isNumber 0 = .ok (.iload_n 0, 1) := by decide +kernel
theorem dX12_isNumber_1 : decode cX12_isNumber 1 = .ok (.i2l, 1) := by decide +kernel
theorem dX12_isNumber_2 : decode cX12_isNumber 2 = .ok (.ldc2_w 93, 3) := by decide +kernel
theorem dX12_isNumber_5 : decode cX12_isNumber 5 = .ok (.ldc2_w 95, 3) := by decide +kernel
theorem dX12_isNumber_8 : decode cX12_isNumber 8 = .ok (.invokestatic 81, 3) := by decide +kernel
theorem dX12_isNumber_11 : decode cX12_isNumber 11 = .ok (.ireturn, 1) := by decide +kernel
set_option maxRecDepth 20000 in
theorem ggX12_partsOf_X12_isInput : GoodIn wsX12_partsOf wsX12_isInput := goodIn_r _ [4, 5, 6, 7, 8, 3, 9] (by decide +kernel) (by decide +kernel)
set_option maxRecDepth 20000 in
theorem gX12_partsOf_X12_isInput : GoodIn wsX12_partsOf (va_wsS RX12 97 yX12_isInput wsX12_isInput) := goodIn_app (goodIn_of _ (by decide +kernel)) ggX12_partsOf_X12_isInput
set_option maxRecDepth 20000 in
theorem ggX12_partsOf_X12_isNumber : GoodIn wsX12_partsOf wsX12_isNumber := goodIn_r _ [12, 13, 14, 7, 8, 3, 9] (by decide +kernel) (by decide +kernel)
set_option maxRecDepth 20000 in
theorem gX12_partsOf_X12_isNumber : GoodIn wsX12_partsOf (va_wsS RX12 101 yX12_isNumber wsX12_isNumber) := goodIn_app (goodIn_of _ (by decide +kernel)) ggX12_partsOf_X12_isNumber
theorem dX12_partsOf_0 : decode cX12_partsOf 0 = .ok (.iload_n 0, 1) := by decide +kernel
theorem dX12_partsOf_1 : decode cX12_partsOf 1 = .ok (.invokestatic 97, 3) := by decide +kernel
theorem dX12_partsOf_4 : decode cX12_partsOf 4 = .ok (.ifCond .ne 10, 3) := by decide +kernel
theorem dX12_partsOf_7 : decode cX12_partsOf 7 = .ok (.iload_n 0, 1) := by decide +kernel
theorem dX12_partsOf_8 : decode cX12_partsOf 8 = .ok (.invokestatic 101, 3) := by decide +kernel
theorem dX12_partsOf_11 : decode cX12_partsOf 11 = .ok (.ifCond .eq 5, 3) := by decide +kernel
theorem dX12_partsOf_14 : decode cX12_partsOf 14 = .ok (.iconst 0, 1) := by decide +kernel
theorem dX12_partsOf_15 : decode cX12_partsOf 15 = .ok (.ireturn, 1) := by decide +kernel
theorem dX12_partsOf_16 : decode cX12_partsOf 16 = .ok (.iload_n 0, 1) := by decide +kernel
theorem dX12_partsOf_17 : decode cX12_partsOf 17 = .ok (.lookupswitch 79 #[(42, 75), (43, 75), (45, 75), (60, 77), (61, 77), (62, 77), (77, 75), (109, 75)], 75) := by decide +kernel
theorem dX12_partsOf_92 : decode cX12_partsOf 92 = .ok (.iconst 2, 1) := by decide +kernel
theorem dX12_partsOf_93 : decode cX12_partsOf 93 = .ok (.ireturn, 1) := by decide +kernel
theorem dX12_partsOf_94 : decode cX12_partsOf 94 = .ok (.iconst 4, 1) := by decide +kernel
theorem dX12_partsOf_95 : decode cX12_partsOf 95 = .ok (.ireturn, 1) := by decide +kernel
theorem dX12_partsOf_96 : decode cX12_partsOf 96 = .ok (.iconst (-1), 1) := by decide +kernel
theorem dX12_partsOf_97 : decode cX12_partsOf 97 = .ok (.ireturn, 1) := by decide +kernel
set_option maxRecDepth 20000 in
theorem ggX12_fault_X12_partsOf : GoodIn wsX12_fault wsX12_partsOf := goodIn_r _ [7, 8, 9, 6, 10, 11, 12, 13, 14, 15, 16, 17, 18, 19, 20] (by decide +kernel) (by decide +kernel)
set_option maxRecDepth 20000 in
theorem gX12_fault_X12_partsOf : GoodIn wsX12_fault (va_wsS RX12 104 yX12_partsOf wsX12_partsOf) := goodIn_app (goodIn_of _ (by decide +kernel)) ggX12_fault_X12_partsOf
theorem dX12_fault_0 : decode cX12_fault 0 = .ok (.iconst 0, 1) := by decide +kernel
theorem dX12_fault_1 : decode cX12_fault 1 = .ok (.istore_n 1, 1) := by decide +kernel
theorem dX12_fault_2 : decode cX12_fault 2 = .ok (.iconst 0, 1) := by decide +kernel
theorem dX12_fault_3 : decode cX12_fault 3 = .ok (.istore_n 2, 1) := by decide +kernel
theorem dX12_fault_4 : decode cX12_fault 4 = .ok (.iconst 0, 1) := by decide +kernel
theorem dX12_fault_5 : decode cX12_fault 5 = .ok (.istore_n 3, 1) := by decide +kernel
theorem dX12_fault_6 : decode cX12_fault 6 = .ok (.iload_n 3, 1) := by decide +kernel
theorem dX12_fault_7 : decode cX12_fault 7 = .ok (.aload_n 0, 1) := by decide +kernel
theorem dX12_fault_8 : decode cX12_fault 8 = .ok (.getfield 85, 3) := by decide +kernel
theorem dX12_fault_11 : decode cX12_fault 11 = .ok (.if_icmp .ge 92, 3) := by decide +kernel
theorem dX12_fault_14 : decode cX12_fault 14 = .ok (.aload_n 0, 1) := by decide +kernel
theorem dX12_fault_15 : decode cX12_fault 15 = .ok (.getfield 7, 3) := by decide +kernel
theorem dX12_fault_18 : decode cX12_fault 18 = .ok (.iload_n 3, 1) := by decide +kernel
theorem dX12_fault_19 : decode cX12_fault 19 = .ok (.iaload, 1) := by decide +kernel
theorem dX12_fault_20 : decode cX12_fault 20 = .ok (.invokestatic 104, 3) := by decide +kernel
theorem dX12_fault_23 : decode cX12_fault 23 = .ok (.istore 4, 2) := by decide +kernel
theorem dX12_fault_25 : decode cX12_fault 25 = .ok (.iload_n 2, 1) := by decide +kernel
theorem dX12_fault_26 : decode cX12_fault 26 = .ok (.ifCond .ne 19, 3) := by decide +kernel
theorem dX12_fault_29 : decode cX12_fault 29 = .ok (.iload 4, 2) := by decide +kernel
theorem dX12_fault_31 : decode cX12_fault 31 = .ok (.ifCond .lt 14, 3) := by decide +kernel
theorem dX12_fault_34 : decode cX12_fault 34 = .ok (.iload 4, 2) := by decide +kernel
theorem dX12_fault_36 : decode cX12_fault 36 = .ok (.ifCond .le 11, 3) := by decide +kernel
theorem dX12_fault_39 : decode cX12_fault 39 = .ok (.iload_n 1, 1) := by decide +kernel
theorem dX12_fault_40 : decode cX12_fault 40 = .ok (.bipush 9, 2) := by decide +kernel
theorem dX12_fault_42 : decode cX12_fault 42 = .ok (.if_icmp .lt 5, 3) := by decide +kernel
theorem dX12_fault_45 : decode cX12_fault 45 = .ok (.iload_n 3, 1) := by decide +kernel
theorem dX12_fault_46 : decode cX12_fault 46 = .ok (.ireturn, 1) := by decide +kernel
theorem dX12_fault_47 : decode cX12_fault 47 = .ok (.iinc 1 1, 3) := by decide +kernel
theorem dX12_fault_50 : decode cX12_fault 50 = .ok (.aload_n 0, 1) := by decide +kernel
theorem dX12_fault_51 : decode cX12_fault 51 = .ok (.getfield 25, 3) := by decide +kernel
theorem dX12_fault_54 : decode cX12_fault 54 = .ok (.iload_n 1, 1) := by decide +kernel
theorem dX12_fault_55 : decode cX12_fault 55 = .ok (.iload 4, 2) := by decide +kernel
theorem dX12_fault_57 : decode cX12_fault 57 = .ok (.iastore, 1) := by decide +kernel
theorem dX12_fault_58 : decode cX12_fault 58 = .ok (.iload_n 1, 1) := by decide +kernel
theorem dX12_fault_59 : decode cX12_fault 59 = .ok (.ifCond .le 28, 3) := by decide +kernel
theorem dX12_fault_62 : decode cX12_fault 62 = .ok (.aload_n 0, 1) := by decide +kernel
theorem dX12_fault_63 : decode cX12_fault 63 = .ok (.getfield 25, 3) := by decide +kernel
theorem dX12_fault_66 : decode cX12_fault 66 = .ok (.iload_n 1, 1) := by decide +kernel
theorem dX12_fault_67 : decode cX12_fault 67 = .ok (.iaload, 1) := by decide +kernel
theorem dX12_fault_68 : decode cX12_fault 68 = .ok (.ifCond .ne 19, 3) := by decide +kernel
theorem dX12_fault_71 : decode cX12_fault 71 = .ok (.iinc 1 (-1), 3) := by decide +kernel
theorem dX12_fault_74 : decode cX12_fault 74 = .ok (.aload_n 0, 1) := by decide +kernel
theorem dX12_fault_75 : decode cX12_fault 75 = .ok (.getfield 25, 3) := by decide +kernel
theorem dX12_fault_78 : decode cX12_fault 78 = .ok (.iload_n 1, 1) := by decide +kernel
theorem dX12_fault_79 : decode cX12_fault 79 = .ok (.dup2, 1) := by decide +kernel
theorem dX12_fault_80 : decode cX12_fault 80 = .ok (.iaload, 1) := by decide +kernel
theorem dX12_fault_81 : decode cX12_fault 81 = .ok (.iconst 1, 1) := by decide +kernel
theorem dX12_fault_82 : decode cX12_fault 82 = .ok (.isub, 1) := by decide +kernel
theorem dX12_fault_83 : decode cX12_fault 83 = .ok (.iastore, 1) := by decide +kernel
theorem dX12_fault_84 : decode cX12_fault 84 = .ok (.goto (-26), 3) := by decide +kernel
theorem dX12_fault_87 : decode cX12_fault 87 = .ok (.iload_n 1, 1) := by decide +kernel
theorem dX12_fault_88 : decode cX12_fault 88 = .ok (.ifCond .ne 7, 3) := by decide +kernel
theorem dX12_fault_91 : decode cX12_fault 91 = .ok (.iconst 1, 1) := by decide +kernel
theorem dX12_fault_92 : decode cX12_fault 92 = .ok (.goto 4, 3) := by decide +kernel
theorem dX12_fault_95 : decode cX12_fault 95 = .ok (.iconst 0, 1) := by decide +kernel
theorem dX12_fault_96 : decode cX12_fault 96 = .ok (.istore_n 2, 1) := by decide +kernel
theorem dX12_fault_97 : decode cX12_fault 97 = .ok (.iinc 3 1, 3) := by decide +kernel
theorem dX12_fault_100 : decode cX12_fault 100 = .ok (.goto (-94), 3) := by decide +kernel
theorem dX12_fault_103 : decode cX12_fault 103 = .ok (.iload_n 2, 1) := by decide +kernel
theorem dX12_fault_104 : decode cX12_fault 104 = .ok (.ifCond .eq 8, 3) := by decide +kernel
theorem dX12_fault_107 : decode cX12_fault 107 = .ok (.bipush (-6), 2) := by decide +kernel
theorem dX12_fault_109 : decode cX12_fault 109 = .ok (.goto 7, 3) := by decide +kernel
theorem dX12_fault_112 : decode cX12_fault 112 = .ok (.aload_n 0, 1) := by decide +kernel
theorem dX12_fault_113 : decode cX12_fault 113 = .ok (.getfield 85, 3) := by decide +kernel
theorem dX12_fault_116 : decode cX12_fault 116 = .ok (.ireturn, 1) := by decide +kernel
set_option maxRecDepth 20000 in
theorem ggX12_read_X12_in : GoodIn wsX12_read wsX12_in := goodIn_r _ [13] (by decide +kernel) (by decide +kernel)
set_option maxRecDepth 20000 in
theorem gX12_read_X12_in : GoodIn wsX12_read (va_wsS RX12 81 yX12_in wsX12_in) := goodIn_app (goodIn_of _ (by decide +kernel)) ggX12_read_X12_in
set_option maxRecDepth 20000 in
theorem ggX12_read_X12_fault : GoodIn wsX12_read wsX12_fault := goodIn_r _ [17, 1, 3, 6, 18, 19, 12, 20, 21, 22, 23, 24, 25, 10, 11, 13, 26, 27, 28, 29, 30, 31, 32, 33, 34, 35, 36, 37, 38, 39, 40, 41, 42, 43, 44, 45, 46, 47, 48, 49, 50, 51, 52, 53, 54, 55] (by decide +kernel) (by decide +kernel)
set_option maxRecDepth 20000 in
theorem gX12_read_X12_fault : GoodIn wsX12_read (wsV RX12 108 RX12 yX12_fault wsX12_fault) := goodIn_app (goodIn_of _ (by decide +kernel)) ggX12_read_X12_fault
set_option maxRecDepth 20000 in
theorem ggX12_read_X12_partsOf : GoodIn wsX12_read wsX12_partsOf := goodIn_r _ [20, 21, 22, 12, 23, 24, 25, 10, 11, 13, 26, 27, 28, 29, 30] (by decide +kernel) (by decide +kernel)
set_option maxRecDepth 20000 in
theorem gX12_read_X12_partsOf : GoodIn wsX12_read (va_wsS RX12 104 yX12_partsOf wsX12_partsOf) := goodIn_app (goodIn_of _ (by decide +kernel)) ggX12_read_X12_partsOf
theorem dX12_read_0 : decode cX12_read 0 = .ok (.iload_n 1, 1) := by decide +kernel
theorem dX12_read_1 : decode cX12_read 1 = .ok (.i2l, 1) := by decide +kernel
theorem dX12_read_2 : decode cX12_read 2 = .ok (.lconst 0, 1) := by decide +kernel
theorem dX12_read_3 : decode cX12_read 3 = .ok (.lconst 1, 1) := by decide +kernel
theorem dX12_read_4 : decode cX12_read 4 = .ok (.invokestatic 81, 3) := by decide +kernel
theorem dX12_read_7 : decode cX12_read 7 = .ok (.ifCond .ne 5, 3) := by decide +kernel
theorem dX12_read_10 : decode cX12_read 10 = .ok (.iconst (-1), 1) := by decide +kernel
theorem dX12_read_11 : decode cX12_read 11 = .ok (.ireturn, 1) := by decide +kernel
theorem dX12_read_12 : decode cX12_read 12 = .ok (.aload_n 0, 1) := by decide +kernel
theorem dX12_read_13 : decode cX12_read 13 = .ok (.invokevirtual 108, 3) := by decide +kernel
theorem dX12_read_16 : decode cX12_read 16 = .ok (.ifCond .lt 6, 3) := by decide +kernel
theorem dX12_read_19 : decode cX12_read 19 = .ok (.bipush (-5), 2) := by decide +kernel
theorem dX12_read_21 : decode cX12_read 21 = .ok (.ireturn, 1) := by decide +kernel
theorem dX12_read_22 : decode cX12_read 22 = .ok (.aload_n 0, 1) := by decide +kernel
theorem dX12_read_23 : decode cX12_read 23 = .ok (.getfield 85, 3) := by decide +kernel
theorem dX12_read_26 : decode cX12_read 26 = .ok (.bipush 24, 2) := by decide +kernel
theorem dX12_read_28 : decode cX12_read 28 = .ok (.if_icmp .le 6, 3) := by decide +kernel
theorem dX12_read_31 : decode cX12_read 31 = .ok (.bipush (-4), 2) := by decide +kernel
theorem dX12_read_33 : decode cX12_read 33 = .ok (.ireturn, 1) := by decide +kernel
theorem dX12_read_34 : decode cX12_read 34 = .ok (.iconst 0, 1) := by decide +kernel
theorem dX12_read_35 : decode cX12_read 35 = .ok (.istore_n 2, 1) := by decide +kernel
theorem dX12_read_36 : decode cX12_read 36 = .ok (.iconst 0, 1) := by decide +kernel
theorem dX12_read_37 : decode cX12_read 37 = .ok (.istore_n 3, 1) := by decide +kernel
theorem dX12_read_38 : decode cX12_read 38 = .ok (.iload_n 3, 1) := by decide +kernel
theorem dX12_read_39 : decode cX12_read 39 = .ok (.aload_n 0, 1) := by decide +kernel
theorem dX12_read_40 : decode cX12_read 40 = .ok (.getfield 85, 3) := by decide +kernel
theorem dX12_read_43 : decode cX12_read 43 = .ok (.if_icmp .ge 132, 3) := by decide +kernel
theorem dX12_read_46 : decode cX12_read 46 = .ok (.bipush 24, 2) := by decide +kernel
theorem dX12_read_48 : decode cX12_read 48 = .ok (.iload_n 1, 1) := by decide +kernel
theorem dX12_read_49 : decode cX12_read 49 = .ok (.imul, 1) := by decide +kernel
theorem dX12_read_50 : decode cX12_read 50 = .ok (.iload_n 3, 1) := by decide +kernel
theorem dX12_read_51 : decode cX12_read 51 = .ok (.iadd, 1) := by decide +kernel
theorem dX12_read_52 : decode cX12_read 52 = .ok (.istore 4, 2) := by decide +kernel
theorem dX12_read_54 : decode cX12_read 54 = .ok (.aload_n 0, 1) := by decide +kernel
theorem dX12_read_55 : decode cX12_read 55 = .ok (.getfield 13, 3) := by decide +kernel
theorem dX12_read_58 : decode cX12_read 58 = .ok (.iload 4, 2) := by decide +kernel
theorem dX12_read_60 : decode cX12_read 60 = .ok (.aload_n 0, 1) := by decide +kernel
theorem dX12_read_61 : decode cX12_read 61 = .ok (.getfield 7, 3) := by decide +kernel
theorem dX12_read_64 : decode cX12_read 64 = .ok (.iload_n 3, 1) := by decide +kernel
theorem dX12_read_65 : decode cX12_read 65 = .ok (.iaload, 1) := by decide +kernel
theorem dX12_read_66 : decode cX12_read 66 = .ok (.iastore, 1) := by decide +kernel
theorem dX12_read_67 : decode cX12_read 67 = .ok (.aload_n 0, 1) := by decide +kernel
theorem dX12_read_68 : decode cX12_read 68 = .ok (.getfield 16, 3) := by decide +kernel
theorem dX12_read_71 : decode cX12_read 71 = .ok (.iload 4, 2) := by decide +kernel
theorem dX12_read_73 : decode cX12_read 73 = .ok (.iload_n 2, 1) := by decide +kernel
theorem dX12_read_74 : decode cX12_read 74 = .ok (.ifCond .ne 8, 3) := by decide +kernel
theorem dX12_read_77 : decode cX12_read 77 = .ok (.bipush (-6), 2) := by decide +kernel
theorem dX12_read_79 : decode cX12_read 79 = .ok (.goto 9, 3) := by decide +kernel
theorem dX12_read_82 : decode cX12_read 82 = .ok (.aload_n 0, 1) := by decide +kernel
theorem dX12_read_83 : decode cX12_read 83 = .ok (.getfield 28, 3) := by decide +kernel
theorem dX12_read_86 : decode cX12_read 86 = .ok (.iload_n 2, 1) := by decide +kernel
theorem dX12_read_87 : decode cX12_read 87 = .ok (.iaload, 1) := by decide +kernel
theorem dX12_read_88 : decode cX12_read 88 = .ok (.iastore, 1) := by decide +kernel
theorem dX12_read_89 : decode cX12_read 89 = .ok (.iinc 2 1, 3) := by decide +kernel
theorem dX12_read_92 : decode cX12_read 92 = .ok (.aload_n 0, 1) := by decide +kernel
theorem dX12_read_93 : decode cX12_read 93 = .ok (.getfield 28, 3) := by decide +kernel
theorem dX12_read_96 : decode cX12_read 96 = .ok (.iload_n 2, 1) := by decide +kernel
theorem dX12_read_97 : decode cX12_read 97 = .ok (.iload_n 3, 1) := by decide +kernel
theorem dX12_read_98 : decode cX12_read 98 = .ok (.iastore, 1) := by decide +kernel
theorem dX12_read_99 : decode cX12_read 99 = .ok (.aload_n 0, 1) := by decide +kernel
theorem dX12_read_100 : decode cX12_read 100 = .ok (.getfield 25, 3) := by decide +kernel
theorem dX12_read_103 : decode cX12_read 103 = .ok (.iload_n 2, 1) := by decide +kernel
theorem dX12_read_104 : decode cX12_read 104 = .ok (.aload_n 0, 1) := by decide +kernel
theorem dX12_read_105 : decode cX12_read 105 = .ok (.getfield 7, 3) := by decide +kernel
theorem dX12_read_108 : decode cX12_read 108 = .ok (.iload_n 3, 1) := by decide +kernel
theorem dX12_read_109 : decode cX12_read 109 = .ok (.iaload, 1) := by decide +kernel
theorem dX12_read_110 : decode cX12_read 110 = .ok (.invokestatic 104, 3) := by decide +kernel
theorem dX12_read_113 : decode cX12_read 113 = .ok (.iastore, 1) := by decide +kernel
theorem dX12_read_114 : decode cX12_read 114 = .ok (.iload_n 2, 1) := by decide +kernel
theorem dX12_read_115 : decode cX12_read 115 = .ok (.ifCond .le 54, 3) := by decide +kernel
theorem dX12_read_118 : decode cX12_read 118 = .ok (.aload_n 0, 1) := by decide +kernel
theorem dX12_read_119 : decode cX12_read 119 = .ok (.getfield 25, 3) := by decide +kernel
theorem dX12_read_122 : decode cX12_read 122 = .ok (.iload_n 2, 1) := by decide +kernel
theorem dX12_read_123 : decode cX12_read 123 = .ok (.iaload, 1) := by decide +kernel
theorem dX12_read_124 : decode cX12_read 124 = .ok (.ifCond .ne 45, 3) := by decide +kernel
theorem dX12_read_127 : decode cX12_read 127 = .ok (.aload_n 0, 1) := by decide +kernel
theorem dX12_read_128 : decode cX12_read 128 = .ok (.getfield 19, 3) := by decide +kernel
theorem dX12_read_131 : decode cX12_read 131 = .ok (.bipush 24, 2) := by decide +kernel
theorem dX12_read_133 : decode cX12_read 133 = .ok (.iload_n 1, 1) := by decide +kernel
theorem dX12_read_134 : decode cX12_read 134 = .ok (.imul, 1) := by decide +kernel
theorem dX12_read_135 : decode cX12_read 135 = .ok (.aload_n 0, 1) := by decide +kernel
theorem dX12_read_136 : decode cX12_read 136 = .ok (.getfield 28, 3) := by decide +kernel
theorem dX12_read_139 : decode cX12_read 139 = .ok (.iload_n 2, 1) := by decide +kernel
theorem dX12_read_140 : decode cX12_read 140 = .ok (.iaload, 1) := by decide +kernel
theorem dX12_read_141 : decode cX12_read 141 = .ok (.iadd, 1) := by decide +kernel
theorem dX12_read_142 : decode cX12_read 142 = .ok (.iload_n 3, 1) := by decide +kernel
theorem dX12_read_143 : decode cX12_read 143 = .ok (.aload_n 0, 1) := by decide +kernel
theorem dX12_read_144 : decode cX12_read 144 = .ok (.getfield 28, 3) := by decide +kernel
theorem dX12_read_147 : decode cX12_read 147 = .ok (.iload_n 2, 1) := by decide +kernel
theorem dX12_read_148 : decode cX12_read 148 = .ok (.iaload, 1) := by decide +kernel
theorem dX12_read_149 : decode cX12_read 149 = .ok (.isub, 1) := by decide +kernel
theorem dX12_read_150 : decode cX12_read 150 = .ok (.iconst 1, 1) := by decide +kernel
theorem dX12_read_151 : decode cX12_read 151 = .ok (.iadd, 1) := by decide +kernel
theorem dX12_read_152 : decode cX12_read 152 = .ok (.iastore, 1) := by decide +kernel
theorem dX12_read_153 : decode cX12_read 153 = .ok (.iinc 2 (-1), 3) := by decide +kernel
theorem dX12_read_156 : decode cX12_read 156 = .ok (.aload_n 0, 1) := by decide +kernel
theorem dX12_read_157 : decode cX12_read 157 = .ok (.getfield 25, 3) := by decide +kernel
theorem dX12_read_160 : decode cX12_read 160 = .ok (.iload_n 2, 1) := by decide +kernel
theorem dX12_read_161 : decode cX12_read 161 = .ok (.dup2, 1) := by decide +kernel
theorem dX12_read_162 : decode cX12_read 162 = .ok (.iaload, 1) := by decide +kernel
theorem dX12_read_163 : decode cX12_read 163 = .ok (.iconst 1, 1) := by decide +kernel
theorem dX12_read_164 : decode cX12_read 164 = .ok (.isub, 1) := by decide +kernel
theorem dX12_read_165 : decode cX12_read 165 = .ok (.iastore, 1) := by decide +kernel
theorem dX12_read_166 : decode cX12_read 166 = .ok (.goto (-52), 3) := by decide +kernel
theorem dX12_read_169 : decode cX12_read 169 = .ok (.iinc 3 1, 3) := by decide +kernel
theorem dX12_read_172 : decode cX12_read 172 = .ok (.goto (-134), 3) := by decide +kernel
theorem dX12_read_175 : decode cX12_read 175 = .ok (.aload_n 0, 1) := by decide +kernel
theorem dX12_read_176 : decode cX12_read 176 = .ok (.getfield 22, 3) := by decide +kernel
theorem dX12_read_179 : decode cX12_read 179 = .ok (.iload_n 1, 1) := by decide +kernel
theorem dX12_read_180 : decode cX12_read 180 = .ok (.aload_n 0, 1) := by decide +kernel
theorem dX12_read_181 : decode cX12_read 181 = .ok (.getfield 85, 3) := by decide +kernel
theorem dX12_read_184 : decode cX12_read 184 = .ok (.iastore, 1) := by decide +kernel
theorem dX12_read_185 : decode cX12_read 185 = .ok (.aload_n 0, 1) := by decide +kernel
theorem dX12_read_186 : decode cX12_read 186 = .ok (.iconst 0, 1) := by decide +kernel
theorem dX12_read_187 : decode cX12_read 187 = .ok (.putfield 85, 3) := by decide +kernel
theorem dX12_read_190 : decode cX12_read 190 = .ok (.aload_n 0, 1) := by decide +kernel
theorem dX12_read_191 : decode cX12_read 191 = .ok (.iconst 0, 1) := by decide +kernel
theorem dX12_read_192 : decode cX12_read 192 = .ok (.putfield 112, 3) := by decide +kernel
theorem dX12_read_195 : decode cX12_read 195 = .ok (.aload_n 0, 1) := by decide +kernel
theorem dX12_read_196 : decode cX12_read 196 = .ok (.getfield 22, 3) := by decide +kernel
theorem dX12_read_199 : decode cX12_read 199 = .ok (.iload_n 1, 1) := by decide +kernel
theorem dX12_read_200 : decode cX12_read 200 = .ok (.iaload, 1) := by decide +kernel
theorem dX12_read_201 : decode cX12_read 201 = .ok (.ireturn, 1) := by decide +kernel
set_option maxRecDepth 20000 in
theorem ggX12_isNode_X12_in : GoodIn wsX12_isNode wsX12_in := goodIn_r _ [5] (by decide +kernel) (by decide +kernel)
set_option maxRecDepth 20000 in
theorem gX12_isNode_X12_in : GoodIn wsX12_isNode (va_wsS RX12 81 yX12_in wsX12_in) := goodIn_app (goodIn_of _ (by decide +kernel)) ggX12_isNode_X12_in
theorem dX12_isNode_0 : decode cX12_isNode 0 = .ok (.iload_n 1, 1) := by decide +kernel
theorem dX12_isNode_1 : decode cX12_isNode 1 = .ok (.i2l, 1) := by decide +kernel
theorem dX12_isNode_2 : decode cX12_isNode 2 = .ok (.lconst 0, 1) := by decide +kernel
theorem dX12_isNode_3 : decode cX12_isNode 3 = .ok (.lconst 1, 1) := by decide +kernel
theorem dX12_isNode_4 : decode cX12_isNode 4 = .ok (.invokestatic 81, 3) := by decide +kernel
theorem dX12_isNode_7 : decode cX12_isNode 7 = .ok (.ifCond .eq 25, 3) := by decide +kernel
theorem dX12_isNode_10 : decode cX12_isNode 10 = .ok (.iload_n 2, 1) := by decide +kernel
theorem dX12_isNode_11 : decode cX12_isNode 11 = .ok (.i2l, 1) := by decide +kernel
theorem dX12_isNode_12 : decode cX12_isNode 12 = .ok (.lconst 0, 1) := by decide +kernel
theorem dX12_isNode_13 : decode cX12_isNode 13 = .ok (.aload_n 0, 1) := by decide +kernel
theorem dX12_isNode_14 : decode cX12_isNode 14 = .ok (.getfield 22, 3) := by decide +kernel
theorem dX12_isNode_17 : decode cX12_isNode 17 = .ok (.iload_n 1, 1) := by decide +kernel
theorem dX12_isNode_18 : decode cX12_isNode 18 = .ok (.iaload, 1) := by decide +kernel
theorem dX12_isNode_19 : decode cX12_isNode 19 = .ok (.iconst 1, 1) := by decide +kernel
theorem dX12_isNode_20 : decode cX12_isNode 20 = .ok (.isub, 1) := by decide +kernel
theorem dX12_isNode_21 : decode cX12_isNode 21 = .ok (.i2l, 1) := by decide +kernel
theorem dX12_isNode_22 : decode cX12_isNode 22 = .ok (.invokestatic 81, 3) := by decide +kernel
theorem dX12_isNode_25 : decode cX12_isNode 25 = .ok (.ifCond .eq 7, 3) := by decide +kernel
theorem dX12_isNode_28 : decode cX12_isNode 28 = .ok (.iconst 1, 1) := by decide +kernel
theorem dX12_isNode_29 : decode cX12_isNode 29 = .ok (.goto 4, 3) := by decide +kernel
theorem dX12_isNode_32 : decode cX12_isNode 32 = .ok (.iconst 0, 1) := by decide +kernel
theorem dX12_isNode_33 : decode cX12_isNode 33 = .ok (.ireturn, 1) := by decide +kernel
set_option maxRecDepth 20000 in
theorem ggX12_node_X12_isNode : GoodIn wsX12_node wsX12_isNode := goodIn_r _ [8, 9, 10, 11, 7, 12, 13, 14, 15, 16, 17, 18, 19, 20, 21, 22, 23, 24, 25, 26, 27, 28, 29, 30, 31, 32, 33, 34, 35, 36, 37] (by decide +kernel) (by decide +kernel)
set_option maxRecDepth 20000 in
theorem gX12_node_X12_isNode : GoodIn wsX12_node (wsV RX12 116 RX12 yX12_isNode wsX12_isNode) := goodIn_app (goodIn_of _ (by decide +kernel)) ggX12_node_X12_isNode
theorem dX12_node_0 : decode cX12_node 0 = .ok (.aload_n 0, 1) := by decide +kernel
theorem dX12_node_1 : decode cX12_node 1 = .ok (.iload_n 1, 1) := by decide +kernel
theorem dX12_node_2 : decode cX12_node 2 = .ok (.iload_n 2, 1) := by decide +kernel
theorem dX12_node_3 : decode cX12_node 3 = .ok (.invokevirtual 116, 3) := by decide +kernel
theorem dX12_node_6 : decode cX12_node 6 = .ok (.ifCond .ne 5, 3) := by decide +kernel
theorem dX12_node_9 : decode cX12_node 9 = .ok (.iconst (-1), 1) := by decide +kernel
theorem dX12_node_10 : decode cX12_node 10 = .ok (.ireturn, 1) := by decide +kernel
theorem dX12_node_11 : decode cX12_node 11 = .ok (.bipush 24, 2) := by decide +kernel
theorem dX12_node_13 : decode cX12_node 13 = .ok (.iload_n 1, 1) := by decide +kernel
theorem dX12_node_14 : decode cX12_node 14 = .ok (.imul, 1) := by decide +kernel
theorem dX12_node_15 : decode cX12_node 15 = .ok (.iload_n 2, 1) := by decide +kernel
theorem dX12_node_16 : decode cX12_node 16 = .ok (.iadd, 1) := by decide +kernel
theorem dX12_node_17 : decode cX12_node 17 = .ok (.istore 4, 2) := by decide +kernel
theorem dX12_node_19 : decode cX12_node 19 = .ok (.iload_n 3, 1) := by decide +kernel
theorem dX12_node_20 : decode cX12_node 20 = .ok (.ifCond .ne 13, 3) := by decide +kernel
theorem dX12_node_23 : decode cX12_node 23 = .ok (.aload_n 0, 1) := by decide +kernel
theorem dX12_node_24 : decode cX12_node 24 = .ok (.getfield 13, 3) := by decide +kernel
theorem dX12_node_27 : decode cX12_node 27 = .ok (.iload 4, 2) := by decide +kernel
theorem dX12_node_29 : decode cX12_node 29 = .ok (.iaload, 1) := by decide +kernel
theorem dX12_node_30 : decode cX12_node 30 = .ok (.goto 35, 3) := by decide +kernel
theorem dX12_node_33 : decode cX12_node 33 = .ok (.iload_n 3, 1) := by decide +kernel
theorem dX12_node_34 : decode cX12_node 34 = .ok (.iconst 1, 1) := by decide +kernel
theorem dX12_node_35 : decode cX12_node 35 = .ok (.if_icmp .ne 13, 3) := by decide +kernel
theorem dX12_node_38 : decode cX12_node 38 = .ok (.aload_n 0, 1) := by decide +kernel
theorem dX12_node_39 : decode cX12_node 39 = .ok (.getfield 16, 3) := by decide +kernel
theorem dX12_node_42 : decode cX12_node 42 = .ok (.iload 4, 2) := by decide +kernel
theorem dX12_node_44 : decode cX12_node 44 = .ok (.iaload, 1) := by decide +kernel
theorem dX12_node_45 : decode cX12_node 45 = .ok (.goto 20, 3) := by decide +kernel
theorem dX12_node_48 : decode cX12_node 48 = .ok (.iload_n 3, 1) := by decide +kernel
theorem dX12_node_49 : decode cX12_node 49 = .ok (.iconst 2, 1) := by decide +kernel
theorem dX12_node_50 : decode cX12_node 50 = .ok (.if_icmp .ne 13, 3) := by decide +kernel
theorem dX12_node_53 : decode cX12_node 53 = .ok (.aload_n 0, 1) := by decide +kernel
theorem dX12_node_54 : decode cX12_node 54 = .ok (.getfield 19, 3) := by decide +kernel
theorem dX12_node_57 : decode cX12_node 57 = .ok (.iload 4, 2) := by decide +kernel
theorem dX12_node_59 : decode cX12_node 59 = .ok (.iaload, 1) := by decide +kernel
theorem dX12_node_60 : decode cX12_node 60 = .ok (.goto 5, 3) := by decide +kernel
theorem dX12_node_63 : decode cX12_node 63 = .ok (.bipush (-2), 2) := by decide +kernel
theorem dX12_node_65 : decode cX12_node 65 = .ok (.ireturn, 1) := by decide +kernel
theorem dX12_act_0 : decode cX12_act 0 = .ok (.iload_n 0, 1) := by decide +kernel
theorem dX12_act_1 : decode cX12_act 1 = .ok (.lookupswitch 75 #[(42, 57), (43, 43), (45, 50), (109, 64)], 43) := by decide +kernel
theorem dX12_act_44 : decode cX12_act 44 = .ok (.iload_n 1, 1) := by decide +kernel
theorem dX12_act_45 : decode cX12_act 45 = .ok (.iload_n 2, 1) := by decide +kernel
theorem dX12_act_46 : decode cX12_act 46 = .ok (.iadd, 1) := by decide +kernel
theorem dX12_act_47 : decode cX12_act 47 = .ok (.bipush 7, 2) := by decide +kernel
theorem dX12_act_49 : decode cX12_act 49 = .ok (.iand, 1) := by decide +kernel
theorem dX12_act_50 : decode cX12_act 50 = .ok (.ireturn, 1) := by decide +kernel
theorem dX12_act_51 : decode cX12_act 51 = .ok (.iload_n 1, 1) := by decide +kernel
theorem dX12_act_52 : decode cX12_act 52 = .ok (.iload_n 2, 1) := by decide +kernel
theorem dX12_act_53 : decode cX12_act 53 = .ok (.isub, 1) := by decide +kernel
theorem dX12_act_54 : decode cX12_act 54 = .ok (.bipush 7, 2) := by decide +kernel
theorem dX12_act_56 : decode cX12_act 56 = .ok (.iand, 1) := by decide +kernel
theorem dX12_act_57 : decode cX12_act 57 = .ok (.ireturn, 1) := by decide +kernel
theorem dX12_act_58 : decode cX12_act 58 = .ok (.iload_n 1, 1) := by decide +kernel
theorem dX12_act_59 : decode cX12_act 59 = .ok (.iload_n 2, 1) := by decide +kernel
theorem dX12_act_60 : decode cX12_act 60 = .ok (.imul, 1) := by decide +kernel
theorem dX12_act_61 : decode cX12_act 61 = .ok (.bipush 7, 2) := by decide +kernel
theorem dX12_act_63 : decode cX12_act 63 = .ok (.iand, 1) := by decide +kernel
theorem dX12_act_64 : decode cX12_act 64 = .ok (.ireturn, 1) := by decide +kernel
theorem dX12_act_65 : decode cX12_act 65 = .ok (.iload_n 1, 1) := by decide +kernel
theorem dX12_act_66 : decode cX12_act 66 = .ok (.iload_n 2, 1) := by decide +kernel
theorem dX12_act_67 : decode cX12_act 67 = .ok (.if_icmp .ge 7, 3) := by decide +kernel
theorem dX12_act_70 : decode cX12_act 70 = .ok (.iload_n 1, 1) := by decide +kernel
theorem dX12_act_71 : decode cX12_act 71 = .ok (.goto 4, 3) := by decide +kernel
theorem dX12_act_74 : decode cX12_act 74 = .ok (.iload_n 2, 1) := by decide +kernel
theorem dX12_act_75 : decode cX12_act 75 = .ok (.ireturn, 1) := by decide +kernel
theorem dX12_act_76 : decode cX12_act 76 = .ok (.iload_n 1, 1) := by decide +kernel
theorem dX12_act_77 : decode cX12_act 77 = .ok (.iload_n 2, 1) := by decide +kernel
theorem dX12_act_78 : decode cX12_act 78 = .ok (.if_icmp .le 7, 3) := by decide +kernel
theorem dX12_act_81 : decode cX12_act 81 = .ok (.iload_n 1, 1) := by decide +kernel
theorem dX12_act_82 : decode cX12_act 82 = .ok (.goto 4, 3) := by decide +kernel
theorem dX12_act_85 : decode cX12_act 85 = .ok (.iload_n 2, 1) := by decide +kernel
theorem dX12_act_86 : decode cX12_act 86 = .ok (.ireturn, 1) := by decide +kernel
theorem dX12_stands_0 : decode cX12_stands 0 = .ok (.iload_n 0, 1) := by decide +kernel
theorem dX12_stands_1 : decode cX12_stands 1 = .ok (.bipush 60, 2) := by decide +kernel
theorem dX12_stands_3 : decode cX12_stands 3 = .ok (.if_icmp .ne 16, 3) := by decide +kernel
theorem dX12_stands_6 : decode cX12_stands 6 = .ok (.iload_n 1, 1) := by decide +kernel
theorem dX12_stands_7 : decode cX12_stands 7 = .ok (.iload_n 2, 1) := by decide +kernel
theorem dX12_stands_8 : decode cX12_stands 8 = .ok (.if_icmp .ge 7, 3) := by decide +kernel
theorem dX12_stands_11 : decode cX12_stands 11 = .ok (.iconst 1, 1) := by decide +kernel
theorem dX12_stands_12 : decode cX12_stands 12 = .ok (.goto 36, 3) := by decide +kernel
theorem dX12_stands_15 : decode cX12_stands 15 = .ok (.iconst 0, 1) := by decide +kernel
theorem dX12_stands_16 : decode cX12_stands 16 = .ok (.goto 32, 3) := by decide +kernel
theorem dX12_stands_19 : decode cX12_stands 19 = .ok (.iload_n 0, 1) := by decide +kernel
theorem dX12_stands_20 : decode cX12_stands 20 = .ok (.bipush 62, 2) := by decide +kernel
theorem dX12_stands_22 : decode cX12_stands 22 = .ok (.if_icmp .ne 16, 3) := by decide +kernel
theorem dX12_stands_25 : decode cX12_stands 25 = .ok (.iload_n 1, 1) := by decide +kernel
theorem dX12_stands_26 : decode cX12_stands 26 = .ok (.iload_n 2, 1) := by decide +kernel
theorem dX12_stands_27 : decode cX12_stands 27 = .ok (.if_icmp .le 7, 3) := by decide +kernel
theorem dX12_stands_30 : decode cX12_stands 30 = .ok (.iconst 1, 1) := by decide +kernel
theorem dX12_stands_31 : decode cX12_stands 31 = .ok (.goto 17, 3) := by decide +kernel
theorem dX12_stands_34 : decode cX12_stands 34 = .ok (.iconst 0, 1) := by decide +kernel
theorem dX12_stands_35 : decode cX12_stands 35 = .ok (.goto 13, 3) := by decide +kernel
theorem dX12_stands_38 : decode cX12_stands 38 = .ok (.iload_n 1, 1) := by decide +kernel
theorem dX12_stands_39 : decode cX12_stands 39 = .ok (.iload_n 2, 1) := by decide +kernel
theorem dX12_stands_40 : decode cX12_stands 40 = .ok (.if_icmp .ne 7, 3) := by decide +kernel
theorem dX12_stands_43 : decode cX12_stands 43 = .ok (.iconst 1, 1) := by decide +kernel
theorem dX12_stands_44 : decode cX12_stands 44 = .ok (.goto 4, 3) := by decide +kernel
theorem dX12_stands_47 : decode cX12_stands 47 = .ok (.iconst 0, 1) := by decide +kernel
theorem dX12_stands_48 : decode cX12_stands 48 = .ok (.ireturn, 1) := by decide +kernel
set_option maxRecDepth 20000 in
theorem ggX12_work_X12_partsOf : GoodIn wsX12_work wsX12_partsOf := goodIn_r _ [8, 9, 10, 7, 11, 12, 13, 14, 15, 16, 17, 18, 19, 20, 21] (by decide +kernel) (by decide +kernel)
set_option maxRecDepth 20000 in
theorem gX12_work_X12_partsOf : GoodIn wsX12_work (va_wsS RX12 104 yX12_partsOf wsX12_partsOf) := goodIn_app (goodIn_of _ (by decide +kernel)) ggX12_work_X12_partsOf
set_option maxRecDepth 20000 in
theorem ggX12_work_X12_isInput : GoodIn wsX12_work wsX12_isInput := goodIn_r _ [11, 12, 13, 14, 15, 7, 16] (by decide +kernel) (by decide +kernel)
set_option maxRecDepth 20000 in
theorem gX12_work_X12_isInput : GoodIn wsX12_work (va_wsS RX12 97 yX12_isInput wsX12_isInput) := goodIn_app (goodIn_of _ (by decide +kernel)) ggX12_work_X12_isInput
set_option maxRecDepth 20000 in
theorem ggX12_work_X12_act : GoodIn wsX12_work wsX12_act := goodIn_r _ [24] (by decide +kernel) (by decide +kernel)
set_option maxRecDepth 20000 in
theorem gX12_work_X12_act : GoodIn wsX12_work (va_wsS RX12 120 yX12_act wsX12_act) := goodIn_app (goodIn_of _ (by decide +kernel)) ggX12_work_X12_act
set_option maxRecDepth 20000 in
theorem ggX12_work_X12_stands : GoodIn wsX12_work wsX12_stands := goodIn_r _ [27] (by decide +kernel) (by decide +kernel)
set_option maxRecDepth 20000 in
theorem gX12_work_X12_stands : GoodIn wsX12_work (va_wsS RX12 124 yX12_stands wsX12_stands) := goodIn_app (goodIn_of _ (by decide +kernel)) ggX12_work_X12_stands
theorem dX12_work_0 : decode cX12_work 0 = .ok (.bipush 24, 2) := by decide +kernel
theorem dX12_work_2 : decode cX12_work 2 = .ok (.iload_n 1, 1) := by decide +kernel
theorem dX12_work_3 : decode cX12_work 3 = .ok (.imul, 1) := by decide +kernel
theorem dX12_work_4 : decode cX12_work 4 = .ok (.istore 5, 2) := by decide +kernel
theorem dX12_work_6 : decode cX12_work 6 = .ok (.aload_n 0, 1) := by decide +kernel
theorem dX12_work_7 : decode cX12_work 7 = .ok (.getfield 22, 3) := by decide +kernel
theorem dX12_work_10 : decode cX12_work 10 = .ok (.iload_n 1, 1) := by decide +kernel
theorem dX12_work_11 : decode cX12_work 11 = .ok (.iaload, 1) := by decide +kernel
theorem dX12_work_12 : decode cX12_work 12 = .ok (.iconst 1, 1) := by decide +kernel
theorem dX12_work_13 : decode cX12_work 13 = .ok (.isub, 1) := by decide +kernel
theorem dX12_work_14 : decode cX12_work 14 = .ok (.istore 6, 2) := by decide +kernel
theorem dX12_work_16 : decode cX12_work 16 = .ok (.iload 6, 2) := by decide +kernel
theorem dX12_work_18 : decode cX12_work 18 = .ok (.ifCond .lt 223, 3) := by decide +kernel
theorem dX12_work_21 : decode cX12_work 21 = .ok (.iload 6, 2) := by decide +kernel
theorem dX12_work_23 : decode cX12_work 23 = .ok (.iload_n 3, 1) := by decide +kernel
theorem dX12_work_24 : decode cX12_work 24 = .ok (.if_icmp .ne 8, 3) := by decide +kernel
theorem dX12_work_27 : decode cX12_work 27 = .ok (.iload 4, 2) := by decide +kernel
theorem dX12_work_29 : decode cX12_work 29 = .ok (.goto 13, 3) := by decide +kernel
theorem dX12_work_32 : decode cX12_work 32 = .ok (.aload_n 0, 1) := by decide +kernel
theorem dX12_work_33 : decode cX12_work 33 = .ok (.getfield 13, 3) := by decide +kernel
theorem dX12_work_36 : decode cX12_work 36 = .ok (.iload 5, 2) := by decide +kernel
theorem dX12_work_38 : decode cX12_work 38 = .ok (.iload 6, 2) := by decide +kernel
theorem dX12_work_40 : decode cX12_work 40 = .ok (.iadd, 1) := by decide +kernel
theorem dX12_work_41 : decode cX12_work 41 = .ok (.iaload, 1) := by decide +kernel
theorem dX12_work_42 : decode cX12_work 42 = .ok (.istore 7, 2) := by decide +kernel
theorem dX12_work_44 : decode cX12_work 44 = .ok (.iload 7, 2) := by decide +kernel
theorem dX12_work_46 : decode cX12_work 46 = .ok (.invokestatic 104, 3) := by decide +kernel
theorem dX12_work_49 : decode cX12_work 49 = .ok (.istore 8, 2) := by decide +kernel
theorem dX12_work_51 : decode cX12_work 51 = .ok (.iload 7, 2) := by decide +kernel
theorem dX12_work_53 : decode cX12_work 53 = .ok (.invokestatic 97, 3) := by decide +kernel
theorem dX12_work_56 : decode cX12_work 56 = .ok (.ifCond .eq 25, 3) := by decide +kernel
theorem dX12_work_59 : decode cX12_work 59 = .ok (.aload_n 0, 1) := by decide +kernel
theorem dX12_work_60 : decode cX12_work 60 = .ok (.getfield 31, 3) := by decide +kernel
theorem dX12_work_63 : decode cX12_work 63 = .ok (.iload 6, 2) := by decide +kernel
theorem dX12_work_65 : decode cX12_work 65 = .ok (.iload_n 2, 1) := by decide +kernel
theorem dX12_work_66 : decode cX12_work 66 = .ok (.iconst 3, 1) := by decide +kernel
theorem dX12_work_67 : decode cX12_work 67 = .ok (.bipush 99, 2) := by decide +kernel
theorem dX12_work_69 : decode cX12_work 69 = .ok (.iload 7, 2) := by decide +kernel
theorem dX12_work_71 : decode cX12_work 71 = .ok (.isub, 1) := by decide +kernel
theorem dX12_work_72 : decode cX12_work 72 = .ok (.imul, 1) := by decide +kernel
theorem dX12_work_73 : decode cX12_work 73 = .ok (.ishr, 1) := by decide +kernel
theorem dX12_work_74 : decode cX12_work 74 = .ok (.bipush 7, 2) := by decide +kernel
theorem dX12_work_76 : decode cX12_work 76 = .ok (.iand, 1) := by decide +kernel
theorem dX12_work_77 : decode cX12_work 77 = .ok (.iastore, 1) := by decide +kernel
theorem dX12_work_78 : decode cX12_work 78 = .ok (.goto 157, 3) := by decide +kernel
theorem dX12_work_81 : decode cX12_work 81 = .ok (.iload 8, 2) := by decide +kernel
theorem dX12_work_83 : decode cX12_work 83 = .ok (.ifCond .ne 18, 3) := by decide +kernel
theorem dX12_work_86 : decode cX12_work 86 = .ok (.aload_n 0, 1) := by decide +kernel
theorem dX12_work_87 : decode cX12_work 87 = .ok (.getfield 31, 3) := by decide +kernel
theorem dX12_work_90 : decode cX12_work 90 = .ok (.iload 6, 2) := by decide +kernel
theorem dX12_work_92 : decode cX12_work 92 = .ok (.iload 7, 2) := by decide +kernel
theorem dX12_work_94 : decode cX12_work 94 = .ok (.bipush 48, 2) := by decide +kernel
theorem dX12_work_96 : decode cX12_work 96 = .ok (.isub, 1) := by decide +kernel
theorem dX12_work_97 : decode cX12_work 97 = .ok (.iastore, 1) := by decide +kernel
theorem dX12_work_98 : decode cX12_work 98 = .ok (.goto 137, 3) := by decide +kernel
theorem dX12_work_101 : decode cX12_work 101 = .ok (.iload 6, 2) := by decide +kernel
theorem dX12_work_103 : decode cX12_work 103 = .ok (.iconst 1, 1) := by decide +kernel
theorem dX12_work_104 : decode cX12_work 104 = .ok (.iadd, 1) := by decide +kernel
theorem dX12_work_105 : decode cX12_work 105 = .ok (.aload_n 0, 1) := by decide +kernel
theorem dX12_work_106 : decode cX12_work 106 = .ok (.getfield 19, 3) := by decide +kernel
theorem dX12_work_109 : decode cX12_work 109 = .ok (.iload 5, 2) := by decide +kernel
theorem dX12_work_111 : decode cX12_work 111 = .ok (.iload 6, 2) := by decide +kernel
theorem dX12_work_113 : decode cX12_work 113 = .ok (.iadd, 1) := by decide +kernel
theorem dX12_work_114 : decode cX12_work 114 = .ok (.iconst 1, 1) := by decide +kernel
theorem dX12_work_115 : decode cX12_work 115 = .ok (.iadd, 1) := by decide +kernel
theorem dX12_work_116 : decode cX12_work 116 = .ok (.iaload, 1) := by decide +kernel
theorem dX12_work_117 : decode cX12_work 117 = .ok (.iadd, 1) := by decide +kernel
theorem dX12_work_118 : decode cX12_work 118 = .ok (.istore 9, 2) := by decide +kernel
theorem dX12_work_120 : decode cX12_work 120 = .ok (.iload 8, 2) := by decide +kernel
theorem dX12_work_122 : decode cX12_work 122 = .ok (.iconst 2, 1) := by decide +kernel
theorem dX12_work_123 : decode cX12_work 123 = .ok (.if_icmp .ne 34, 3) := by decide +kernel
theorem dX12_work_126 : decode cX12_work 126 = .ok (.aload_n 0, 1) := by decide +kernel
theorem dX12_work_127 : decode cX12_work 127 = .ok (.getfield 31, 3) := by decide +kernel
theorem dX12_work_130 : decode cX12_work 130 = .ok (.iload 6, 2) := by decide +kernel
theorem dX12_work_132 : decode cX12_work 132 = .ok (.iload 7, 2) := by decide +kernel
theorem dX12_work_134 : decode cX12_work 134 = .ok (.aload_n 0, 1) := by decide +kernel
theorem dX12_work_135 : decode cX12_work 135 = .ok (.getfield 31, 3) := by decide +kernel
theorem dX12_work_138 : decode cX12_work 138 = .ok (.iload 6, 2) := by decide +kernel
theorem dX12_work_140 : decode cX12_work 140 = .ok (.iconst 1, 1) := by decide +kernel
theorem dX12_work_141 : decode cX12_work 141 = .ok (.iadd, 1) := by decide +kernel
theorem dX12_work_142 : decode cX12_work 142 = .ok (.iaload, 1) := by decide +kernel
theorem dX12_work_143 : decode cX12_work 143 = .ok (.aload_n 0, 1) := by decide +kernel
theorem dX12_work_144 : decode cX12_work 144 = .ok (.getfield 31, 3) := by decide +kernel
theorem dX12_work_147 : decode cX12_work 147 = .ok (.iload 9, 2) := by decide +kernel
theorem dX12_work_149 : decode cX12_work 149 = .ok (.iaload, 1) := by decide +kernel
theorem dX12_work_150 : decode cX12_work 150 = .ok (.invokestatic 120, 3) := by decide +kernel
theorem dX12_work_153 : decode cX12_work 153 = .ok (.iastore, 1) := by decide +kernel
theorem dX12_work_154 : decode cX12_work 154 = .ok (.goto 81, 3) := by decide +kernel
theorem dX12_work_157 : decode cX12_work 157 = .ok (.iload 9, 2) := by decide +kernel
theorem dX12_work_159 : decode cX12_work 159 = .ok (.aload_n 0, 1) := by decide +kernel
theorem dX12_work_160 : decode cX12_work 160 = .ok (.getfield 19, 3) := by decide +kernel
theorem dX12_work_163 : decode cX12_work 163 = .ok (.iload 5, 2) := by decide +kernel
theorem dX12_work_165 : decode cX12_work 165 = .ok (.iload 9, 2) := by decide +kernel
theorem dX12_work_167 : decode cX12_work 167 = .ok (.iadd, 1) := by decide +kernel
theorem dX12_work_168 : decode cX12_work 168 = .ok (.iaload, 1) := by decide +kernel
theorem dX12_work_169 : decode cX12_work 169 = .ok (.iadd, 1) := by decide +kernel
theorem dX12_work_170 : decode cX12_work 170 = .ok (.istore 10, 2) := by decide +kernel
theorem dX12_work_172 : decode cX12_work 172 = .ok (.iload 10, 2) := by decide +kernel
theorem dX12_work_174 : decode cX12_work 174 = .ok (.aload_n 0, 1) := by decide +kernel
theorem dX12_work_175 : decode cX12_work 175 = .ok (.getfield 19, 3) := by decide +kernel
theorem dX12_work_178 : decode cX12_work 178 = .ok (.iload 5, 2) := by decide +kernel
theorem dX12_work_180 : decode cX12_work 180 = .ok (.iload 10, 2) := by decide +kernel
theorem dX12_work_182 : decode cX12_work 182 = .ok (.iadd, 1) := by decide +kernel
theorem dX12_work_183 : decode cX12_work 183 = .ok (.iaload, 1) := by decide +kernel
theorem dX12_work_184 : decode cX12_work 184 = .ok (.iadd, 1) := by decide +kernel
theorem dX12_work_185 : decode cX12_work 185 = .ok (.istore 11, 2) := by decide +kernel
theorem dX12_work_187 : decode cX12_work 187 = .ok (.aload_n 0, 1) := by decide +kernel
theorem dX12_work_188 : decode cX12_work 188 = .ok (.getfield 31, 3) := by decide +kernel
theorem dX12_work_191 : decode cX12_work 191 = .ok (.iload 6, 2) := by decide +kernel
theorem dX12_work_193 : decode cX12_work 193 = .ok (.iload 7, 2) := by decide +kernel
theorem dX12_work_195 : decode cX12_work 195 = .ok (.aload_n 0, 1) := by decide +kernel
theorem dX12_work_196 : decode cX12_work 196 = .ok (.getfield 31, 3) := by decide +kernel
theorem dX12_work_199 : decode cX12_work 199 = .ok (.iload 6, 2) := by decide +kernel
theorem dX12_work_201 : decode cX12_work 201 = .ok (.iconst 1, 1) := by decide +kernel
theorem dX12_work_202 : decode cX12_work 202 = .ok (.iadd, 1) := by decide +kernel
theorem dX12_work_203 : decode cX12_work 203 = .ok (.iaload, 1) := by decide +kernel
theorem dX12_work_204 : decode cX12_work 204 = .ok (.aload_n 0, 1) := by decide +kernel
theorem dX12_work_205 : decode cX12_work 205 = .ok (.getfield 31, 3) := by decide +kernel
theorem dX12_work_208 : decode cX12_work 208 = .ok (.iload 9, 2) := by decide +kernel
theorem dX12_work_210 : decode cX12_work 210 = .ok (.iaload, 1) := by decide +kernel
theorem dX12_work_211 : decode cX12_work 211 = .ok (.invokestatic 124, 3) := by decide +kernel
theorem dX12_work_214 : decode cX12_work 214 = .ok (.ifCond .eq 13, 3) := by decide +kernel
theorem dX12_work_217 : decode cX12_work 217 = .ok (.aload_n 0, 1) := by decide +kernel
theorem dX12_work_218 : decode cX12_work 218 = .ok (.getfield 31, 3) := by decide +kernel
theorem dX12_work_221 : decode cX12_work 221 = .ok (.iload 10, 2) := by decide +kernel
theorem dX12_work_223 : decode cX12_work 223 = .ok (.iaload, 1) := by decide +kernel
theorem dX12_work_224 : decode cX12_work 224 = .ok (.goto 10, 3) := by decide +kernel
theorem dX12_work_227 : decode cX12_work 227 = .ok (.aload_n 0, 1) := by decide +kernel
theorem dX12_work_228 : decode cX12_work 228 = .ok (.getfield 31, 3) := by decide +kernel
theorem dX12_work_231 : decode cX12_work 231 = .ok (.iload 11, 2) := by decide +kernel
theorem dX12_work_233 : decode cX12_work 233 = .ok (.iaload, 1) := by decide +kernel
theorem dX12_work_234 : decode cX12_work 234 = .ok (.iastore, 1) := by decide +kernel
theorem dX12_work_235 : decode cX12_work 235 = .ok (.iinc 6 (-1), 3) := by decide +kernel
theorem dX12_work_238 : decode cX12_work 238 = .ok (.goto (-222), 3) := by decide +kernel
theorem dX12_work_241 : decode cX12_work 241 = .ok (.return_, 1) := by decide +kernel
set_option maxRecDepth 20000 in
theorem ggX12_areInputs_X12_in : GoodIn wsX12_areInputs wsX12_in := goodIn_r _ [5] (by decide +kernel) (by decide +kernel)
set_option maxRecDepth 20000 in
theorem gX12_areInputs_X12_in : GoodIn wsX12_areInputs (va_wsS RX12 81 yX12_in wsX12_in) := goodIn_app (goodIn_of _ (by decide +kernel)) ggX12_areInputs_X12_in
theorem dX12_areInputs_0 : decode cX12_areInputs 0 = .ok (.iload_n 0, 1) := by decide +kernel
theorem dX12_areInputs_1 : decode cX12_areInputs 1 = .ok (.i2l, 1) := by decide +kernel
theorem dX12_areInputs_2 : decode cX12_areInputs 2 = .ok (.lconst 0, 1) := by decide +kernel
theorem dX12_areInputs_3 : decode cX12_areInputs 3 = .ok (.ldc2_w 128, 3) := by decide +kernel
theorem dX12_areInputs_6 : decode cX12_areInputs 6 = .ok (.invokestatic 81, 3) := by decide +kernel
theorem dX12_areInputs_9 : decode cX12_areInputs 9 = .ok (.ireturn, 1) := by decide +kernel
set_option maxRecDepth 20000 in
theorem ggX12_result_X12_in : GoodIn wsX12_result wsX12_in := goodIn_r _ [5] (by decide +kernel) (by decide +kernel)
set_option maxRecDepth 20000 in
theorem gX12_result_X12_in : GoodIn wsX12_result (va_wsS RX12 81 yX12_in wsX12_in) := goodIn_app (goodIn_of _ (by decide +kernel)) ggX12_result_X12_in
set_option maxRecDepth 20000 in
theorem ggX12_result_X12_areInputs : GoodIn wsX12_result wsX12_areInputs := goodIn_r _ [8, 9, 2, 3, 4, 5] (by decide +kernel) (by decide +kernel)
set_option maxRecDepth 20000 in
theorem gX12_result_X12_areInputs : GoodIn wsX12_result (va_wsS RX12 130 yX12_areInputs wsX12_areInputs) := goodIn_app (goodIn_of _ (by decide +kernel)) ggX12_result_X12_areInputs
set_option maxRecDepth 20000 in
theorem ggX12_result_X12_work : GoodIn wsX12_result wsX12_work := goodIn_r _ [13, 14, 15, 1, 16, 17, 18, 4, 19, 20, 21, 22, 23, 24, 2, 3, 5, 25, 26, 27, 28, 29, 30, 31, 32, 33, 34, 35, 36, 37, 38, 39, 40, 41, 42, 43, 44, 45, 46, 47, 48, 49, 50, 51, 52, 53, 54, 55, 56, 57, 58, 59, 60] (by decide +kernel) (by decide +kernel)
set_option maxRecDepth 20000 in
theorem gX12_result_X12_work : GoodIn wsX12_result (wsV RX12 133 RX12 yX12_work wsX12_work) := goodIn_app (goodIn_of _ (by decide +kernel)) ggX12_result_X12_work
theorem dX12_result_0 : decode cX12_result 0 = .ok (.iload_n 1, 1) := by decide +kernel
theorem dX12_result_1 : decode cX12_result 1 = .ok (.i2l, 1) := by decide +kernel
theorem dX12_result_2 : decode cX12_result 2 = .ok (.lconst 0, 1) := by decide +kernel
theorem dX12_result_3 : decode cX12_result 3 = .ok (.lconst 1, 1) := by decide +kernel
theorem dX12_result_4 : decode cX12_result 4 = .ok (.invokestatic 81, 3) := by decide +kernel
theorem dX12_result_7 : decode cX12_result 7 = .ok (.ifCond .ne 5, 3) := by decide +kernel
theorem dX12_result_10 : decode cX12_result 10 = .ok (.iconst (-1), 1) := by decide +kernel
theorem dX12_result_11 : decode cX12_result 11 = .ok (.ireturn, 1) := by decide +kernel
theorem dX12_result_12 : decode cX12_result 12 = .ok (.iload_n 2, 1) := by decide +kernel
theorem dX12_result_13 : decode cX12_result 13 = .ok (.invokestatic 130, 3) := by decide +kernel
theorem dX12_result_16 : decode cX12_result 16 = .ok (.ifCond .ne 6, 3) := by decide +kernel
theorem dX12_result_19 : decode cX12_result 19 = .ok (.bipush (-2), 2) := by decide +kernel
theorem dX12_result_21 : decode cX12_result 21 = .ok (.ireturn, 1) := by decide +kernel
theorem dX12_result_22 : decode cX12_result 22 = .ok (.aload_n 0, 1) := by decide +kernel
theorem dX12_result_23 : decode cX12_result 23 = .ok (.iload_n 1, 1) := by decide +kernel
theorem dX12_result_24 : decode cX12_result 24 = .ok (.iload_n 2, 1) := by decide +kernel
theorem dX12_result_25 : decode cX12_result 25 = .ok (.bipush (-6), 2) := by decide +kernel
theorem dX12_result_27 : decode cX12_result 27 = .ok (.iconst 0, 1) := by decide +kernel
theorem dX12_result_28 : decode cX12_result 28 = .ok (.invokevirtual 133, 3) := by decide +kernel
theorem dX12_result_31 : decode cX12_result 31 = .ok (.aload_n 0, 1) := by decide +kernel
theorem dX12_result_32 : decode cX12_result 32 = .ok (.getfield 31, 3) := by decide +kernel
theorem dX12_result_35 : decode cX12_result 35 = .ok (.iconst 0, 1) := by decide +kernel
theorem dX12_result_36 : decode cX12_result 36 = .ok (.iaload, 1) := by decide +kernel
theorem dX12_result_37 : decode cX12_result 37 = .ok (.ireturn, 1) := by decide +kernel
set_option maxRecDepth 20000 in
theorem ggX12_runsOf_X12_work : GoodIn wsX12_runsOf wsX12_work := goodIn_r _ [9, 1, 2, 4, 3, 10, 11, 8, 12, 13, 14, 15, 16, 17, 18, 19, 20, 21, 22, 23, 24, 25, 26, 27, 28, 29, 30, 31, 32, 33, 34, 35, 36, 37, 38, 39, 40, 41, 42, 43, 44, 45, 46, 47, 48, 49, 50, 51, 52, 53, 54, 55, 56] (by decide +kernel) (by decide +kernel)
set_option maxRecDepth 20000 in
theorem gX12_runsOf_X12_work : GoodIn wsX12_runsOf (wsV RX12 133 RX12 yX12_work wsX12_work) := goodIn_app (goodIn_of _ (by decide +kernel)) ggX12_runsOf_X12_work
set_option maxRecDepth 20000 in
theorem ggX12_runsOf_X12_partsOf : GoodIn wsX12_runsOf wsX12_partsOf := goodIn_r _ [12, 13, 14, 8, 15, 16, 17, 18, 19, 20, 21, 22, 23, 24, 25] (by decide +kernel) (by decide +kernel)
set_option maxRecDepth 20000 in
theorem gX12_runsOf_X12_partsOf : GoodIn wsX12_runsOf (va_wsS RX12 104 yX12_partsOf wsX12_partsOf) := goodIn_app (goodIn_of _ (by decide +kernel)) ggX12_runsOf_X12_partsOf
set_option maxRecDepth 20000 in
theorem ggX12_runsOf_X12_stands : GoodIn wsX12_runsOf wsX12_stands := goodIn_r _ [31] (by decide +kernel) (by decide +kernel)
set_option maxRecDepth 20000 in
theorem gX12_runsOf_X12_stands : GoodIn wsX12_runsOf (va_wsS RX12 124 yX12_stands wsX12_stands) := goodIn_app (goodIn_of _ (by decide +kernel)) ggX12_runsOf_X12_stands
theorem dX12_runsOf_0 : decode cX12_runsOf 0 = .ok (.aload_n 0, 1) := by decide +kernel
theorem dX12_runsOf_1 : decode cX12_runsOf 1 = .ok (.iload_n 1, 1) := by decide +kernel
theorem dX12_runsOf_2 : decode cX12_runsOf 2 = .ok (.iload_n 2, 1) := by decide +kernel
theorem dX12_runsOf_3 : decode cX12_runsOf 3 = .ok (.bipush (-6), 2) := by decide +kernel
theorem dX12_runsOf_5 : decode cX12_runsOf 5 = .ok (.iconst 0, 1) := by decide +kernel
theorem dX12_runsOf_6 : decode cX12_runsOf 6 = .ok (.invokevirtual 133, 3) := by decide +kernel
theorem dX12_runsOf_9 : decode cX12_runsOf 9 = .ok (.bipush 24, 2) := by decide +kernel
theorem dX12_runsOf_11 : decode cX12_runsOf 11 = .ok (.iload_n 1, 1) := by decide +kernel
theorem dX12_runsOf_12 : decode cX12_runsOf 12 = .ok (.imul, 1) := by decide +kernel
theorem dX12_runsOf_13 : decode cX12_runsOf 13 = .ok (.istore_n 3, 1) := by decide +kernel
theorem dX12_runsOf_14 : decode cX12_runsOf 14 = .ok (.iconst 1, 1) := by decide +kernel
theorem dX12_runsOf_15 : decode cX12_runsOf 15 = .ok (.istore 4, 2) := by decide +kernel
theorem dX12_runsOf_17 : decode cX12_runsOf 17 = .ok (.iconst 0, 1) := by decide +kernel
theorem dX12_runsOf_18 : decode cX12_runsOf 18 = .ok (.istore 5, 2) := by decide +kernel
theorem dX12_runsOf_20 : decode cX12_runsOf 20 = .ok (.iload 5, 2) := by decide +kernel
theorem dX12_runsOf_22 : decode cX12_runsOf 22 = .ok (.aload_n 0, 1) := by decide +kernel
theorem dX12_runsOf_23 : decode cX12_runsOf 23 = .ok (.getfield 22, 3) := by decide +kernel
theorem dX12_runsOf_26 : decode cX12_runsOf 26 = .ok (.iload_n 1, 1) := by decide +kernel
theorem dX12_runsOf_27 : decode cX12_runsOf 27 = .ok (.iaload, 1) := by decide +kernel
theorem dX12_runsOf_28 : decode cX12_runsOf 28 = .ok (.if_icmp .ge 152, 3) := by decide +kernel
theorem dX12_runsOf_31 : decode cX12_runsOf 31 = .ok (.aload_n 0, 1) := by decide +kernel
theorem dX12_runsOf_32 : decode cX12_runsOf 32 = .ok (.getfield 13, 3) := by decide +kernel
theorem dX12_runsOf_35 : decode cX12_runsOf 35 = .ok (.iload_n 3, 1) := by decide +kernel
theorem dX12_runsOf_36 : decode cX12_runsOf 36 = .ok (.iload 5, 2) := by decide +kernel
theorem dX12_runsOf_38 : decode cX12_runsOf 38 = .ok (.iadd, 1) := by decide +kernel
theorem dX12_runsOf_39 : decode cX12_runsOf 39 = .ok (.iaload, 1) := by decide +kernel
theorem dX12_runsOf_40 : decode cX12_runsOf 40 = .ok (.invokestatic 104, 3) := by decide +kernel
theorem dX12_runsOf_43 : decode cX12_runsOf 43 = .ok (.istore 6, 2) := by decide +kernel
theorem dX12_runsOf_45 : decode cX12_runsOf 45 = .ok (.iload 6, 2) := by decide +kernel
theorem dX12_runsOf_47 : decode cX12_runsOf 47 = .ok (.ifCond .le 127, 3) := by decide +kernel
theorem dX12_runsOf_50 : decode cX12_runsOf 50 = .ok (.iload 4, 2) := by decide +kernel
theorem dX12_runsOf_52 : decode cX12_runsOf 52 = .ok (.iload 5, 2) := by decide +kernel
theorem dX12_runsOf_54 : decode cX12_runsOf 54 = .ok (.ishr, 1) := by decide +kernel
theorem dX12_runsOf_55 : decode cX12_runsOf 55 = .ok (.iconst 1, 1) := by decide +kernel
theorem dX12_runsOf_56 : decode cX12_runsOf 56 = .ok (.iand, 1) := by decide +kernel
theorem dX12_runsOf_57 : decode cX12_runsOf 57 = .ok (.iconst 1, 1) := by decide +kernel
theorem dX12_runsOf_58 : decode cX12_runsOf 58 = .ok (.if_icmp .ne 116, 3) := by decide +kernel
theorem dX12_runsOf_61 : decode cX12_runsOf 61 = .ok (.iload 5, 2) := by decide +kernel
theorem dX12_runsOf_63 : decode cX12_runsOf 63 = .ok (.iconst 1, 1) := by decide +kernel
theorem dX12_runsOf_64 : decode cX12_runsOf 64 = .ok (.iadd, 1) := by decide +kernel
theorem dX12_runsOf_65 : decode cX12_runsOf 65 = .ok (.aload_n 0, 1) := by decide +kernel
theorem dX12_runsOf_66 : decode cX12_runsOf 66 = .ok (.getfield 19, 3) := by decide +kernel
theorem dX12_runsOf_69 : decode cX12_runsOf 69 = .ok (.iload_n 3, 1) := by decide +kernel
theorem dX12_runsOf_70 : decode cX12_runsOf 70 = .ok (.iload 5, 2) := by decide +kernel
theorem dX12_runsOf_72 : decode cX12_runsOf 72 = .ok (.iadd, 1) := by decide +kernel
theorem dX12_runsOf_73 : decode cX12_runsOf 73 = .ok (.iconst 1, 1) := by decide +kernel
theorem dX12_runsOf_74 : decode cX12_runsOf 74 = .ok (.iadd, 1) := by decide +kernel
theorem dX12_runsOf_75 : decode cX12_runsOf 75 = .ok (.iaload, 1) := by decide +kernel
theorem dX12_runsOf_76 : decode cX12_runsOf 76 = .ok (.iadd, 1) := by decide +kernel
theorem dX12_runsOf_77 : decode cX12_runsOf 77 = .ok (.istore 7, 2) := by decide +kernel
theorem dX12_runsOf_79 : decode cX12_runsOf 79 = .ok (.iload 4, 2) := by decide +kernel
theorem dX12_runsOf_81 : decode cX12_runsOf 81 = .ok (.iconst 1, 1) := by decide +kernel
theorem dX12_runsOf_82 : decode cX12_runsOf 82 = .ok (.iload 5, 2) := by decide +kernel
theorem dX12_runsOf_84 : decode cX12_runsOf 84 = .ok (.iconst 1, 1) := by decide +kernel
theorem dX12_runsOf_85 : decode cX12_runsOf 85 = .ok (.iadd, 1) := by decide +kernel
theorem dX12_runsOf_86 : decode cX12_runsOf 86 = .ok (.ishl, 1) := by decide +kernel
theorem dX12_runsOf_87 : decode cX12_runsOf 87 = .ok (.iconst 1, 1) := by decide +kernel
theorem dX12_runsOf_88 : decode cX12_runsOf 88 = .ok (.iload 7, 2) := by decide +kernel
theorem dX12_runsOf_90 : decode cX12_runsOf 90 = .ok (.ishl, 1) := by decide +kernel
theorem dX12_runsOf_91 : decode cX12_runsOf 91 = .ok (.ior, 1) := by decide +kernel
theorem dX12_runsOf_92 : decode cX12_runsOf 92 = .ok (.ior, 1) := by decide +kernel
theorem dX12_runsOf_93 : decode cX12_runsOf 93 = .ok (.istore 4, 2) := by decide +kernel
theorem dX12_runsOf_95 : decode cX12_runsOf 95 = .ok (.iload 6, 2) := by decide +kernel
theorem dX12_runsOf_97 : decode cX12_runsOf 97 = .ok (.iconst 4, 1) := by decide +kernel
theorem dX12_runsOf_98 : decode cX12_runsOf 98 = .ok (.if_icmp .ne 76, 3) := by decide +kernel
theorem dX12_runsOf_101 : decode cX12_runsOf 101 = .ok (.iload 7, 2) := by decide +kernel
theorem dX12_runsOf_103 : decode cX12_runsOf 103 = .ok (.aload_n 0, 1) := by decide +kernel
theorem dX12_runsOf_104 : decode cX12_runsOf 104 = .ok (.getfield 19, 3) := by decide +kernel
theorem dX12_runsOf_107 : decode cX12_runsOf 107 = .ok (.iload_n 3, 1) := by decide +kernel
theorem dX12_runsOf_108 : decode cX12_runsOf 108 = .ok (.iload 7, 2) := by decide +kernel
theorem dX12_runsOf_110 : decode cX12_runsOf 110 = .ok (.iadd, 1) := by decide +kernel
theorem dX12_runsOf_111 : decode cX12_runsOf 111 = .ok (.iaload, 1) := by decide +kernel
theorem dX12_runsOf_112 : decode cX12_runsOf 112 = .ok (.iadd, 1) := by decide +kernel
theorem dX12_runsOf_113 : decode cX12_runsOf 113 = .ok (.istore 8, 2) := by decide +kernel
theorem dX12_runsOf_115 : decode cX12_runsOf 115 = .ok (.iload 8, 2) := by decide +kernel
theorem dX12_runsOf_117 : decode cX12_runsOf 117 = .ok (.aload_n 0, 1) := by decide +kernel
theorem dX12_runsOf_118 : decode cX12_runsOf 118 = .ok (.getfield 19, 3) := by decide +kernel
theorem dX12_runsOf_121 : decode cX12_runsOf 121 = .ok (.iload_n 3, 1) := by decide +kernel
theorem dX12_runsOf_122 : decode cX12_runsOf 122 = .ok (.iload 8, 2) := by decide +kernel
theorem dX12_runsOf_124 : decode cX12_runsOf 124 = .ok (.iadd, 1) := by decide +kernel
theorem dX12_runsOf_125 : decode cX12_runsOf 125 = .ok (.iaload, 1) := by decide +kernel
theorem dX12_runsOf_126 : decode cX12_runsOf 126 = .ok (.iadd, 1) := by decide +kernel
theorem dX12_runsOf_127 : decode cX12_runsOf 127 = .ok (.istore 9, 2) := by decide +kernel
theorem dX12_runsOf_129 : decode cX12_runsOf 129 = .ok (.iload 4, 2) := by decide +kernel
theorem dX12_runsOf_131 : decode cX12_runsOf 131 = .ok (.iconst 1, 1) := by decide +kernel
theorem dX12_runsOf_132 : decode cX12_runsOf 132 = .ok (.aload_n 0, 1) := by decide +kernel
theorem dX12_runsOf_133 : decode cX12_runsOf 133 = .ok (.getfield 13, 3) := by decide +kernel
theorem dX12_runsOf_136 : decode cX12_runsOf 136 = .ok (.iload_n 3, 1) := by decide +kernel
theorem dX12_runsOf_137 : decode cX12_runsOf 137 = .ok (.iload 5, 2) := by decide +kernel
theorem dX12_runsOf_139 : decode cX12_runsOf 139 = .ok (.iadd, 1) := by decide +kernel
theorem dX12_runsOf_140 : decode cX12_runsOf 140 = .ok (.iaload, 1) := by decide +kernel
theorem dX12_runsOf_141 : decode cX12_runsOf 141 = .ok (.aload_n 0, 1) := by decide +kernel
theorem dX12_runsOf_142 : decode cX12_runsOf 142 = .ok (.getfield 31, 3) := by decide +kernel
theorem dX12_runsOf_145 : decode cX12_runsOf 145 = .ok (.iload 5, 2) := by decide +kernel
theorem dX12_runsOf_147 : decode cX12_runsOf 147 = .ok (.iconst 1, 1) := by decide +kernel
theorem dX12_runsOf_148 : decode cX12_runsOf 148 = .ok (.iadd, 1) := by decide +kernel
theorem dX12_runsOf_149 : decode cX12_runsOf 149 = .ok (.iaload, 1) := by decide +kernel
theorem dX12_runsOf_150 : decode cX12_runsOf 150 = .ok (.aload_n 0, 1) := by decide +kernel
theorem dX12_runsOf_151 : decode cX12_runsOf 151 = .ok (.getfield 31, 3) := by decide +kernel
theorem dX12_runsOf_154 : decode cX12_runsOf 154 = .ok (.iload 7, 2) := by decide +kernel
theorem dX12_runsOf_156 : decode cX12_runsOf 156 = .ok (.iaload, 1) := by decide +kernel
theorem dX12_runsOf_157 : decode cX12_runsOf 157 = .ok (.invokestatic 124, 3) := by decide +kernel
theorem dX12_runsOf_160 : decode cX12_runsOf 160 = .ok (.ifCond .eq 8, 3) := by decide +kernel
theorem dX12_runsOf_163 : decode cX12_runsOf 163 = .ok (.iload 8, 2) := by decide +kernel
theorem dX12_runsOf_165 : decode cX12_runsOf 165 = .ok (.goto 5, 3) := by decide +kernel
theorem dX12_runsOf_168 : decode cX12_runsOf 168 = .ok (.iload 9, 2) := by decide +kernel
theorem dX12_runsOf_170 : decode cX12_runsOf 170 = .ok (.ishl, 1) := by decide +kernel
theorem dX12_runsOf_171 : decode cX12_runsOf 171 = .ok (.ior, 1) := by decide +kernel
theorem dX12_runsOf_172 : decode cX12_runsOf 172 = .ok (.istore 4, 2) := by decide +kernel
theorem dX12_runsOf_174 : decode cX12_runsOf 174 = .ok (.iinc 5 1, 3) := by decide +kernel
theorem dX12_runsOf_177 : decode cX12_runsOf 177 = .ok (.goto (-157), 3) := by decide +kernel
theorem dX12_runsOf_180 : decode cX12_runsOf 180 = .ok (.iload 4, 2) := by decide +kernel
theorem dX12_runsOf_182 : decode cX12_runsOf 182 = .ok (.ireturn, 1) := by decide +kernel
set_option maxRecDepth 20000 in
theorem ggX12_runs_X12_in : GoodIn wsX12_runs wsX12_in := goodIn_r _ [4] (by decide +kernel) (by decide +kernel)
set_option maxRecDepth 20000 in
theorem gX12_runs_X12_in : GoodIn wsX12_runs (va_wsS RX12 81 yX12_in wsX12_in) := goodIn_app (goodIn_of _ (by decide +kernel)) ggX12_runs_X12_in
set_option maxRecDepth 20000 in
theorem ggX12_runs_X12_areInputs : GoodIn wsX12_runs wsX12_areInputs := goodIn_r _ [7, 8, 1, 2, 3, 4] (by decide +kernel) (by decide +kernel)
set_option maxRecDepth 20000 in
theorem gX12_runs_X12_areInputs : GoodIn wsX12_runs (va_wsS RX12 130 yX12_areInputs wsX12_areInputs) := goodIn_app (goodIn_of _ (by decide +kernel)) ggX12_runs_X12_areInputs
set_option maxRecDepth 20000 in
theorem ggX12_runs_X12_runsOf : GoodIn wsX12_runs wsX12_runsOf := goodIn_r _ [12, 13, 14, 15, 16, 17, 18, 19, 3, 20, 21, 22, 23, 24, 25, 26, 27, 28, 1, 2, 4, 29, 30, 31, 32, 33, 34, 35, 36, 37, 38, 39, 40, 41, 42, 43, 44, 45, 46, 47, 48, 49, 50, 51, 52, 53, 54, 55, 56, 57, 58, 59, 60, 61, 62, 63, 64] (by decide +kernel) (by decide +kernel)
set_option maxRecDepth 20000 in
theorem gX12_runs_X12_runsOf : GoodIn wsX12_runs (wsV RX12 137 RX12 yX12_runsOf wsX12_runsOf) := goodIn_app (goodIn_of _ (by decide +kernel)) ggX12_runs_X12_runsOf
theorem dX12_runs_0 : decode cX12_runs 0 = .ok (.iload_n 1, 1) := by decide +kernel
theorem dX12_runs_1 : decode cX12_runs 1 = .ok (.i2l, 1) := by decide +kernel
theorem dX12_runs_2 : decode cX12_runs 2 = .ok (.lconst 0, 1) := by decide +kernel
theorem dX12_runs_3 : decode cX12_runs 3 = .ok (.lconst 1, 1) := by decide +kernel
theorem dX12_runs_4 : decode cX12_runs 4 = .ok (.invokestatic 81, 3) := by decide +kernel
theorem dX12_runs_7 : decode cX12_runs 7 = .ok (.ifCond .ne 5, 3) := by decide +kernel
theorem dX12_runs_10 : decode cX12_runs 10 = .ok (.iconst (-1), 1) := by decide +kernel
theorem dX12_runs_11 : decode cX12_runs 11 = .ok (.ireturn, 1) := by decide +kernel
theorem dX12_runs_12 : decode cX12_runs 12 = .ok (.iload_n 2, 1) := by decide +kernel
theorem dX12_runs_13 : decode cX12_runs 13 = .ok (.invokestatic 130, 3) := by decide +kernel
theorem dX12_runs_16 : decode cX12_runs 16 = .ok (.ifCond .eq 12, 3) := by decide +kernel
theorem dX12_runs_19 : decode cX12_runs 19 = .ok (.aload_n 0, 1) := by decide +kernel
theorem dX12_runs_20 : decode cX12_runs 20 = .ok (.iload_n 1, 1) := by decide +kernel
theorem dX12_runs_21 : decode cX12_runs 21 = .ok (.iload_n 2, 1) := by decide +kernel
theorem dX12_runs_22 : decode cX12_runs 22 = .ok (.invokevirtual 137, 3) := by decide +kernel
theorem dX12_runs_25 : decode cX12_runs 25 = .ok (.goto 5, 3) := by decide +kernel
theorem dX12_runs_28 : decode cX12_runs 28 = .ok (.bipush (-2), 2) := by decide +kernel
theorem dX12_runs_30 : decode cX12_runs 30 = .ok (.ireturn, 1) := by decide +kernel
theorem dX12_layKinds_0 : decode cX12_layKinds 0 = .ok (.aload_n 0, 1) := by decide +kernel
theorem dX12_layKinds_1 : decode cX12_layKinds 1 = .ok (.getfield 50, 3) := by decide +kernel
theorem dX12_layKinds_4 : decode cX12_layKinds 4 = .ok (.iconst 0, 1) := by decide +kernel
theorem dX12_layKinds_5 : decode cX12_layKinds 5 = .ok (.bipush 43, 2) := by decide +kernel
theorem dX12_layKinds_7 : decode cX12_layKinds 7 = .ok (.iastore, 1) := by decide +kernel
theorem dX12_layKinds_8 : decode cX12_layKinds 8 = .ok (.aload_n 0, 1) := by decide +kernel
theorem dX12_layKinds_9 : decode cX12_layKinds 9 = .ok (.getfield 50, 3) := by decide +kernel
theorem dX12_layKinds_12 : decode cX12_layKinds 12 = .ok (.iconst 1, 1) := by decide +kernel
theorem dX12_layKinds_13 : decode cX12_layKinds 13 = .ok (.bipush 45, 2) := by decide +kernel
theorem dX12_layKinds_15 : decode cX12_layKinds 15 = .ok (.iastore, 1) := by decide +kernel
theorem dX12_layKinds_16 : decode cX12_layKinds 16 = .ok (.aload_n 0, 1) := by decide +kernel
theorem dX12_layKinds_17 : decode cX12_layKinds 17 = .ok (.getfield 50, 3) := by decide +kernel
theorem dX12_layKinds_20 : decode cX12_layKinds 20 = .ok (.iconst 2, 1) := by decide +kernel
theorem dX12_layKinds_21 : decode cX12_layKinds 21 = .ok (.bipush 42, 2) := by decide +kernel
theorem dX12_layKinds_23 : decode cX12_layKinds 23 = .ok (.iastore, 1) := by decide +kernel
theorem dX12_layKinds_24 : decode cX12_layKinds 24 = .ok (.aload_n 0, 1) := by decide +kernel
theorem dX12_layKinds_25 : decode cX12_layKinds 25 = .ok (.getfield 50, 3) := by decide +kernel
theorem dX12_layKinds_28 : decode cX12_layKinds 28 = .ok (.iconst 3, 1) := by decide +kernel
theorem dX12_layKinds_29 : decode cX12_layKinds 29 = .ok (.bipush 109, 2) := by decide +kernel
theorem dX12_layKinds_31 : decode cX12_layKinds 31 = .ok (.iastore, 1) := by decide +kernel
theorem dX12_layKinds_32 : decode cX12_layKinds 32 = .ok (.aload_n 0, 1) := by decide +kernel
theorem dX12_layKinds_33 : decode cX12_layKinds 33 = .ok (.getfield 50, 3) := by decide +kernel
theorem dX12_layKinds_36 : decode cX12_layKinds 36 = .ok (.iconst 4, 1) := by decide +kernel
theorem dX12_layKinds_37 : decode cX12_layKinds 37 = .ok (.bipush 77, 2) := by decide +kernel
theorem dX12_layKinds_39 : decode cX12_layKinds 39 = .ok (.iastore, 1) := by decide +kernel
theorem dX12_layKinds_40 : decode cX12_layKinds 40 = .ok (.aload_n 0, 1) := by decide +kernel
theorem dX12_layKinds_41 : decode cX12_layKinds 41 = .ok (.getfield 50, 3) := by decide +kernel
theorem dX12_layKinds_44 : decode cX12_layKinds 44 = .ok (.iconst 5, 1) := by decide +kernel
theorem dX12_layKinds_45 : decode cX12_layKinds 45 = .ok (.bipush 60, 2) := by decide +kernel
theorem dX12_layKinds_47 : decode cX12_layKinds 47 = .ok (.iastore, 1) := by decide +kernel
theorem dX12_layKinds_48 : decode cX12_layKinds 48 = .ok (.aload_n 0, 1) := by decide +kernel
theorem dX12_layKinds_49 : decode cX12_layKinds 49 = .ok (.getfield 50, 3) := by decide +kernel
theorem dX12_layKinds_52 : decode cX12_layKinds 52 = .ok (.bipush 6, 2) := by decide +kernel
theorem dX12_layKinds_54 : decode cX12_layKinds 54 = .ok (.bipush 62, 2) := by decide +kernel
theorem dX12_layKinds_56 : decode cX12_layKinds 56 = .ok (.iastore, 1) := by decide +kernel
theorem dX12_layKinds_57 : decode cX12_layKinds 57 = .ok (.aload_n 0, 1) := by decide +kernel
theorem dX12_layKinds_58 : decode cX12_layKinds 58 = .ok (.getfield 50, 3) := by decide +kernel
theorem dX12_layKinds_61 : decode cX12_layKinds 61 = .ok (.bipush 7, 2) := by decide +kernel
theorem dX12_layKinds_63 : decode cX12_layKinds 63 = .ok (.bipush 61, 2) := by decide +kernel
theorem dX12_layKinds_65 : decode cX12_layKinds 65 = .ok (.iastore, 1) := by decide +kernel
theorem dX12_layKinds_66 : decode cX12_layKinds 66 = .ok (.aload_n 0, 1) := by decide +kernel
theorem dX12_layKinds_67 : decode cX12_layKinds 67 = .ok (.getfield 50, 3) := by decide +kernel
theorem dX12_layKinds_70 : decode cX12_layKinds 70 = .ok (.bipush 8, 2) := by decide +kernel
theorem dX12_layKinds_72 : decode cX12_layKinds 72 = .ok (.bipush 97, 2) := by decide +kernel
theorem dX12_layKinds_74 : decode cX12_layKinds 74 = .ok (.iastore, 1) := by decide +kernel
theorem dX12_layKinds_75 : decode cX12_layKinds 75 = .ok (.aload_n 0, 1) := by decide +kernel
theorem dX12_layKinds_76 : decode cX12_layKinds 76 = .ok (.getfield 50, 3) := by decide +kernel
theorem dX12_layKinds_79 : decode cX12_layKinds 79 = .ok (.bipush 9, 2) := by decide +kernel
theorem dX12_layKinds_81 : decode cX12_layKinds 81 = .ok (.bipush 98, 2) := by decide +kernel
theorem dX12_layKinds_83 : decode cX12_layKinds 83 = .ok (.iastore, 1) := by decide +kernel
theorem dX12_layKinds_84 : decode cX12_layKinds 84 = .ok (.aload_n 0, 1) := by decide +kernel
theorem dX12_layKinds_85 : decode cX12_layKinds 85 = .ok (.getfield 50, 3) := by decide +kernel
theorem dX12_layKinds_88 : decode cX12_layKinds 88 = .ok (.bipush 10, 2) := by decide +kernel
theorem dX12_layKinds_90 : decode cX12_layKinds 90 = .ok (.bipush 99, 2) := by decide +kernel
theorem dX12_layKinds_92 : decode cX12_layKinds 92 = .ok (.iastore, 1) := by decide +kernel
theorem dX12_layKinds_93 : decode cX12_layKinds 93 = .ok (.return_, 1) := by decide +kernel
theorem dX12_add_0 : decode cX12_add 0 = .ok (.aload_n 0, 1) := by decide +kernel
theorem dX12_add_1 : decode cX12_add 1 = .ok (.getfield 34, 3) := by decide +kernel
theorem dX12_add_4 : decode cX12_add 4 = .ok (.aload_n 0, 1) := by decide +kernel
theorem dX12_add_5 : decode cX12_add 5 = .ok (.getfield 141, 3) := by decide +kernel
theorem dX12_add_8 : decode cX12_add 8 = .ok (.iload_n 1, 1) := by decide +kernel
theorem dX12_add_9 : decode cX12_add 9 = .ok (.iastore, 1) := by decide +kernel
theorem dX12_add_10 : decode cX12_add 10 = .ok (.aload_n 0, 1) := by decide +kernel
theorem dX12_add_11 : decode cX12_add 11 = .ok (.getfield 37, 3) := by decide +kernel
theorem dX12_add_14 : decode cX12_add 14 = .ok (.aload_n 0, 1) := by decide +kernel
theorem dX12_add_15 : decode cX12_add 15 = .ok (.getfield 141, 3) := by decide +kernel
theorem dX12_add_18 : decode cX12_add 18 = .ok (.iload_n 2, 1) := by decide +kernel
theorem dX12_add_19 : decode cX12_add 19 = .ok (.iastore, 1) := by decide +kernel
theorem dX12_add_20 : decode cX12_add 20 = .ok (.aload_n 0, 1) := by decide +kernel
theorem dX12_add_21 : decode cX12_add 21 = .ok (.dup, 1) := by decide +kernel
theorem dX12_add_22 : decode cX12_add 22 = .ok (.getfield 141, 3) := by decide +kernel
theorem dX12_add_25 : decode cX12_add 25 = .ok (.iconst 1, 1) := by decide +kernel
theorem dX12_add_26 : decode cX12_add 26 = .ok (.iadd, 1) := by decide +kernel
theorem dX12_add_27 : decode cX12_add 27 = .ok (.putfield 141, 3) := by decide +kernel
theorem dX12_add_30 : decode cX12_add 30 = .ok (.return_, 1) := by decide +kernel
set_option maxRecDepth 20000 in
theorem ggX12_addFor_X12_isNumber : GoodIn wsX12_addFor wsX12_isNumber := goodIn_r _ [6, 7, 8, 9, 10, 5, 11] (by decide +kernel) (by decide +kernel)
set_option maxRecDepth 20000 in
theorem gX12_addFor_X12_isNumber : GoodIn wsX12_addFor (va_wsS RX12 101 yX12_isNumber wsX12_isNumber) := goodIn_app (goodIn_of _ (by decide +kernel)) ggX12_addFor_X12_isNumber
set_option maxRecDepth 20000 in
theorem ggX12_addFor_X12_add : GoodIn wsX12_addFor wsX12_add := goodIn_r _ [15, 16, 17, 18, 27, 28, 29, 30, 31, 32, 33, 34, 35, 36, 37, 38, 39, 40, 41, 42, 43, 44, 45, 46, 47, 48, 49, 50, 51] (by decide +kernel) (by decide +kernel)
set_option maxRecDepth 20000 in
theorem gX12_addFor_X12_add : GoodIn wsX12_addFor (wsV RX12 144 RX12 yX12_add wsX12_add) := goodIn_app (goodIn_of _ (by decide +kernel)) ggX12_addFor_X12_add
set_option maxRecDepth 20000 in
theorem ggX12_addFor_X12_isInput : GoodIn wsX12_addFor wsX12_isInput := goodIn_r _ [21, 22, 23, 9, 10, 5, 11] (by decide +kernel) (by decide +kernel)
set_option maxRecDepth 20000 in
theorem gX12_addFor_X12_isInput : GoodIn wsX12_addFor (va_wsS RX12 97 yX12_isInput wsX12_isInput) := goodIn_app (goodIn_of _ (by decide +kernel)) ggX12_addFor_X12_isInput
set_option maxRecDepth 20000 in
theorem ggX12_addFor_X12_partsOf : GoodIn wsX12_addFor wsX12_partsOf := goodIn_r _ [26, 19, 20, 5, 21, 22, 23, 9, 10, 11, 3, 4, 6, 7, 8] (by decide +kernel) (by decide +kernel)
set_option maxRecDepth 20000 in
theorem gX12_addFor_X12_partsOf : GoodIn wsX12_addFor (va_wsS RX12 104 yX12_partsOf wsX12_partsOf) := goodIn_app (goodIn_of _ (by decide +kernel)) ggX12_addFor_X12_partsOf
theorem dX12_addFor_0 : decode cX12_addFor 0 = .ok (.aload_n 0, 1) := by decide +kernel
theorem dX12_addFor_1 : decode cX12_addFor 1 = .ok (.getfield 13, 3) := by decide +kernel
theorem dX12_addFor_4 : decode cX12_addFor 4 = .ok (.iload_n 1, 1) := by decide +kernel
theorem dX12_addFor_5 : decode cX12_addFor 5 = .ok (.iaload, 1) := by decide +kernel
theorem dX12_addFor_6 : decode cX12_addFor 6 = .ok (.istore_n 2, 1) := by decide +kernel
theorem dX12_addFor_7 : decode cX12_addFor 7 = .ok (.iload_n 2, 1) := by decide +kernel
theorem dX12_addFor_8 : decode cX12_addFor 8 = .ok (.invokestatic 101, 3) := by decide +kernel
theorem dX12_addFor_11 : decode cX12_addFor 11 = .ok (.ifCond .eq 38, 3) := by decide +kernel
theorem dX12_addFor_14 : decode cX12_addFor 14 = .ok (.aload_n 0, 1) := by decide +kernel
theorem dX12_addFor_15 : decode cX12_addFor 15 = .ok (.iload_n 1, 1) := by decide +kernel
theorem dX12_addFor_16 : decode cX12_addFor 16 = .ok (.bipush 48, 2) := by decide +kernel
theorem dX12_addFor_18 : decode cX12_addFor 18 = .ok (.iload_n 2, 1) := by decide +kernel
theorem dX12_addFor_19 : decode cX12_addFor 19 = .ok (.bipush 48, 2) := by decide +kernel
theorem dX12_addFor_21 : decode cX12_addFor 21 = .ok (.isub, 1) := by decide +kernel
theorem dX12_addFor_22 : decode cX12_addFor 22 = .ok (.iconst 1, 1) := by decide +kernel
theorem dX12_addFor_23 : decode cX12_addFor 23 = .ok (.iadd, 1) := by decide +kernel
theorem dX12_addFor_24 : decode cX12_addFor 24 = .ok (.bipush 7, 2) := by decide +kernel
theorem dX12_addFor_26 : decode cX12_addFor 26 = .ok (.iand, 1) := by decide +kernel
theorem dX12_addFor_27 : decode cX12_addFor 27 = .ok (.iadd, 1) := by decide +kernel
theorem dX12_addFor_28 : decode cX12_addFor 28 = .ok (.invokevirtual 144, 3) := by decide +kernel
theorem dX12_addFor_31 : decode cX12_addFor 31 = .ok (.aload_n 0, 1) := by decide +kernel
theorem dX12_addFor_32 : decode cX12_addFor 32 = .ok (.iload_n 1, 1) := by decide +kernel
theorem dX12_addFor_33 : decode cX12_addFor 33 = .ok (.bipush 48, 2) := by decide +kernel
theorem dX12_addFor_35 : decode cX12_addFor 35 = .ok (.iload_n 2, 1) := by decide +kernel
theorem dX12_addFor_36 : decode cX12_addFor 36 = .ok (.bipush 48, 2) := by decide +kernel
theorem dX12_addFor_38 : decode cX12_addFor 38 = .ok (.isub, 1) := by decide +kernel
theorem dX12_addFor_39 : decode cX12_addFor 39 = .ok (.iconst 1, 1) := by decide +kernel
theorem dX12_addFor_40 : decode cX12_addFor 40 = .ok (.isub, 1) := by decide +kernel
theorem dX12_addFor_41 : decode cX12_addFor 41 = .ok (.bipush 7, 2) := by decide +kernel
theorem dX12_addFor_43 : decode cX12_addFor 43 = .ok (.iand, 1) := by decide +kernel
theorem dX12_addFor_44 : decode cX12_addFor 44 = .ok (.iadd, 1) := by decide +kernel
theorem dX12_addFor_45 : decode cX12_addFor 45 = .ok (.invokevirtual 144, 3) := by decide +kernel
theorem dX12_addFor_48 : decode cX12_addFor 48 = .ok (.return_, 1) := by decide +kernel
theorem dX12_addFor_49 : decode cX12_addFor 49 = .ok (.iload_n 2, 1) := by decide +kernel
theorem dX12_addFor_50 : decode cX12_addFor 50 = .ok (.invokestatic 97, 3) := by decide +kernel
theorem dX12_addFor_53 : decode cX12_addFor 53 = .ok (.ifCond .eq 8, 3) := by decide +kernel
theorem dX12_addFor_56 : decode cX12_addFor 56 = .ok (.bipush 8, 2) := by decide +kernel
theorem dX12_addFor_58 : decode cX12_addFor 58 = .ok (.goto 16, 3) := by decide +kernel
theorem dX12_addFor_61 : decode cX12_addFor 61 = .ok (.iload_n 2, 1) := by decide +kernel
theorem dX12_addFor_62 : decode cX12_addFor 62 = .ok (.invokestatic 104, 3) := by decide +kernel
theorem dX12_addFor_65 : decode cX12_addFor 65 = .ok (.iconst 2, 1) := by decide +kernel
theorem dX12_addFor_66 : decode cX12_addFor 66 = .ok (.if_icmp .ne 7, 3) := by decide +kernel
theorem dX12_addFor_69 : decode cX12_addFor 69 = .ok (.iconst 0, 1) := by decide +kernel
theorem dX12_addFor_70 : decode cX12_addFor 70 = .ok (.goto 4, 3) := by decide +kernel
theorem dX12_addFor_73 : decode cX12_addFor 73 = .ok (.iconst 5, 1) := by decide +kernel
theorem dX12_addFor_74 : decode cX12_addFor 74 = .ok (.istore_n 3, 1) := by decide +kernel
theorem dX12_addFor_75 : decode cX12_addFor 75 = .ok (.iload_n 2, 1) := by decide +kernel
theorem dX12_addFor_76 : decode cX12_addFor 76 = .ok (.invokestatic 97, 3) := by decide +kernel
theorem dX12_addFor_79 : decode cX12_addFor 79 = .ok (.ifCond .eq 8, 3) := by decide +kernel
theorem dX12_addFor_82 : decode cX12_addFor 82 = .ok (.bipush 11, 2) := by decide +kernel
theorem dX12_addFor_84 : decode cX12_addFor 84 = .ok (.goto 17, 3) := by decide +kernel
theorem dX12_addFor_87 : decode cX12_addFor 87 = .ok (.iload_n 2, 1) := by decide +kernel
theorem dX12_addFor_88 : decode cX12_addFor 88 = .ok (.invokestatic 104, 3) := by decide +kernel
theorem dX12_addFor_91 : decode cX12_addFor 91 = .ok (.iconst 2, 1) := by decide +kernel
theorem dX12_addFor_92 : decode cX12_addFor 92 = .ok (.if_icmp .ne 7, 3) := by decide +kernel
theorem dX12_addFor_95 : decode cX12_addFor 95 = .ok (.iconst 5, 1) := by decide +kernel
theorem dX12_addFor_96 : decode cX12_addFor 96 = .ok (.goto 5, 3) := by decide +kernel
theorem dX12_addFor_99 : decode cX12_addFor 99 = .ok (.bipush 8, 2) := by decide +kernel
theorem dX12_addFor_101 : decode cX12_addFor 101 = .ok (.istore 4, 2) := by decide +kernel
theorem dX12_addFor_103 : decode cX12_addFor 103 = .ok (.iload_n 3, 1) := by decide +kernel
theorem dX12_addFor_104 : decode cX12_addFor 104 = .ok (.istore 5, 2) := by decide +kernel
theorem dX12_addFor_106 : decode cX12_addFor 106 = .ok (.iload 5, 2) := by decide +kernel
theorem dX12_addFor_108 : decode cX12_addFor 108 = .ok (.iload 4, 2) := by decide +kernel
theorem dX12_addFor_110 : decode cX12_addFor 110 = .ok (.if_icmp .ge 32, 3) := by decide +kernel
theorem dX12_addFor_113 : decode cX12_addFor 113 = .ok (.aload_n 0, 1) := by decide +kernel
theorem dX12_addFor_114 : decode cX12_addFor 114 = .ok (.getfield 50, 3) := by decide +kernel
theorem dX12_addFor_117 : decode cX12_addFor 117 = .ok (.iload 5, 2) := by decide +kernel
theorem dX12_addFor_119 : decode cX12_addFor 119 = .ok (.iaload, 1) := by decide +kernel
theorem dX12_addFor_120 : decode cX12_addFor 120 = .ok (.iload_n 2, 1) := by decide +kernel
theorem dX12_addFor_121 : decode cX12_addFor 121 = .ok (.if_icmp .eq 15, 3) := by decide +kernel
theorem dX12_addFor_124 : decode cX12_addFor 124 = .ok (.aload_n 0, 1) := by decide +kernel
theorem dX12_addFor_125 : decode cX12_addFor 125 = .ok (.iload_n 1, 1) := by decide +kernel
theorem dX12_addFor_126 : decode cX12_addFor 126 = .ok (.aload_n 0, 1) := by decide +kernel
theorem dX12_addFor_127 : decode cX12_addFor 127 = .ok (.getfield 50, 3) := by decide +kernel
theorem dX12_addFor_130 : decode cX12_addFor 130 = .ok (.iload 5, 2) := by decide +kernel
theorem dX12_addFor_132 : decode cX12_addFor 132 = .ok (.iaload, 1) := by decide +kernel
theorem dX12_addFor_133 : decode cX12_addFor 133 = .ok (.invokevirtual 144, 3) := by decide +kernel
theorem dX12_addFor_136 : decode cX12_addFor 136 = .ok (.iinc 5 1, 3) := by decide +kernel
theorem dX12_addFor_139 : decode cX12_addFor 139 = .ok (.goto (-33), 3) := by decide +kernel
theorem dX12_addFor_142 : decode cX12_addFor 142 = .ok (.return_, 1) := by decide +kernel
set_option maxRecDepth 20000 in
theorem ggX12_layChanges_X12_addFor : GoodIn wsX12_layChanges wsX12_addFor := goodIn_r _ [14, 15, 16, 17, 18, 13, 19, 20, 21, 22, 23, 24, 25, 26, 27, 28, 7, 2, 8, 29, 30, 31, 32, 33, 34, 35, 36, 48, 49, 50, 51, 52, 53, 54, 55, 56, 57, 58, 59, 60, 61, 62, 63, 64, 65, 66, 67, 68, 69, 70, 71, 72] (by decide +kernel) (by decide +kernel)
set_option maxRecDepth 20000 in
theorem gX12_layChanges_X12_addFor : GoodIn wsX12_layChanges (wsV RX12 148 RX12 yX12_addFor wsX12_addFor) := goodIn_app (goodIn_of _ (by decide +kernel)) ggX12_layChanges_X12_addFor
set_option maxRecDepth 20000 in
theorem ggX12_layChanges_X12_work : GoodIn wsX12_layChanges wsX12_work := goodIn_r _ [40, 3, 15, 5, 41, 34, 35, 13, 36, 29, 30, 31, 32, 33, 22, 23, 24, 17, 18, 19, 20, 21, 42, 43, 44, 45, 46, 47, 48, 49, 50, 51, 52, 53, 54, 55, 56, 57, 58, 59, 60, 61, 62, 63, 64, 65, 66, 67, 68, 69, 70, 71, 72] (by decide +kernel) (by decide +kernel)
set_option maxRecDepth 20000 in
theorem gX12_layChanges_X12_work : GoodIn wsX12_layChanges (wsV RX12 133 RX12 yX12_work wsX12_work) := goodIn_app (goodIn_of _ (by decide +kernel)) ggX12_layChanges_X12_work
theorem dX12_layChanges_0 : decode cX12_layChanges 0 = .ok (.aload_n 0, 1) := by decide +kernel
theorem dX12_layChanges_1 : decode cX12_layChanges 1 = .ok (.getfield 112, 3) := by decide +kernel
theorem dX12_layChanges_4 : decode cX12_layChanges 4 = .ok (.ifCond .eq 4, 3) := by decide +kernel
theorem dX12_layChanges_7 : decode cX12_layChanges 7 = .ok (.return_, 1) := by decide +kernel
theorem dX12_layChanges_8 : decode cX12_layChanges 8 = .ok (.aload_n 0, 1) := by decide +kernel
theorem dX12_layChanges_9 : decode cX12_layChanges 9 = .ok (.iconst 0, 1) := by decide +kernel
theorem dX12_layChanges_10 : decode cX12_layChanges 10 = .ok (.putfield 141, 3) := by decide +kernel
theorem dX12_layChanges_13 : decode cX12_layChanges 13 = .ok (.iconst 0, 1) := by decide +kernel
theorem dX12_layChanges_14 : decode cX12_layChanges 14 = .ok (.istore_n 1, 1) := by decide +kernel
theorem dX12_layChanges_15 : decode cX12_layChanges 15 = .ok (.iload_n 1, 1) := by decide +kernel
theorem dX12_layChanges_16 : decode cX12_layChanges 16 = .ok (.aload_n 0, 1) := by decide +kernel
theorem dX12_layChanges_17 : decode cX12_layChanges 17 = .ok (.getfield 22, 3) := by decide +kernel
theorem dX12_layChanges_20 : decode cX12_layChanges 20 = .ok (.iconst 0, 1) := by decide +kernel
theorem dX12_layChanges_21 : decode cX12_layChanges 21 = .ok (.iaload, 1) := by decide +kernel
theorem dX12_layChanges_22 : decode cX12_layChanges 22 = .ok (.if_icmp .ge 14, 3) := by decide +kernel
theorem dX12_layChanges_25 : decode cX12_layChanges 25 = .ok (.aload_n 0, 1) := by decide +kernel
theorem dX12_layChanges_26 : decode cX12_layChanges 26 = .ok (.iload_n 1, 1) := by decide +kernel
theorem dX12_layChanges_27 : decode cX12_layChanges 27 = .ok (.invokevirtual 148, 3) := by decide +kernel
theorem dX12_layChanges_30 : decode cX12_layChanges 30 = .ok (.iinc 1 1, 3) := by decide +kernel
theorem dX12_layChanges_33 : decode cX12_layChanges 33 = .ok (.goto (-18), 3) := by decide +kernel
theorem dX12_layChanges_36 : decode cX12_layChanges 36 = .ok (.iconst 0, 1) := by decide +kernel
theorem dX12_layChanges_37 : decode cX12_layChanges 37 = .ok (.istore_n 1, 1) := by decide +kernel
theorem dX12_layChanges_38 : decode cX12_layChanges 38 = .ok (.iload_n 1, 1) := by decide +kernel
theorem dX12_layChanges_39 : decode cX12_layChanges 39 = .ok (.sipush 512, 3) := by decide +kernel
theorem dX12_layChanges_42 : decode cX12_layChanges 42 = .ok (.if_icmp .ge 30, 3) := by decide +kernel
theorem dX12_layChanges_45 : decode cX12_layChanges 45 = .ok (.aload_n 0, 1) := by decide +kernel
theorem dX12_layChanges_46 : decode cX12_layChanges 46 = .ok (.iconst 0, 1) := by decide +kernel
theorem dX12_layChanges_47 : decode cX12_layChanges 47 = .ok (.iload_n 1, 1) := by decide +kernel
theorem dX12_layChanges_48 : decode cX12_layChanges 48 = .ok (.bipush (-6), 2) := by decide +kernel
theorem dX12_layChanges_50 : decode cX12_layChanges 50 = .ok (.iconst 0, 1) := by decide +kernel
theorem dX12_layChanges_51 : decode cX12_layChanges 51 = .ok (.invokevirtual 133, 3) := by decide +kernel
theorem dX12_layChanges_54 : decode cX12_layChanges 54 = .ok (.aload_n 0, 1) := by decide +kernel
theorem dX12_layChanges_55 : decode cX12_layChanges 55 = .ok (.getfield 47, 3) := by decide +kernel
theorem dX12_layChanges_58 : decode cX12_layChanges 58 = .ok (.iload_n 1, 1) := by decide +kernel
theorem dX12_layChanges_59 : decode cX12_layChanges 59 = .ok (.aload_n 0, 1) := by decide +kernel
theorem dX12_layChanges_60 : decode cX12_layChanges 60 = .ok (.getfield 31, 3) := by decide +kernel
theorem dX12_layChanges_63 : decode cX12_layChanges 63 = .ok (.iconst 0, 1) := by decide +kernel
theorem dX12_layChanges_64 : decode cX12_layChanges 64 = .ok (.iaload, 1) := by decide +kernel
theorem dX12_layChanges_65 : decode cX12_layChanges 65 = .ok (.iastore, 1) := by decide +kernel
theorem dX12_layChanges_66 : decode cX12_layChanges 66 = .ok (.iinc 1 1, 3) := by decide +kernel
theorem dX12_layChanges_69 : decode cX12_layChanges 69 = .ok (.goto (-31), 3) := by decide +kernel
theorem dX12_layChanges_72 : decode cX12_layChanges 72 = .ok (.iconst 0, 1) := by decide +kernel
theorem dX12_layChanges_73 : decode cX12_layChanges 73 = .ok (.istore_n 1, 1) := by decide +kernel
theorem dX12_layChanges_74 : decode cX12_layChanges 74 = .ok (.iload_n 1, 1) := by decide +kernel
theorem dX12_layChanges_75 : decode cX12_layChanges 75 = .ok (.aload_n 0, 1) := by decide +kernel
theorem dX12_layChanges_76 : decode cX12_layChanges 76 = .ok (.getfield 141, 3) := by decide +kernel
theorem dX12_layChanges_79 : decode cX12_layChanges 79 = .ok (.if_icmp .ge 96, 3) := by decide +kernel
theorem dX12_layChanges_82 : decode cX12_layChanges 82 = .ok (.aload_n 0, 1) := by decide +kernel
theorem dX12_layChanges_83 : decode cX12_layChanges 83 = .ok (.getfield 40, 3) := by decide +kernel
theorem dX12_layChanges_86 : decode cX12_layChanges 86 = .ok (.iload_n 1, 1) := by decide +kernel
theorem dX12_layChanges_87 : decode cX12_layChanges 87 = .ok (.iconst 0, 1) := by decide +kernel
theorem dX12_layChanges_88 : decode cX12_layChanges 88 = .ok (.iastore, 1) := by decide +kernel
theorem dX12_layChanges_89 : decode cX12_layChanges 89 = .ok (.iconst 0, 1) := by decide +kernel
theorem dX12_layChanges_90 : decode cX12_layChanges 90 = .ok (.istore_n 2, 1) := by decide +kernel
theorem dX12_layChanges_91 : decode cX12_layChanges 91 = .ok (.iload_n 2, 1) := by decide +kernel
theorem dX12_layChanges_92 : decode cX12_layChanges 92 = .ok (.sipush 512, 3) := by decide +kernel
theorem dX12_layChanges_95 : decode cX12_layChanges 95 = .ok (.if_icmp .ge 74, 3) := by decide +kernel
theorem dX12_layChanges_98 : decode cX12_layChanges 98 = .ok (.aload_n 0, 1) := by decide +kernel
theorem dX12_layChanges_99 : decode cX12_layChanges 99 = .ok (.iconst 0, 1) := by decide +kernel
theorem dX12_layChanges_100 : decode cX12_layChanges 100 = .ok (.iload_n 2, 1) := by decide +kernel
theorem dX12_layChanges_101 : decode cX12_layChanges 101 = .ok (.aload_n 0, 1) := by decide +kernel
theorem dX12_layChanges_102 : decode cX12_layChanges 102 = .ok (.getfield 34, 3) := by decide +kernel
theorem dX12_layChanges_105 : decode cX12_layChanges 105 = .ok (.iload_n 1, 1) := by decide +kernel
theorem dX12_layChanges_106 : decode cX12_layChanges 106 = .ok (.iaload, 1) := by decide +kernel
theorem dX12_layChanges_107 : decode cX12_layChanges 107 = .ok (.aload_n 0, 1) := by decide +kernel
theorem dX12_layChanges_108 : decode cX12_layChanges 108 = .ok (.getfield 37, 3) := by decide +kernel
theorem dX12_layChanges_111 : decode cX12_layChanges 111 = .ok (.iload_n 1, 1) := by decide +kernel
theorem dX12_layChanges_112 : decode cX12_layChanges 112 = .ok (.iaload, 1) := by decide +kernel
theorem dX12_layChanges_113 : decode cX12_layChanges 113 = .ok (.invokevirtual 133, 3) := by decide +kernel
theorem dX12_layChanges_116 : decode cX12_layChanges 116 = .ok (.aload_n 0, 1) := by decide +kernel
theorem dX12_layChanges_117 : decode cX12_layChanges 117 = .ok (.getfield 44, 3) := by decide +kernel
theorem dX12_layChanges_120 : decode cX12_layChanges 120 = .ok (.sipush 512, 3) := by decide +kernel
theorem dX12_layChanges_123 : decode cX12_layChanges 123 = .ok (.iload_n 1, 1) := by decide +kernel
theorem dX12_layChanges_124 : decode cX12_layChanges 124 = .ok (.imul, 1) := by decide +kernel
theorem dX12_layChanges_125 : decode cX12_layChanges 125 = .ok (.iload_n 2, 1) := by decide +kernel
theorem dX12_layChanges_126 : decode cX12_layChanges 126 = .ok (.iadd, 1) := by decide +kernel
theorem dX12_layChanges_127 : decode cX12_layChanges 127 = .ok (.aload_n 0, 1) := by decide +kernel
theorem dX12_layChanges_128 : decode cX12_layChanges 128 = .ok (.getfield 31, 3) := by decide +kernel
theorem dX12_layChanges_131 : decode cX12_layChanges 131 = .ok (.iconst 0, 1) := by decide +kernel
theorem dX12_layChanges_132 : decode cX12_layChanges 132 = .ok (.iaload, 1) := by decide +kernel
theorem dX12_layChanges_133 : decode cX12_layChanges 133 = .ok (.iastore, 1) := by decide +kernel
theorem dX12_layChanges_134 : decode cX12_layChanges 134 = .ok (.aload_n 0, 1) := by decide +kernel
theorem dX12_layChanges_135 : decode cX12_layChanges 135 = .ok (.getfield 40, 3) := by decide +kernel
theorem dX12_layChanges_138 : decode cX12_layChanges 138 = .ok (.iload_n 1, 1) := by decide +kernel
theorem dX12_layChanges_139 : decode cX12_layChanges 139 = .ok (.dup2, 1) := by decide +kernel
theorem dX12_layChanges_140 : decode cX12_layChanges 140 = .ok (.iaload, 1) := by decide +kernel
theorem dX12_layChanges_141 : decode cX12_layChanges 141 = .ok (.aload_n 0, 1) := by decide +kernel
theorem dX12_layChanges_142 : decode cX12_layChanges 142 = .ok (.getfield 31, 3) := by decide +kernel
theorem dX12_layChanges_145 : decode cX12_layChanges 145 = .ok (.iconst 0, 1) := by decide +kernel
theorem dX12_layChanges_146 : decode cX12_layChanges 146 = .ok (.iaload, 1) := by decide +kernel
theorem dX12_layChanges_147 : decode cX12_layChanges 147 = .ok (.aload_n 0, 1) := by decide +kernel
theorem dX12_layChanges_148 : decode cX12_layChanges 148 = .ok (.getfield 47, 3) := by decide +kernel
theorem dX12_layChanges_151 : decode cX12_layChanges 151 = .ok (.iload_n 2, 1) := by decide +kernel
theorem dX12_layChanges_152 : decode cX12_layChanges 152 = .ok (.iaload, 1) := by decide +kernel
theorem dX12_layChanges_153 : decode cX12_layChanges 153 = .ok (.if_icmp .eq 7, 3) := by decide +kernel
theorem dX12_layChanges_156 : decode cX12_layChanges 156 = .ok (.iconst 1, 1) := by decide +kernel
theorem dX12_layChanges_157 : decode cX12_layChanges 157 = .ok (.goto 4, 3) := by decide +kernel
theorem dX12_layChanges_160 : decode cX12_layChanges 160 = .ok (.iconst 0, 1) := by decide +kernel
theorem dX12_layChanges_161 : decode cX12_layChanges 161 = .ok (.iadd, 1) := by decide +kernel
theorem dX12_layChanges_162 : decode cX12_layChanges 162 = .ok (.iastore, 1) := by decide +kernel
theorem dX12_layChanges_163 : decode cX12_layChanges 163 = .ok (.iinc 2 1, 3) := by decide +kernel
theorem dX12_layChanges_166 : decode cX12_layChanges 166 = .ok (.goto (-75), 3) := by decide +kernel
theorem dX12_layChanges_169 : decode cX12_layChanges 169 = .ok (.iinc 1 1, 3) := by decide +kernel
theorem dX12_layChanges_172 : decode cX12_layChanges 172 = .ok (.goto (-98), 3) := by decide +kernel
theorem dX12_layChanges_175 : decode cX12_layChanges 175 = .ok (.aload_n 0, 1) := by decide +kernel
theorem dX12_layChanges_176 : decode cX12_layChanges 176 = .ok (.iconst 1, 1) := by decide +kernel
theorem dX12_layChanges_177 : decode cX12_layChanges 177 = .ok (.putfield 112, 3) := by decide +kernel
theorem dX12_layChanges_180 : decode cX12_layChanges 180 = .ok (.return_, 1) := by decide +kernel
set_option maxRecDepth 20000 in
theorem ggX12_isChange_X12_in : GoodIn wsX12_isChange wsX12_in := goodIn_r _ [5] (by decide +kernel) (by decide +kernel)
set_option maxRecDepth 20000 in
theorem gX12_isChange_X12_in : GoodIn wsX12_isChange (va_wsS RX12 81 yX12_in wsX12_in) := goodIn_app (goodIn_of _ (by decide +kernel)) ggX12_isChange_X12_in
theorem dX12_isChange_0 : decode cX12_isChange 0 = .ok (.iload_n 1, 1) := by decide +kernel
theorem dX12_isChange_1 : decode cX12_isChange 1 = .ok (.i2l, 1) := by decide +kernel
theorem dX12_isChange_2 : decode cX12_isChange 2 = .ok (.lconst 0, 1) := by decide +kernel
theorem dX12_isChange_3 : decode cX12_isChange 3 = .ok (.aload_n 0, 1) := by decide +kernel
theorem dX12_isChange_4 : decode cX12_isChange 4 = .ok (.getfield 141, 3) := by decide +kernel
theorem dX12_isChange_7 : decode cX12_isChange 7 = .ok (.iconst 1, 1) := by decide +kernel
theorem dX12_isChange_8 : decode cX12_isChange 8 = .ok (.isub, 1) := by decide +kernel
theorem dX12_isChange_9 : decode cX12_isChange 9 = .ok (.i2l, 1) := by decide +kernel
theorem dX12_isChange_10 : decode cX12_isChange 10 = .ok (.invokestatic 81, 3) := by decide +kernel
theorem dX12_isChange_13 : decode cX12_isChange 13 = .ok (.ireturn, 1) := by decide +kernel
set_option maxRecDepth 20000 in
theorem ggX12_findNoticed_X12_layChanges : GoodIn wsX12_findNoticed wsX12_layChanges := goodIn_r _ [11, 12, 1, 13, 6, 14, 15, 16, 17, 4, 18, 19, 20, 10, 21, 22, 23, 24, 25, 26, 27, 28, 29, 30, 31, 32, 33, 34, 35, 36, 37, 38, 39, 40, 41, 42, 43, 44, 45, 46, 47, 48, 49, 50, 51, 52, 53, 54, 55, 56, 57, 58, 59, 60, 61, 62, 63, 64, 65, 66, 67, 68, 69, 70, 71, 72, 73, 74, 75, 76, 77, 78, 79] (by decide +kernel) (by decide +kernel)
set_option maxRecDepth 20000 in
theorem gX12_findNoticed_X12_layChanges : GoodIn wsX12_findNoticed (wsV RX12 152 RX12 yX12_layChanges wsX12_layChanges) := goodIn_app (goodIn_of _ (by decide +kernel)) ggX12_findNoticed_X12_layChanges
theorem dX12_findNoticed_0 : decode cX12_findNoticed 0 = .ok (.aload_n 0, 1) := by decide +kernel
theorem dX12_findNoticed_1 : decode cX12_findNoticed 1 = .ok (.invokevirtual 152, 3) := by decide +kernel
theorem dX12_findNoticed_4 : decode cX12_findNoticed 4 = .ok (.iconst 0, 1) := by decide +kernel
theorem dX12_findNoticed_5 : decode cX12_findNoticed 5 = .ok (.istore_n 1, 1) := by decide +kernel
theorem dX12_findNoticed_6 : decode cX12_findNoticed 6 = .ok (.iload_n 1, 1) := by decide +kernel
theorem dX12_findNoticed_7 : decode cX12_findNoticed 7 = .ok (.aload_n 0, 1) := by decide +kernel
theorem dX12_findNoticed_8 : decode cX12_findNoticed 8 = .ok (.getfield 141, 3) := by decide +kernel
theorem dX12_findNoticed_11 : decode cX12_findNoticed 11 = .ok (.if_icmp .ge 79, 3) := by decide +kernel
theorem dX12_findNoticed_14 : decode cX12_findNoticed 14 = .ok (.aload_n 0, 1) := by decide +kernel
theorem dX12_findNoticed_15 : decode cX12_findNoticed 15 = .ok (.getfield 59, 3) := by decide +kernel
theorem dX12_findNoticed_18 : decode cX12_findNoticed 18 = .ok (.iload_n 1, 1) := by decide +kernel
theorem dX12_findNoticed_19 : decode cX12_findNoticed 19 = .ok (.iconst 0, 1) := by decide +kernel
theorem dX12_findNoticed_20 : decode cX12_findNoticed 20 = .ok (.iastore, 1) := by decide +kernel
theorem dX12_findNoticed_21 : decode cX12_findNoticed 21 = .ok (.iconst 0, 1) := by decide +kernel
theorem dX12_findNoticed_22 : decode cX12_findNoticed 22 = .ok (.istore_n 2, 1) := by decide +kernel
theorem dX12_findNoticed_23 : decode cX12_findNoticed 23 = .ok (.iload_n 2, 1) := by decide +kernel
theorem dX12_findNoticed_24 : decode cX12_findNoticed 24 = .ok (.aload_n 0, 1) := by decide +kernel
theorem dX12_findNoticed_25 : decode cX12_findNoticed 25 = .ok (.getfield 155, 3) := by decide +kernel
theorem dX12_findNoticed_28 : decode cX12_findNoticed 28 = .ok (.if_icmp .ge 56, 3) := by decide +kernel
theorem dX12_findNoticed_31 : decode cX12_findNoticed 31 = .ok (.aload_n 0, 1) := by decide +kernel
theorem dX12_findNoticed_32 : decode cX12_findNoticed 32 = .ok (.getfield 59, 3) := by decide +kernel
theorem dX12_findNoticed_35 : decode cX12_findNoticed 35 = .ok (.iload_n 1, 1) := by decide +kernel
theorem dX12_findNoticed_36 : decode cX12_findNoticed 36 = .ok (.dup2, 1) := by decide +kernel
theorem dX12_findNoticed_37 : decode cX12_findNoticed 37 = .ok (.iaload, 1) := by decide +kernel
theorem dX12_findNoticed_38 : decode cX12_findNoticed 38 = .ok (.aload_n 0, 1) := by decide +kernel
theorem dX12_findNoticed_39 : decode cX12_findNoticed 39 = .ok (.getfield 44, 3) := by decide +kernel
theorem dX12_findNoticed_42 : decode cX12_findNoticed 42 = .ok (.sipush 512, 3) := by decide +kernel
theorem dX12_findNoticed_45 : decode cX12_findNoticed 45 = .ok (.iload_n 1, 1) := by decide +kernel
theorem dX12_findNoticed_46 : decode cX12_findNoticed 46 = .ok (.imul, 1) := by decide +kernel
theorem dX12_findNoticed_47 : decode cX12_findNoticed 47 = .ok (.aload_n 0, 1) := by decide +kernel
theorem dX12_findNoticed_48 : decode cX12_findNoticed 48 = .ok (.getfield 53, 3) := by decide +kernel
theorem dX12_findNoticed_51 : decode cX12_findNoticed 51 = .ok (.iload_n 2, 1) := by decide +kernel
theorem dX12_findNoticed_52 : decode cX12_findNoticed 52 = .ok (.iaload, 1) := by decide +kernel
theorem dX12_findNoticed_53 : decode cX12_findNoticed 53 = .ok (.iadd, 1) := by decide +kernel
theorem dX12_findNoticed_54 : decode cX12_findNoticed 54 = .ok (.iaload, 1) := by decide +kernel
theorem dX12_findNoticed_55 : decode cX12_findNoticed 55 = .ok (.aload_n 0, 1) := by decide +kernel
theorem dX12_findNoticed_56 : decode cX12_findNoticed 56 = .ok (.getfield 47, 3) := by decide +kernel
theorem dX12_findNoticed_59 : decode cX12_findNoticed 59 = .ok (.aload_n 0, 1) := by decide +kernel
theorem dX12_findNoticed_60 : decode cX12_findNoticed 60 = .ok (.getfield 53, 3) := by decide +kernel
theorem dX12_findNoticed_63 : decode cX12_findNoticed 63 = .ok (.iload_n 2, 1) := by decide +kernel
theorem dX12_findNoticed_64 : decode cX12_findNoticed 64 = .ok (.iaload, 1) := by decide +kernel
theorem dX12_findNoticed_65 : decode cX12_findNoticed 65 = .ok (.iaload, 1) := by decide +kernel
theorem dX12_findNoticed_66 : decode cX12_findNoticed 66 = .ok (.if_icmp .eq 9, 3) := by decide +kernel
theorem dX12_findNoticed_69 : decode cX12_findNoticed 69 = .ok (.iconst 1, 1) := by decide +kernel
theorem dX12_findNoticed_70 : decode cX12_findNoticed 70 = .ok (.iload_n 2, 1) := by decide +kernel
theorem dX12_findNoticed_71 : decode cX12_findNoticed 71 = .ok (.ishl, 1) := by decide +kernel
theorem dX12_findNoticed_72 : decode cX12_findNoticed 72 = .ok (.goto 4, 3) := by decide +kernel
theorem dX12_findNoticed_75 : decode cX12_findNoticed 75 = .ok (.iconst 0, 1) := by decide +kernel
theorem dX12_findNoticed_76 : decode cX12_findNoticed 76 = .ok (.ior, 1) := by decide +kernel
theorem dX12_findNoticed_77 : decode cX12_findNoticed 77 = .ok (.iastore, 1) := by decide +kernel
theorem dX12_findNoticed_78 : decode cX12_findNoticed 78 = .ok (.iinc 2 1, 3) := by decide +kernel
theorem dX12_findNoticed_81 : decode cX12_findNoticed 81 = .ok (.goto (-58), 3) := by decide +kernel
theorem dX12_findNoticed_84 : decode cX12_findNoticed 84 = .ok (.iinc 1 1, 3) := by decide +kernel
theorem dX12_findNoticed_87 : decode cX12_findNoticed 87 = .ok (.goto (-81), 3) := by decide +kernel
theorem dX12_findNoticed_90 : decode cX12_findNoticed 90 = .ok (.return_, 1) := by decide +kernel
theorem dX12_isBehind_0 : decode cX12_isBehind 0 = .ok (.aload_n 0, 1) := by decide +kernel
theorem dX12_isBehind_1 : decode cX12_isBehind 1 = .ok (.getfield 59, 3) := by decide +kernel
theorem dX12_isBehind_4 : decode cX12_isBehind 4 = .ok (.iload_n 2, 1) := by decide +kernel
theorem dX12_isBehind_5 : decode cX12_isBehind 5 = .ok (.iaload, 1) := by decide +kernel
theorem dX12_isBehind_6 : decode cX12_isBehind 6 = .ok (.ifCond .eq 40, 3) := by decide +kernel
theorem dX12_isBehind_9 : decode cX12_isBehind 9 = .ok (.aload_n 0, 1) := by decide +kernel
theorem dX12_isBehind_10 : decode cX12_isBehind 10 = .ok (.getfield 59, 3) := by decide +kernel
theorem dX12_isBehind_13 : decode cX12_isBehind 13 = .ok (.iload_n 2, 1) := by decide +kernel
theorem dX12_isBehind_14 : decode cX12_isBehind 14 = .ok (.iaload, 1) := by decide +kernel
theorem dX12_isBehind_15 : decode cX12_isBehind 15 = .ok (.aload_n 0, 1) := by decide +kernel
theorem dX12_isBehind_16 : decode cX12_isBehind 16 = .ok (.getfield 59, 3) := by decide +kernel
theorem dX12_isBehind_19 : decode cX12_isBehind 19 = .ok (.iload_n 1, 1) := by decide +kernel
theorem dX12_isBehind_20 : decode cX12_isBehind 20 = .ok (.iaload, 1) := by decide +kernel
theorem dX12_isBehind_21 : decode cX12_isBehind 21 = .ok (.iconst (-1), 1) := by decide +kernel
theorem dX12_isBehind_22 : decode cX12_isBehind 22 = .ok (.ixor, 1) := by decide +kernel
theorem dX12_isBehind_23 : decode cX12_isBehind 23 = .ok (.iand, 1) := by decide +kernel
theorem dX12_isBehind_24 : decode cX12_isBehind 24 = .ok (.ifCond .ne 22, 3) := by decide +kernel
theorem dX12_isBehind_27 : decode cX12_isBehind 27 = .ok (.aload_n 0, 1) := by decide +kernel
theorem dX12_isBehind_28 : decode cX12_isBehind 28 = .ok (.getfield 59, 3) := by decide +kernel
theorem dX12_isBehind_31 : decode cX12_isBehind 31 = .ok (.iload_n 1, 1) := by decide +kernel
theorem dX12_isBehind_32 : decode cX12_isBehind 32 = .ok (.iaload, 1) := by decide +kernel
theorem dX12_isBehind_33 : decode cX12_isBehind 33 = .ok (.aload_n 0, 1) := by decide +kernel
theorem dX12_isBehind_34 : decode cX12_isBehind 34 = .ok (.getfield 59, 3) := by decide +kernel
theorem dX12_isBehind_37 : decode cX12_isBehind 37 = .ok (.iload_n 2, 1) := by decide +kernel
theorem dX12_isBehind_38 : decode cX12_isBehind 38 = .ok (.iaload, 1) := by decide +kernel
theorem dX12_isBehind_39 : decode cX12_isBehind 39 = .ok (.if_icmp .eq 7, 3) := by decide +kernel
theorem dX12_isBehind_42 : decode cX12_isBehind 42 = .ok (.iconst 1, 1) := by decide +kernel
theorem dX12_isBehind_43 : decode cX12_isBehind 43 = .ok (.goto 4, 3) := by decide +kernel
theorem dX12_isBehind_46 : decode cX12_isBehind 46 = .ok (.iconst 0, 1) := by decide +kernel
theorem dX12_isBehind_47 : decode cX12_isBehind 47 = .ok (.ireturn, 1) := by decide +kernel
set_option maxRecDepth 20000 in
theorem ggX12_behindOf_X12_isBehind : GoodIn wsX12_behindOf wsX12_isBehind := goodIn_r _ [6, 7, 8, 9, 10, 11, 12, 13, 14, 15, 16, 17, 18, 19, 20, 21, 22, 23, 24, 25, 26, 27, 28, 29, 30, 31, 32] (by decide +kernel) (by decide +kernel)
set_option maxRecDepth 20000 in
theorem gX12_behindOf_X12_isBehind : GoodIn wsX12_behindOf (wsV RX12 158 RX12 yX12_isBehind wsX12_isBehind) := goodIn_app (goodIn_of _ (by decide +kernel)) ggX12_behindOf_X12_isBehind
theorem dX12_behindOf_0 : decode cX12_behindOf 0 = .ok (.iconst 0, 1) := by decide +kernel
theorem dX12_behindOf_1 : decode cX12_behindOf 1 = .ok (.istore_n 2, 1) := by decide +kernel
theorem dX12_behindOf_2 : decode cX12_behindOf 2 = .ok (.iconst 0, 1) := by decide +kernel
theorem dX12_behindOf_3 : decode cX12_behindOf 3 = .ok (.istore_n 3, 1) := by decide +kernel
theorem dX12_behindOf_4 : decode cX12_behindOf 4 = .ok (.iload_n 3, 1) := by decide +kernel
theorem dX12_behindOf_5 : decode cX12_behindOf 5 = .ok (.aload_n 0, 1) := by decide +kernel
theorem dX12_behindOf_6 : decode cX12_behindOf 6 = .ok (.getfield 141, 3) := by decide +kernel
theorem dX12_behindOf_9 : decode cX12_behindOf 9 = .ok (.if_icmp .ge 26, 3) := by decide +kernel
theorem dX12_behindOf_12 : decode cX12_behindOf 12 = .ok (.iload_n 2, 1) := by decide +kernel
theorem dX12_behindOf_13 : decode cX12_behindOf 13 = .ok (.aload_n 0, 1) := by decide +kernel
theorem dX12_behindOf_14 : decode cX12_behindOf 14 = .ok (.iload_n 1, 1) := by decide +kernel
theorem dX12_behindOf_15 : decode cX12_behindOf 15 = .ok (.iload_n 3, 1) := by decide +kernel
theorem dX12_behindOf_16 : decode cX12_behindOf 16 = .ok (.invokevirtual 158, 3) := by decide +kernel
theorem dX12_behindOf_19 : decode cX12_behindOf 19 = .ok (.ifCond .eq 7, 3) := by decide +kernel
theorem dX12_behindOf_22 : decode cX12_behindOf 22 = .ok (.iconst 1, 1) := by decide +kernel
theorem dX12_behindOf_23 : decode cX12_behindOf 23 = .ok (.goto 4, 3) := by decide +kernel
theorem dX12_behindOf_26 : decode cX12_behindOf 26 = .ok (.iconst 0, 1) := by decide +kernel
theorem dX12_behindOf_27 : decode cX12_behindOf 27 = .ok (.iadd, 1) := by decide +kernel
theorem dX12_behindOf_28 : decode cX12_behindOf 28 = .ok (.istore_n 2, 1) := by decide +kernel
theorem dX12_behindOf_29 : decode cX12_behindOf 29 = .ok (.iinc 3 1, 3) := by decide +kernel
theorem dX12_behindOf_32 : decode cX12_behindOf 32 = .ok (.goto (-28), 3) := by decide +kernel
theorem dX12_behindOf_35 : decode cX12_behindOf 35 = .ok (.iload_n 2, 1) := by decide +kernel
theorem dX12_behindOf_36 : decode cX12_behindOf 36 = .ok (.ireturn, 1) := by decide +kernel
set_option maxRecDepth 20000 in
theorem ggX12_change_X12_findNoticed : GoodIn wsX12_change wsX12_findNoticed := goodIn_r _ [10, 1, 5, 11, 12, 13, 14, 15, 16, 17, 9, 18, 19, 20, 21, 4, 2, 3, 22, 23, 24, 25, 26, 27, 28, 29, 30, 31, 32, 33, 34, 35, 36, 37, 38, 39, 40, 41, 42, 43, 44, 45, 46, 47, 48, 49, 50, 51, 52, 53, 54, 55, 56, 57, 58, 71, 72, 73, 74, 75, 76, 77, 78, 79, 80, 81, 82, 83, 84, 85, 86, 87, 88, 89, 90, 91, 92, 93, 94, 95] (by decide +kernel) (by decide +kernel)
set_option maxRecDepth 20000 in
theorem gX12_change_X12_findNoticed : GoodIn wsX12_change (wsV RX12 161 RX12 yX12_findNoticed wsX12_findNoticed) := goodIn_app (goodIn_of _ (by decide +kernel)) ggX12_change_X12_findNoticed
set_option maxRecDepth 20000 in
theorem ggX12_change_X12_isChange : GoodIn wsX12_change wsX12_isChange := goodIn_r _ [62, 1, 33, 34, 9, 35, 71, 72, 73, 74, 75, 76, 77, 78, 79, 80, 81, 82, 83, 84, 85, 86, 87, 88, 89, 90, 91, 92, 93, 94, 95] (by decide +kernel) (by decide +kernel)
set_option maxRecDepth 20000 in
theorem gX12_change_X12_isChange : GoodIn wsX12_change (wsV RX12 164 RX12 yX12_isChange wsX12_isChange) := goodIn_app (goodIn_of _ (by decide +kernel)) ggX12_change_X12_isChange
set_option maxRecDepth 20000 in
theorem ggX12_change_X12_behindOf : GoodIn wsX12_change wsX12_behindOf := goodIn_r _ [66, 1, 67, 68, 69, 9, 70, 5, 71, 72, 73, 74, 75, 76, 77, 78, 79, 80, 81, 82, 83, 84, 85, 86, 87, 88, 89, 90, 91, 92, 93, 94, 95] (by decide +kernel) (by decide +kernel)
set_option maxRecDepth 20000 in
theorem gX12_change_X12_behindOf : GoodIn wsX12_change (wsV RX12 167 RX12 yX12_behindOf wsX12_behindOf) := goodIn_app (goodIn_of _ (by decide +kernel)) ggX12_change_X12_behindOf
theorem dX12_change_0 : decode cX12_change 0 = .ok (.aload_n 0, 1) := by decide +kernel
theorem dX12_change_1 : decode cX12_change 1 = .ok (.invokevirtual 161, 3) := by decide +kernel
theorem dX12_change_4 : decode cX12_change 4 = .ok (.iload_n 1, 1) := by decide +kernel
theorem dX12_change_5 : decode cX12_change 5 = .ok (.iconst (-1), 1) := by decide +kernel
theorem dX12_change_6 : decode cX12_change 6 = .ok (.if_icmp .ne 8, 3) := by decide +kernel
theorem dX12_change_9 : decode cX12_change 9 = .ok (.aload_n 0, 1) := by decide +kernel
theorem dX12_change_10 : decode cX12_change 10 = .ok (.getfield 141, 3) := by decide +kernel
theorem dX12_change_13 : decode cX12_change 13 = .ok (.ireturn, 1) := by decide +kernel
theorem dX12_change_14 : decode cX12_change 14 = .ok (.aload_n 0, 1) := by decide +kernel
theorem dX12_change_15 : decode cX12_change 15 = .ok (.iload_n 1, 1) := by decide +kernel
theorem dX12_change_16 : decode cX12_change 16 = .ok (.invokevirtual 164, 3) := by decide +kernel
theorem dX12_change_19 : decode cX12_change 19 = .ok (.ifCond .ne 5, 3) := by decide +kernel
theorem dX12_change_22 : decode cX12_change 22 = .ok (.iconst (-1), 1) := by decide +kernel
theorem dX12_change_23 : decode cX12_change 23 = .ok (.ireturn, 1) := by decide +kernel
theorem dX12_change_24 : decode cX12_change 24 = .ok (.iload_n 2, 1) := by decide +kernel
theorem dX12_change_25 : decode cX12_change 25 = .ok (.tableswitch 88 0 5 #[39, 46, 53, 60, 75, 82], 39) := by decide +kernel
theorem dX12_change_64 : decode cX12_change 64 = .ok (.aload_n 0, 1) := by decide +kernel
theorem dX12_change_65 : decode cX12_change 65 = .ok (.getfield 34, 3) := by decide +kernel
theorem dX12_change_68 : decode cX12_change 68 = .ok (.iload_n 1, 1) := by decide +kernel
theorem dX12_change_69 : decode cX12_change 69 = .ok (.iaload, 1) := by decide +kernel
theorem dX12_change_70 : decode cX12_change 70 = .ok (.ireturn, 1) := by decide +kernel
theorem dX12_change_71 : decode cX12_change 71 = .ok (.aload_n 0, 1) := by decide +kernel
theorem dX12_change_72 : decode cX12_change 72 = .ok (.getfield 37, 3) := by decide +kernel
theorem dX12_change_75 : decode cX12_change 75 = .ok (.iload_n 1, 1) := by decide +kernel
theorem dX12_change_76 : decode cX12_change 76 = .ok (.iaload, 1) := by decide +kernel
theorem dX12_change_77 : decode cX12_change 77 = .ok (.ireturn, 1) := by decide +kernel
theorem dX12_change_78 : decode cX12_change 78 = .ok (.aload_n 0, 1) := by decide +kernel
theorem dX12_change_79 : decode cX12_change 79 = .ok (.getfield 40, 3) := by decide +kernel
theorem dX12_change_82 : decode cX12_change 82 = .ok (.iload_n 1, 1) := by decide +kernel
theorem dX12_change_83 : decode cX12_change 83 = .ok (.iaload, 1) := by decide +kernel
theorem dX12_change_84 : decode cX12_change 84 = .ok (.ireturn, 1) := by decide +kernel
theorem dX12_change_85 : decode cX12_change 85 = .ok (.aload_n 0, 1) := by decide +kernel
theorem dX12_change_86 : decode cX12_change 86 = .ok (.getfield 59, 3) := by decide +kernel
theorem dX12_change_89 : decode cX12_change 89 = .ok (.iload_n 1, 1) := by decide +kernel
theorem dX12_change_90 : decode cX12_change 90 = .ok (.iaload, 1) := by decide +kernel
theorem dX12_change_91 : decode cX12_change 91 = .ok (.ifCond .eq 7, 3) := by decide +kernel
theorem dX12_change_94 : decode cX12_change 94 = .ok (.iconst 1, 1) := by decide +kernel
theorem dX12_change_95 : decode cX12_change 95 = .ok (.goto 4, 3) := by decide +kernel
theorem dX12_change_98 : decode cX12_change 98 = .ok (.iconst 0, 1) := by decide +kernel
theorem dX12_change_99 : decode cX12_change 99 = .ok (.ireturn, 1) := by decide +kernel
theorem dX12_change_100 : decode cX12_change 100 = .ok (.aload_n 0, 1) := by decide +kernel
theorem dX12_change_101 : decode cX12_change 101 = .ok (.getfield 59, 3) := by decide +kernel
theorem dX12_change_104 : decode cX12_change 104 = .ok (.iload_n 1, 1) := by decide +kernel
theorem dX12_change_105 : decode cX12_change 105 = .ok (.iaload, 1) := by decide +kernel
theorem dX12_change_106 : decode cX12_change 106 = .ok (.ireturn, 1) := by decide +kernel
theorem dX12_change_107 : decode cX12_change 107 = .ok (.aload_n 0, 1) := by decide +kernel
theorem dX12_change_108 : decode cX12_change 108 = .ok (.iload_n 1, 1) := by decide +kernel
theorem dX12_change_109 : decode cX12_change 109 = .ok (.invokevirtual 167, 3) := by decide +kernel
theorem dX12_change_112 : decode cX12_change 112 = .ok (.ireturn, 1) := by decide +kernel
theorem dX12_change_113 : decode cX12_change 113 = .ok (.bipush (-2), 2) := by decide +kernel
theorem dX12_change_115 : decode cX12_change 115 = .ok (.ireturn, 1) := by decide +kernel
set_option maxRecDepth 20000 in
theorem ggX12_by_X12_layChanges : GoodIn wsX12_by wsX12_layChanges := goodIn_r _ [6, 7, 8, 9, 10, 11, 12, 13, 14, 1, 15, 16, 17, 5, 18, 19, 20, 21, 22, 23, 24, 25, 26, 27, 28, 29, 30, 31, 32, 33, 34, 35, 36, 37, 38, 39, 40, 41, 42, 43, 44, 45, 46, 47, 48, 49, 50, 51, 60, 61, 62, 63, 64, 65, 66, 67, 68, 69, 70, 71, 72, 73, 74, 75, 76, 77, 78, 79, 80, 81, 82, 83, 84] (by decide +kernel) (by decide +kernel)
set_option maxRecDepth 20000 in
theorem gX12_by_X12_layChanges : GoodIn wsX12_by (wsV RX12 152 RX12 yX12_layChanges wsX12_layChanges) := goodIn_app (goodIn_of _ (by decide +kernel)) ggX12_by_X12_layChanges
set_option maxRecDepth 20000 in
theorem ggX12_by_X12_isChange : GoodIn wsX12_by wsX12_isChange := goodIn_r _ [55, 8, 26, 27, 5, 28, 60, 61, 62, 63, 64, 65, 66, 67, 68, 69, 70, 71, 72, 73, 74, 75, 76, 77, 78, 79, 80, 81, 82, 83, 84] (by decide +kernel) (by decide +kernel)
set_option maxRecDepth 20000 in
theorem gX12_by_X12_isChange : GoodIn wsX12_by (wsV RX12 164 RX12 yX12_isChange wsX12_isChange) := goodIn_app (goodIn_of _ (by decide +kernel)) ggX12_by_X12_isChange
set_option maxRecDepth 20000 in
theorem ggX12_by_X12_areInputs : GoodIn wsX12_by wsX12_areInputs := goodIn_r _ [58, 59, 26, 27, 5, 28] (by decide +kernel) (by decide +kernel)
set_option maxRecDepth 20000 in
theorem gX12_by_X12_areInputs : GoodIn wsX12_by (va_wsS RX12 130 yX12_areInputs wsX12_areInputs) := goodIn_app (goodIn_of _ (by decide +kernel)) ggX12_by_X12_areInputs
theorem dX12_by_0 : decode cX12_by 0 = .ok (.aload_n 0, 1) := by decide +kernel
theorem dX12_by_1 : decode cX12_by 1 = .ok (.invokevirtual 152, 3) := by decide +kernel
theorem dX12_by_4 : decode cX12_by 4 = .ok (.aload_n 0, 1) := by decide +kernel
theorem dX12_by_5 : decode cX12_by 5 = .ok (.iload_n 1, 1) := by decide +kernel
theorem dX12_by_6 : decode cX12_by 6 = .ok (.invokevirtual 164, 3) := by decide +kernel
theorem dX12_by_9 : decode cX12_by 9 = .ok (.ifCond .ne 5, 3) := by decide +kernel
theorem dX12_by_12 : decode cX12_by 12 = .ok (.iconst (-1), 1) := by decide +kernel
theorem dX12_by_13 : decode cX12_by 13 = .ok (.ireturn, 1) := by decide +kernel
theorem dX12_by_14 : decode cX12_by 14 = .ok (.iload_n 2, 1) := by decide +kernel
theorem dX12_by_15 : decode cX12_by 15 = .ok (.invokestatic 130, 3) := by decide +kernel
theorem dX12_by_18 : decode cX12_by 18 = .ok (.ifCond .eq 18, 3) := by decide +kernel
theorem dX12_by_21 : decode cX12_by 21 = .ok (.aload_n 0, 1) := by decide +kernel
theorem dX12_by_22 : decode cX12_by 22 = .ok (.getfield 44, 3) := by decide +kernel
theorem dX12_by_25 : decode cX12_by 25 = .ok (.sipush 512, 3) := by decide +kernel
theorem dX12_by_28 : decode cX12_by 28 = .ok (.iload_n 1, 1) := by decide +kernel
theorem dX12_by_29 : decode cX12_by 29 = .ok (.imul, 1) := by decide +kernel
theorem dX12_by_30 : decode cX12_by 30 = .ok (.iload_n 2, 1) := by decide +kernel
theorem dX12_by_31 : decode cX12_by 31 = .ok (.iadd, 1) := by decide +kernel
theorem dX12_by_32 : decode cX12_by 32 = .ok (.iaload, 1) := by decide +kernel
theorem dX12_by_33 : decode cX12_by 33 = .ok (.goto 5, 3) := by decide +kernel
theorem dX12_by_36 : decode cX12_by 36 = .ok (.bipush (-2), 2) := by decide +kernel
theorem dX12_by_38 : decode cX12_by 38 = .ok (.ireturn, 1) := by decide +kernel
set_option maxRecDepth 20000 in
theorem ggX12_test_X12_areInputs : GoodIn wsX12_test wsX12_areInputs := goodIn_r _ [8, 9, 10, 11, 7, 12] (by decide +kernel) (by decide +kernel)
