set_option maxRecDepth 20000 in
theorem ggX11_init_X5_init : GoodIn wsX11_init wsX5_init := goodIn_r _ [49, 50, 2, 3, 51, 52, 53, 54, 397, 398, 399] (by decide +kernel) (by decide +kernel)
set_option maxRecDepth 20000 in
theorem gX11_init_X5_init_n11 : GoodIn wsX11_init (wsX5_init) := ggX11_init_X5_init
set_option maxRecDepth 20000 in
theorem ggX11_init_X9_init : GoodIn wsX11_init wsX9_init := goodIn_r _ [57, 58, 2, 3, 51, 59, 60, 61, 62, 63, 64, 65, 411, 412, 413, 414, 415, 416, 417] (by decide +kernel) (by decide +kernel)
set_option maxRecDepth 20000 in
theorem gX11_init_X9_init : GoodIn wsX11_init (wsX9_init) := ggX11_init_X9_init
set_option maxRecDepth 20000 in
theorem ggX11_init_X10_init : GoodIn wsX11_init wsX10_init := goodIn_r _ [67, 68, 2, 3, 69, 70, 71, 72, 73, 418, 419, 420, 421] (by decide +kernel) (by decide +kernel)
set_option maxRecDepth 20000 in
theorem gX11_init_X10_init_n25 : GoodIn wsX11_init (wsX10_init) := ggX11_init_X10_init
set_option maxRecDepth 20000 in
theorem ggX11_init_X7_init : GoodIn wsX11_init wsX7_init := goodIn_r _ [76, 77, 2, 3, 69, 78, 79, 80, 81, 422, 423, 424, 425] (by decide +kernel) (by decide +kernel)
set_option maxRecDepth 20000 in
theorem gX11_init_X7_init : GoodIn wsX11_init (wsX7_init) := ggX11_init_X7_init
set_option maxRecDepth 20000 in
theorem ggX11_init_X1_init : GoodIn wsX11_init wsX1_init := goodIn_r _ [84, 85, 2, 3, 51, 86, 87, 88, 89, 90, 426, 427, 428, 429, 430] (by decide +kernel) (by decide +kernel)
set_option maxRecDepth 20000 in
theorem gX11_init_X1_init : GoodIn wsX11_init (wsX1_init) := ggX11_init_X1_init
set_option maxRecDepth 20000 in
theorem ggX11_init_X8_init : GoodIn wsX11_init wsX8_init := goodIn_r _ [93, 94, 2, 3, 51, 95, 96, 97, 98, 431, 432, 433, 434] (by decide +kernel) (by decide +kernel)
set_option maxRecDepth 20000 in
theorem gX11_init_X8_init : GoodIn wsX11_init (wsX8_init) := ggX11_init_X8_init
set_option maxRecDepth 20000 in
theorem ggX11_init_X4_init : GoodIn wsX11_init wsX4_init := goodIn_r _ [101, 102, 2, 3, 51, 103, 104, 105, 69, 106, 107, 108, 109, 435, 436, 437, 438, 439, 440, 441] (by decide +kernel) (by decide +kernel)
set_option maxRecDepth 20000 in
theorem gX11_init_X4_init : GoodIn wsX11_init (wsX4_init) := ggX11_init_X4_init
set_option maxRecDepth 20000 in
theorem ggX11_init_X2_init : GoodIn wsX11_init wsX2_init := goodIn_r _ [112, 113, 2, 3, 51, 114, 115, 116, 117, 118, 119, 120, 121, 442, 443, 444, 445, 446, 447, 448, 449] (by decide +kernel) (by decide +kernel)
set_option maxRecDepth 20000 in
theorem gX11_init_X2_init : GoodIn wsX11_init (wsX2_init) := ggX11_init_X2_init
set_option maxRecDepth 20000 in
theorem ggX11_init_X0_init : GoodIn wsX11_init wsX0_init := goodIn_r _ [124, 125, 2, 3, 51, 126, 127, 128, 129, 130, 450, 451, 452, 453, 454] (by decide +kernel) (by decide +kernel)
set_option maxRecDepth 20000 in
theorem gX11_init_X0_init : GoodIn wsX11_init (wsX0_init) := ggX11_init_X0_init
set_option maxRecDepth 20000 in
theorem ggX11_init_X3_init : GoodIn wsX11_init wsX3_init := goodIn_r _ [133, 134, 2, 3, 51, 135, 136, 137, 138, 139, 455, 456, 457, 458, 459] (by decide +kernel) (by decide +kernel)
set_option maxRecDepth 20000 in
theorem gX11_init_X3_init : GoodIn wsX11_init (wsX3_init) := ggX11_init_X3_init
set_option maxRecDepth 20000 in
theorem ggX11_init_X6_init : GoodIn wsX11_init wsX6_init := goodIn_r _ [142, 143, 2, 3, 144, 145, 146, 460, 461, 462] (by decide +kernel) (by decide +kernel)
set_option maxRecDepth 20000 in
theorem gX11_init_X6_init : GoodIn wsX11_init (wsX6_init) := ggX11_init_X6_init
set_option maxRecDepth 20000 in
theorem ggX11_init_X11_settleText : GoodIn wsX11_init wsX11_settleText := goodIn_r _ [151, 19, 11, 23, 152, 153, 154, 18, 155, 156, 157, 158, 159, 81, 78, 160, 79, 161, 80, 162, 163, 164, 165, 14, 166, 167, 168, 169, 170, 171, 172, 173, 174, 175, 176, 177, 178, 179, 180, 181, 182, 183, 184, 185, 186, 187, 70, 71, 72, 188, 189, 190, 10, 191, 64, 192, 193, 194, 195, 196, 197, 198, 199, 200, 201, 202, 203, 204, 205, 206, 207, 208, 209, 210, 211, 212, 213, 214, 215, 216, 217, 218, 219, 220, 73, 221, 222, 223, 224, 225, 226, 227, 22, 228, 89, 229, 230, 90, 86, 87, 88, 231, 232, 233, 234, 235, 236, 237, 238, 239, 240, 241, 242, 243, 244, 245, 246, 247, 248, 249, 250, 251, 252, 253, 254, 255, 256, 257, 258, 259, 260, 261, 262, 263, 264, 265, 266, 267, 268, 269, 270, 271, 272, 273, 274, 275, 276, 277, 278, 279, 280, 281, 282, 283, 284, 285, 286, 287, 288, 289, 290, 291, 292, 293, 294, 295, 296, 297, 298, 299, 300, 301, 302, 303, 304, 305, 306, 307, 308, 309, 310, 311, 312, 313, 314, 315, 316, 317, 318, 319, 320, 321, 322, 323, 324, 325, 326, 327, 328, 329, 330, 331, 332, 333, 334, 335, 336, 337, 338, 339, 340, 341, 342, 343, 344, 345, 346, 347, 348, 349, 350, 351, 352, 353, 354, 355, 356, 357, 358, 359, 360, 361, 362, 363, 364, 365, 366, 367, 368, 369, 370, 371, 372, 373, 150, 374, 31, 35, 375, 376, 377, 30, 378, 107, 379, 103, 380, 381, 382, 383, 108, 384, 109, 385, 386, 387, 388, 389, 390, 391, 392, 393, 394, 395, 34, 396, 118, 400, 401, 402, 403, 404, 405, 406, 407, 408, 409, 410, 422, 423, 424, 425, 418, 419, 420, 421, 411, 412, 413, 414, 415, 416, 417, 426, 427, 428, 429, 430, 435, 436, 437, 438, 439, 440, 441, 431, 432, 433, 434, 442, 443, 444, 445, 446, 447, 448, 449] (by decide +kernel) (by decide +kernel)
set_option maxRecDepth 20000 in
theorem gX11_init_X11_settleText : GoodIn wsX11_init (wsV RX11 96 RX11 yX11_settleText wsX11_settleText) := goodIn_app (goodIn_of _ (by decide +kernel)) ggX11_init_X11_settleText
theorem dX11_init_0 : decode cX11_init 0 = .ok (.aload_n 0, 1) := by decide +kernel
theorem dX11_init_1 : decode cX11_init 1 = .ok (.invokespecial 3, 3) := by decide +kernel
theorem dX11_init_4 : decode cX11_init 4 = .ok (.aload_n 0, 1) := by decide +kernel
theorem dX11_init_5 : decode cX11_init 5 = .ok (.new 9, 3) := by decide +kernel
theorem dX11_init_8 : decode cX11_init 8 = .ok (.dup, 1) := by decide +kernel
theorem dX11_init_9 : decode cX11_init 9 = .ok (.invokespecial 11, 3) := by decide +kernel
theorem dX11_init_12 : decode cX11_init 12 = .ok (.putfield 12, 3) := by decide +kernel
theorem dX11_init_15 : decode cX11_init 15 = .ok (.aload_n 0, 1) := by decide +kernel
theorem dX11_init_16 : decode cX11_init 16 = .ok (.iconst 2, 1) := by decide +kernel
theorem dX11_init_17 : decode cX11_init 17 = .ok (.anewarray 16, 3) := by decide +kernel
theorem dX11_init_20 : decode cX11_init 20 = .ok (.dup, 1) := by decide +kernel
theorem dX11_init_21 : decode cX11_init 21 = .ok (.iconst 0, 1) := by decide +kernel
theorem dX11_init_22 : decode cX11_init 22 = .ok (.new 16, 3) := by decide +kernel
theorem dX11_init_25 : decode cX11_init 25 = .ok (.dup, 1) := by decide +kernel
theorem dX11_init_26 : decode cX11_init 26 = .ok (.invokespecial 18, 3) := by decide +kernel
theorem dX11_init_29 : decode cX11_init 29 = .ok (.aastore, 1) := by decide +kernel
theorem dX11_init_30 : decode cX11_init 30 = .ok (.dup, 1) := by decide +kernel
theorem dX11_init_31 : decode cX11_init 31 = .ok (.iconst 1, 1) := by decide +kernel
theorem dX11_init_32 : decode cX11_init 32 = .ok (.new 16, 3) := by decide +kernel
theorem dX11_init_35 : decode cX11_init 35 = .ok (.dup, 1) := by decide +kernel
theorem dX11_init_36 : decode cX11_init 36 = .ok (.invokespecial 18, 3) := by decide +kernel
theorem dX11_init_39 : decode cX11_init 39 = .ok (.aastore, 1) := by decide +kernel
theorem dX11_init_40 : decode cX11_init 40 = .ok (.putfield 19, 3) := by decide +kernel
theorem dX11_init_43 : decode cX11_init 43 = .ok (.aload_n 0, 1) := by decide +kernel
theorem dX11_init_44 : decode cX11_init 44 = .ok (.new 23, 3) := by decide +kernel
theorem dX11_init_47 : decode cX11_init 47 = .ok (.dup, 1) := by decide +kernel
theorem dX11_init_48 : decode cX11_init 48 = .ok (.invokespecial 25, 3) := by decide +kernel
theorem dX11_init_51 : decode cX11_init 51 = .ok (.putfield 26, 3) := by decide +kernel
theorem dX11_init_54 : decode cX11_init 54 = .ok (.aload_n 0, 1) := by decide +kernel
theorem dX11_init_55 : decode cX11_init 55 = .ok (.new 30, 3) := by decide +kernel
theorem dX11_init_58 : decode cX11_init 58 = .ok (.dup, 1) := by decide +kernel
theorem dX11_init_59 : decode cX11_init 59 = .ok (.aload_n 0, 1) := by decide +kernel
theorem dX11_init_60 : decode cX11_init 60 = .ok (.getfield 26, 3) := by decide +kernel
theorem dX11_init_63 : decode cX11_init 63 = .ok (.invokespecial 32, 3) := by decide +kernel
theorem dX11_init_66 : decode cX11_init 66 = .ok (.putfield 35, 3) := by decide +kernel
theorem dX11_init_69 : decode cX11_init 69 = .ok (.aload_n 0, 1) := by decide +kernel
theorem dX11_init_70 : decode cX11_init 70 = .ok (.new 39, 3) := by decide +kernel
theorem dX11_init_73 : decode cX11_init 73 = .ok (.dup, 1) := by decide +kernel
theorem dX11_init_74 : decode cX11_init 74 = .ok (.aload_n 0, 1) := by decide +kernel
theorem dX11_init_75 : decode cX11_init 75 = .ok (.getfield 35, 3) := by decide +kernel
theorem dX11_init_78 : decode cX11_init 78 = .ok (.invokespecial 41, 3) := by decide +kernel
theorem dX11_init_81 : decode cX11_init 81 = .ok (.putfield 44, 3) := by decide +kernel
theorem dX11_init_84 : decode cX11_init 84 = .ok (.aload_n 0, 1) := by decide +kernel
theorem dX11_init_85 : decode cX11_init 85 = .ok (.new 48, 3) := by decide +kernel
theorem dX11_init_88 : decode cX11_init 88 = .ok (.dup, 1) := by decide +kernel
theorem dX11_init_89 : decode cX11_init 89 = .ok (.aload_n 0, 1) := by decide +kernel
theorem dX11_init_90 : decode cX11_init 90 = .ok (.getfield 35, 3) := by decide +kernel
theorem dX11_init_93 : decode cX11_init 93 = .ok (.invokespecial 50, 3) := by decide +kernel
theorem dX11_init_96 : decode cX11_init 96 = .ok (.putfield 51, 3) := by decide +kernel
theorem dX11_init_99 : decode cX11_init 99 = .ok (.aload_n 0, 1) := by decide +kernel
theorem dX11_init_100 : decode cX11_init 100 = .ok (.new 55, 3) := by decide +kernel
theorem dX11_init_103 : decode cX11_init 103 = .ok (.dup, 1) := by decide +kernel
theorem dX11_init_104 : decode cX11_init 104 = .ok (.aload_n 0, 1) := by decide +kernel
theorem dX11_init_105 : decode cX11_init 105 = .ok (.getfield 44, 3) := by decide +kernel
theorem dX11_init_108 : decode cX11_init 108 = .ok (.aload_n 0, 1) := by decide +kernel
theorem dX11_init_109 : decode cX11_init 109 = .ok (.getfield 51, 3) := by decide +kernel
theorem dX11_init_112 : decode cX11_init 112 = .ok (.aload_n 0, 1) := by decide +kernel
theorem dX11_init_113 : decode cX11_init 113 = .ok (.getfield 35, 3) := by decide +kernel
theorem dX11_init_116 : decode cX11_init 116 = .ok (.invokespecial 57, 3) := by decide +kernel
theorem dX11_init_119 : decode cX11_init 119 = .ok (.putfield 60, 3) := by decide +kernel
theorem dX11_init_122 : decode cX11_init 122 = .ok (.aload_n 0, 1) := by decide +kernel
theorem dX11_init_123 : decode cX11_init 123 = .ok (.new 64, 3) := by decide +kernel
theorem dX11_init_126 : decode cX11_init 126 = .ok (.dup, 1) := by decide +kernel
theorem dX11_init_127 : decode cX11_init 127 = .ok (.aload_n 0, 1) := by decide +kernel
theorem dX11_init_128 : decode cX11_init 128 = .ok (.getfield 44, 3) := by decide +kernel
theorem dX11_init_131 : decode cX11_init 131 = .ok (.aload_n 0, 1) := by decide +kernel
theorem dX11_init_132 : decode cX11_init 132 = .ok (.getfield 51, 3) := by decide +kernel
theorem dX11_init_135 : decode cX11_init 135 = .ok (.aload_n 0, 1) := by decide +kernel
theorem dX11_init_136 : decode cX11_init 136 = .ok (.getfield 60, 3) := by decide +kernel
theorem dX11_init_139 : decode cX11_init 139 = .ok (.invokespecial 66, 3) := by decide +kernel
theorem dX11_init_142 : decode cX11_init 142 = .ok (.putfield 69, 3) := by decide +kernel
theorem dX11_init_145 : decode cX11_init 145 = .ok (.aload_n 0, 1) := by decide +kernel
theorem dX11_init_146 : decode cX11_init 146 = .ok (.new 73, 3) := by decide +kernel
theorem dX11_init_149 : decode cX11_init 149 = .ok (.dup, 1) := by decide +kernel
theorem dX11_init_150 : decode cX11_init 150 = .ok (.aload_n 0, 1) := by decide +kernel
theorem dX11_init_151 : decode cX11_init 151 = .ok (.getfield 51, 3) := by decide +kernel
theorem dX11_init_154 : decode cX11_init 154 = .ok (.aload_n 0, 1) := by decide +kernel
theorem dX11_init_155 : decode cX11_init 155 = .ok (.getfield 26, 3) := by decide +kernel
theorem dX11_init_158 : decode cX11_init 158 = .ok (.invokespecial 75, 3) := by decide +kernel
theorem dX11_init_161 : decode cX11_init 161 = .ok (.putfield 78, 3) := by decide +kernel
theorem dX11_init_164 : decode cX11_init 164 = .ok (.aload_n 0, 1) := by decide +kernel
theorem dX11_init_165 : decode cX11_init 165 = .ok (.new 82, 3) := by decide +kernel
theorem dX11_init_168 : decode cX11_init 168 = .ok (.dup, 1) := by decide +kernel
theorem dX11_init_169 : decode cX11_init 169 = .ok (.aload_n 0, 1) := by decide +kernel
theorem dX11_init_170 : decode cX11_init 170 = .ok (.getfield 44, 3) := by decide +kernel
theorem dX11_init_173 : decode cX11_init 173 = .ok (.aload_n 0, 1) := by decide +kernel
theorem dX11_init_174 : decode cX11_init 174 = .ok (.getfield 51, 3) := by decide +kernel
theorem dX11_init_177 : decode cX11_init 177 = .ok (.aload_n 0, 1) := by decide +kernel
theorem dX11_init_178 : decode cX11_init 178 = .ok (.getfield 35, 3) := by decide +kernel
theorem dX11_init_181 : decode cX11_init 181 = .ok (.invokespecial 84, 3) := by decide +kernel
theorem dX11_init_184 : decode cX11_init 184 = .ok (.putfield 85, 3) := by decide +kernel
theorem dX11_init_187 : decode cX11_init 187 = .ok (.aload_n 0, 1) := by decide +kernel
theorem dX11_init_188 : decode cX11_init 188 = .ok (.new 89, 3) := by decide +kernel
theorem dX11_init_191 : decode cX11_init 191 = .ok (.dup, 1) := by decide +kernel
theorem dX11_init_192 : decode cX11_init 192 = .ok (.aload_n 0, 1) := by decide +kernel
theorem dX11_init_193 : decode cX11_init 193 = .ok (.getfield 35, 3) := by decide +kernel
theorem dX11_init_196 : decode cX11_init 196 = .ok (.invokespecial 91, 3) := by decide +kernel
theorem dX11_init_199 : decode cX11_init 199 = .ok (.putfield 92, 3) := by decide +kernel
theorem dX11_init_202 : decode cX11_init 202 = .ok (.aload_n 0, 1) := by decide +kernel
theorem dX11_init_203 : decode cX11_init 203 = .ok (.iconst 0, 1) := by decide +kernel
theorem dX11_init_204 : decode cX11_init 204 = .ok (.invokevirtual 96, 3) := by decide +kernel
theorem dX11_init_207 : decode cX11_init 207 = .ok (.aload_n 0, 1) := by decide +kernel
theorem dX11_init_208 : decode cX11_init 208 = .ok (.iconst 1, 1) := by decide +kernel
theorem dX11_init_209 : decode cX11_init 209 = .ok (.invokevirtual 96, 3) := by decide +kernel
theorem dX11_init_212 : decode cX11_init 212 = .ok (.return_, 1) := by decide +kernel
theorem dX11_say_0 : decode cX11_say 0 = .ok (.iload_n 1, 1) := by decide +kernel
theorem dX11_say_1 : decode cX11_say 1 = .ok (.bipush 33, 2) := by decide +kernel
theorem dX11_say_3 : decode cX11_say 3 = .ok (.if_icmp .lt 9, 3) := by decide +kernel
theorem dX11_say_6 : decode cX11_say 6 = .ok (.iload_n 1, 1) := by decide +kernel
theorem dX11_say_7 : decode cX11_say 7 = .ok (.bipush 126, 2) := by decide +kernel
theorem dX11_say_9 : decode cX11_say 9 = .ok (.if_icmp .le 6, 3) := by decide +kernel
theorem dX11_say_12 : decode cX11_say 12 = .ok (.bipush (-2), 2) := by decide +kernel
theorem dX11_say_14 : decode cX11_say 14 = .ok (.ireturn, 1) := by decide +kernel
theorem dX11_say_15 : decode cX11_say 15 = .ok (.aload_n 0, 1) := by decide +kernel
theorem dX11_say_16 : decode cX11_say 16 = .ok (.getfield 12, 3) := by decide +kernel
theorem dX11_say_19 : decode cX11_say 19 = .ok (.getfield 100, 3) := by decide +kernel
theorem dX11_say_22 : decode cX11_say 22 = .ok (.bipush 40, 2) := by decide +kernel
theorem dX11_say_24 : decode cX11_say 24 = .ok (.if_icmp .lt 6, 3) := by decide +kernel
theorem dX11_say_27 : decode cX11_say 27 = .ok (.bipush (-4), 2) := by decide +kernel
theorem dX11_say_29 : decode cX11_say 29 = .ok (.ireturn, 1) := by decide +kernel
theorem dX11_say_30 : decode cX11_say 30 = .ok (.aload_n 0, 1) := by decide +kernel
theorem dX11_say_31 : decode cX11_say 31 = .ok (.getfield 12, 3) := by decide +kernel
theorem dX11_say_34 : decode cX11_say 34 = .ok (.getfield 104, 3) := by decide +kernel
theorem dX11_say_37 : decode cX11_say 37 = .ok (.aload_n 0, 1) := by decide +kernel
theorem dX11_say_38 : decode cX11_say 38 = .ok (.getfield 12, 3) := by decide +kernel
theorem dX11_say_41 : decode cX11_say 41 = .ok (.getfield 100, 3) := by decide +kernel
theorem dX11_say_44 : decode cX11_say 44 = .ok (.iload_n 1, 1) := by decide +kernel
theorem dX11_say_45 : decode cX11_say 45 = .ok (.iastore, 1) := by decide +kernel
theorem dX11_say_46 : decode cX11_say 46 = .ok (.aload_n 0, 1) := by decide +kernel
theorem dX11_say_47 : decode cX11_say 47 = .ok (.getfield 12, 3) := by decide +kernel
theorem dX11_say_50 : decode cX11_say 50 = .ok (.dup, 1) := by decide +kernel
theorem dX11_say_51 : decode cX11_say 51 = .ok (.getfield 100, 3) := by decide +kernel
theorem dX11_say_54 : decode cX11_say 54 = .ok (.iconst 1, 1) := by decide +kernel
theorem dX11_say_55 : decode cX11_say 55 = .ok (.iadd, 1) := by decide +kernel
theorem dX11_say_56 : decode cX11_say 56 = .ok (.putfield 100, 3) := by decide +kernel
theorem dX11_say_59 : decode cX11_say 59 = .ok (.aload_n 0, 1) := by decide +kernel
theorem dX11_say_60 : decode cX11_say 60 = .ok (.getfield 12, 3) := by decide +kernel
theorem dX11_say_63 : decode cX11_say 63 = .ok (.getfield 100, 3) := by decide +kernel
theorem dX11_say_66 : decode cX11_say 66 = .ok (.ireturn, 1) := by decide +kernel
theorem dX11_wipe_0 : decode cX11_wipe 0 = .ok (.aload_n 0, 1) := by decide +kernel
theorem dX11_wipe_1 : decode cX11_wipe 1 = .ok (.getfield 12, 3) := by decide +kernel
theorem dX11_wipe_4 : decode cX11_wipe 4 = .ok (.getfield 100, 3) := by decide +kernel
theorem dX11_wipe_7 : decode cX11_wipe 7 = .ok (.istore_n 1, 1) := by decide +kernel
theorem dX11_wipe_8 : decode cX11_wipe 8 = .ok (.aload_n 0, 1) := by decide +kernel
theorem dX11_wipe_9 : decode cX11_wipe 9 = .ok (.getfield 12, 3) := by decide +kernel
theorem dX11_wipe_12 : decode cX11_wipe 12 = .ok (.iconst 0, 1) := by decide +kernel
theorem dX11_wipe_13 : decode cX11_wipe 13 = .ok (.putfield 100, 3) := by decide +kernel
theorem dX11_wipe_16 : decode cX11_wipe 16 = .ok (.iload_n 1, 1) := by decide +kernel
theorem dX11_wipe_17 : decode cX11_wipe 17 = .ok (.ireturn, 1) := by decide +kernel
set_option maxRecDepth 20000 in
theorem ggX11_fault_X5_firstFault : GoodIn wsX11_fault wsX5_firstFault := goodIn_r _ [6, 7, 8, 9, 10, 11, 12, 5, 13, 14, 15, 16, 17, 18, 19, 20, 21, 22, 23, 24, 25, 26, 27, 28, 29, 30, 31, 32, 33, 34, 35, 36, 37, 38, 39, 40, 41, 42, 43, 44, 45, 46, 47, 48, 49, 50, 51, 52, 53, 54, 55, 56, 57, 58, 59, 60, 61, 62, 63, 64, 65, 66, 67, 68, 69, 70, 71, 72, 73, 74, 75, 76, 77, 78, 79, 80, 81, 82, 83, 84, 85, 86, 87, 88, 89, 90, 91, 92, 93, 94, 95, 96, 97, 98, 99, 100, 101, 102, 103, 104, 105, 106, 107, 108, 109, 110, 111, 112, 124, 125, 126] (by decide +kernel) (by decide +kernel)
set_option maxRecDepth 20000 in
theorem gX11_fault_X5_firstFault : GoodIn wsX11_fault (wsV RX11 108 RX5 yX5_firstFault wsX5_firstFault) := goodIn_app (goodIn_of _ (by decide +kernel)) ggX11_fault_X5_firstFault
theorem dX11_fault_0 : decode cX11_fault 0 = .ok (.aload_n 0, 1) := by decide +kernel
theorem dX11_fault_1 : decode cX11_fault 1 = .ok (.getfield 12, 3) := by decide +kernel
theorem dX11_fault_4 : decode cX11_fault 4 = .ok (.invokevirtual 108, 3) := by decide +kernel
theorem dX11_fault_7 : decode cX11_fault 7 = .ok (.ireturn, 1) := by decide +kernel
set_option maxRecDepth 20000 in
theorem ggX11_read_X11_isText : GoodIn wsX11_read wsX11_isText := goodIn_r _ [10] (by decide +kernel) (by decide +kernel)
set_option maxRecDepth 20000 in
theorem gX11_read_X11_isText : GoodIn wsX11_read (wsV RX11 112 RX11 yX11_isText wsX11_isText) := goodIn_app (goodIn_of _ (by decide +kernel)) ggX11_read_X11_isText
set_option maxRecDepth 20000 in
theorem ggX11_read_X5_firstFault : GoodIn wsX11_read wsX5_firstFault := goodIn_r _ [15, 16, 17, 18, 19, 20, 21, 14, 22, 23, 24, 25, 26, 27, 28, 29, 30, 31, 32, 33, 34, 35, 36, 37, 38, 39, 40, 41, 42, 43, 44, 45, 46, 47, 48, 49, 50, 51, 52, 53, 54, 55, 56, 57, 58, 59, 60, 61, 62, 63, 64, 65, 66, 67, 68, 69, 70, 71, 72, 73, 74, 75, 76, 77, 78, 79, 80, 81, 82, 83, 84, 85, 86, 87, 88, 89, 90, 91, 92, 93, 94, 95, 96, 97, 98, 99, 100, 101, 102, 103, 104, 105, 106, 107, 108, 109, 110, 111, 112, 113, 114, 115, 116, 117, 118, 119, 120, 121, 339, 340, 341] (by decide +kernel) (by decide +kernel)
set_option maxRecDepth 20000 in
theorem gX11_read_X5_firstFault : GoodIn wsX11_read (wsV RX11 108 RX5 yX5_firstFault wsX5_firstFault) := goodIn_app (goodIn_of _ (by decide +kernel)) ggX11_read_X5_firstFault
set_option maxRecDepth 20000 in
theorem ggX11_read_X9_take : GoodIn wsX11_read wsX9_take := goodIn_r _ [125, 126, 127, 128, 129, 130, 131, 132, 133, 134, 28, 135, 136, 137, 138, 139, 140, 141, 27, 29, 30, 31, 32, 33, 34, 35, 36, 37, 38, 39, 40, 41, 42, 43, 44, 45, 46, 47, 48, 49, 50, 51, 52, 53, 54, 55, 56, 57, 58, 59, 60, 61, 62, 63, 64, 65, 66, 67, 68, 69, 70, 71, 72, 73, 74, 75, 76, 77, 78, 79, 80, 81, 82, 83, 84, 85, 86, 87, 88, 89, 90, 91, 92, 93, 94, 95, 96, 97, 98, 99, 100, 101, 102, 103, 104, 105, 106, 107, 108, 109, 110, 111, 112, 113, 114, 115, 116, 117, 118, 119, 120, 121, 342, 343, 344, 345, 346, 347, 348] (by decide +kernel) (by decide +kernel)
set_option maxRecDepth 20000 in
theorem gX11_read_X9_take : GoodIn wsX11_read (wsV RX11 116 RX9 yX9_take wsX9_take) := goodIn_app (goodIn_of _ (by decide +kernel)) ggX11_read_X9_take
set_option maxRecDepth 20000 in
theorem ggX11_read_X11_settleText : GoodIn wsX11_read wsX11_settleText := goodIn_r _ [145, 146, 3, 147, 148, 149, 150, 151, 152, 153, 154, 155, 156, 157, 158, 159, 160, 161, 162, 163, 164, 165, 166, 167, 168, 169, 170, 171, 172, 173, 174, 175, 176, 177, 178, 179, 180, 181, 182, 183, 184, 185, 186, 187, 188, 189, 190, 191, 192, 193, 194, 195, 28, 196, 137, 197, 198, 199, 200, 201, 202, 203, 204, 205, 206, 207, 208, 209, 210, 211, 212, 213, 214, 215, 216, 217, 218, 219, 220, 221, 222, 223, 224, 225, 226, 227, 228, 229, 230, 231, 232, 233, 234, 235, 236, 237, 238, 239, 240, 241, 242, 243, 244, 245, 246, 247, 120, 121, 248, 249, 250, 251, 252, 253, 254, 255, 31, 32, 33, 34, 35, 36, 37, 38, 39, 40, 41, 42, 43, 44, 45, 46, 47, 48, 49, 50, 51, 52, 53, 54, 55, 56, 57, 58, 59, 60, 61, 62, 63, 64, 65, 66, 67, 68, 69, 70, 71, 72, 73, 74, 75, 76, 77, 78, 79, 80, 81, 82, 83, 84, 85, 86, 87, 88, 89, 90, 91, 92, 93, 94, 95, 96, 97, 98, 99, 100, 101, 102, 103, 104, 105, 106, 107, 108, 109, 110, 111, 112, 113, 114, 115, 116, 117, 118, 256, 257, 258, 259, 260, 261, 262, 263, 264, 265, 266, 267, 268, 269, 270, 271, 272, 273, 274, 275, 276, 277, 278, 279, 280, 281, 282, 283, 284, 285, 286, 287, 288, 289, 290, 291, 292, 293, 294, 295, 9, 296, 297, 298, 299, 300, 301, 302, 303, 304, 305, 306, 307, 308, 309, 310, 311, 312, 313, 314, 315, 316, 317, 318, 319, 320, 321, 322, 323, 324, 325, 326, 327, 328, 329, 330, 331, 332, 333, 334, 335, 336, 337, 338, 349, 350, 351, 352, 353, 354, 355, 356, 342, 343, 344, 345, 346, 347, 348, 357, 358, 359, 360, 361, 362, 363, 364, 365, 366, 367, 368, 369, 370, 371, 372, 373, 374, 375, 376, 377, 378, 379, 380] (by decide +kernel) (by decide +kernel)
set_option maxRecDepth 20000 in
theorem gX11_read_X11_settleText : GoodIn wsX11_read (wsV RX11 96 RX11 yX11_settleText wsX11_settleText) := goodIn_app (goodIn_of _ (by decide +kernel)) ggX11_read_X11_settleText
theorem dX11_read_0 : decode cX11_read 0 = .ok (.aload_n 0, 1) := by decide +kernel
theorem dX11_read_1 : decode cX11_read 1 = .ok (.iload_n 1, 1) := by decide +kernel
theorem dX11_read_2 : decode cX11_read 2 = .ok (.invokevirtual 112, 3) := by decide +kernel
theorem dX11_read_5 : decode cX11_read 5 = .ok (.ifCond .ne 5, 3) := by decide +kernel
theorem dX11_read_8 : decode cX11_read 8 = .ok (.iconst (-1), 1) := by decide +kernel
theorem dX11_read_9 : decode cX11_read 9 = .ok (.ireturn, 1) := by decide +kernel
theorem dX11_read_10 : decode cX11_read 10 = .ok (.aload_n 0, 1) := by decide +kernel
theorem dX11_read_11 : decode cX11_read 11 = .ok (.getfield 12, 3) := by decide +kernel
theorem dX11_read_14 : decode cX11_read 14 = .ok (.invokevirtual 108, 3) := by decide +kernel
theorem dX11_read_17 : decode cX11_read 17 = .ok (.bipush (-6), 2) := by decide +kernel
theorem dX11_read_19 : decode cX11_read 19 = .ok (.if_icmp .eq 6, 3) := by decide +kernel
theorem dX11_read_22 : decode cX11_read 22 = .ok (.bipush (-5), 2) := by decide +kernel
theorem dX11_read_24 : decode cX11_read 24 = .ok (.ireturn, 1) := by decide +kernel
theorem dX11_read_25 : decode cX11_read 25 = .ok (.aload_n 0, 1) := by decide +kernel
theorem dX11_read_26 : decode cX11_read 26 = .ok (.getfield 12, 3) := by decide +kernel
theorem dX11_read_29 : decode cX11_read 29 = .ok (.getfield 100, 3) := by decide +kernel
theorem dX11_read_32 : decode cX11_read 32 = .ok (.bipush 24, 2) := by decide +kernel
theorem dX11_read_34 : decode cX11_read 34 = .ok (.if_icmp .le 6, 3) := by decide +kernel
theorem dX11_read_37 : decode cX11_read 37 = .ok (.bipush (-4), 2) := by decide +kernel
theorem dX11_read_39 : decode cX11_read 39 = .ok (.ireturn, 1) := by decide +kernel
theorem dX11_read_40 : decode cX11_read 40 = .ok (.aload_n 0, 1) := by decide +kernel
theorem dX11_read_41 : decode cX11_read 41 = .ok (.getfield 19, 3) := by decide +kernel
theorem dX11_read_44 : decode cX11_read 44 = .ok (.iload_n 1, 1) := by decide +kernel
theorem dX11_read_45 : decode cX11_read 45 = .ok (.aaload, 1) := by decide +kernel
theorem dX11_read_46 : decode cX11_read 46 = .ok (.aload_n 0, 1) := by decide +kernel
theorem dX11_read_47 : decode cX11_read 47 = .ok (.getfield 12, 3) := by decide +kernel
theorem dX11_read_50 : decode cX11_read 50 = .ok (.getfield 104, 3) := by decide +kernel
theorem dX11_read_53 : decode cX11_read 53 = .ok (.aload_n 0, 1) := by decide +kernel
theorem dX11_read_54 : decode cX11_read 54 = .ok (.getfield 12, 3) := by decide +kernel
theorem dX11_read_57 : decode cX11_read 57 = .ok (.getfield 100, 3) := by decide +kernel
theorem dX11_read_60 : decode cX11_read 60 = .ok (.invokevirtual 116, 3) := by decide +kernel
theorem dX11_read_63 : decode cX11_read 63 = .ok (.aload_n 0, 1) := by decide +kernel
theorem dX11_read_64 : decode cX11_read 64 = .ok (.getfield 12, 3) := by decide +kernel
theorem dX11_read_67 : decode cX11_read 67 = .ok (.iconst 0, 1) := by decide +kernel
theorem dX11_read_68 : decode cX11_read 68 = .ok (.putfield 100, 3) := by decide +kernel
theorem dX11_read_71 : decode cX11_read 71 = .ok (.aload_n 0, 1) := by decide +kernel
theorem dX11_read_72 : decode cX11_read 72 = .ok (.iload_n 1, 1) := by decide +kernel
theorem dX11_read_73 : decode cX11_read 73 = .ok (.invokevirtual 96, 3) := by decide +kernel
theorem dX11_read_76 : decode cX11_read 76 = .ok (.aload_n 0, 1) := by decide +kernel
theorem dX11_read_77 : decode cX11_read 77 = .ok (.getfield 19, 3) := by decide +kernel
theorem dX11_read_80 : decode cX11_read 80 = .ok (.iload_n 1, 1) := by decide +kernel
theorem dX11_read_81 : decode cX11_read 81 = .ok (.aaload, 1) := by decide +kernel
theorem dX11_read_82 : decode cX11_read 82 = .ok (.getfield 120, 3) := by decide +kernel
theorem dX11_read_85 : decode cX11_read 85 = .ok (.ireturn, 1) := by decide +kernel
set_option maxRecDepth 20000 in
theorem ggX11_node_X11_isText : GoodIn wsX11_node wsX11_isText := goodIn_r _ [10] (by decide +kernel) (by decide +kernel)
set_option maxRecDepth 20000 in
theorem gX11_node_X11_isText : GoodIn wsX11_node (wsV RX11 112 RX11 yX11_isText wsX11_isText) := goodIn_app (goodIn_of _ (by decide +kernel)) ggX11_node_X11_isText
theorem dX11_node_0 : decode cX11_node 0 = .ok (.aload_n 0, 1) := by decide +kernel
theorem dX11_node_1 : decode cX11_node 1 = .ok (.iload_n 1, 1) := by decide +kernel
theorem dX11_node_2 : decode cX11_node 2 = .ok (.invokevirtual 112, 3) := by decide +kernel
theorem dX11_node_5 : decode cX11_node 5 = .ok (.ifCond .eq 20, 3) := by decide +kernel
theorem dX11_node_8 : decode cX11_node 8 = .ok (.iload_n 2, 1) := by decide +kernel
theorem dX11_node_9 : decode cX11_node 9 = .ok (.ifCond .lt 16, 3) := by decide +kernel
theorem dX11_node_12 : decode cX11_node 12 = .ok (.iload_n 2, 1) := by decide +kernel
theorem dX11_node_13 : decode cX11_node 13 = .ok (.aload_n 0, 1) := by decide +kernel
theorem dX11_node_14 : decode cX11_node 14 = .ok (.getfield 19, 3) := by decide +kernel
theorem dX11_node_17 : decode cX11_node 17 = .ok (.iload_n 1, 1) := by decide +kernel
theorem dX11_node_18 : decode cX11_node 18 = .ok (.aaload, 1) := by decide +kernel
theorem dX11_node_19 : decode cX11_node 19 = .ok (.getfield 120, 3) := by decide +kernel
theorem dX11_node_22 : decode cX11_node 22 = .ok (.if_icmp .lt 5, 3) := by decide +kernel
theorem dX11_node_25 : decode cX11_node 25 = .ok (.iconst (-1), 1) := by decide +kernel
theorem dX11_node_26 : decode cX11_node 26 = .ok (.ireturn, 1) := by decide +kernel
theorem dX11_node_27 : decode cX11_node 27 = .ok (.iload_n 3, 1) := by decide +kernel
theorem dX11_node_28 : decode cX11_node 28 = .ok (.tableswitch 64 0 2 #[28, 40, 52], 28) := by decide +kernel
theorem dX11_node_56 : decode cX11_node 56 = .ok (.aload_n 0, 1) := by decide +kernel
theorem dX11_node_57 : decode cX11_node 57 = .ok (.getfield 19, 3) := by decide +kernel
theorem dX11_node_60 : decode cX11_node 60 = .ok (.iload_n 1, 1) := by decide +kernel
theorem dX11_node_61 : decode cX11_node 61 = .ok (.aaload, 1) := by decide +kernel
theorem dX11_node_62 : decode cX11_node 62 = .ok (.getfield 121, 3) := by decide +kernel
theorem dX11_node_65 : decode cX11_node 65 = .ok (.iload_n 2, 1) := by decide +kernel
theorem dX11_node_66 : decode cX11_node 66 = .ok (.iaload, 1) := by decide +kernel
theorem dX11_node_67 : decode cX11_node 67 = .ok (.ireturn, 1) := by decide +kernel
theorem dX11_node_68 : decode cX11_node 68 = .ok (.aload_n 0, 1) := by decide +kernel
theorem dX11_node_69 : decode cX11_node 69 = .ok (.getfield 19, 3) := by decide +kernel
theorem dX11_node_72 : decode cX11_node 72 = .ok (.iload_n 1, 1) := by decide +kernel
theorem dX11_node_73 : decode cX11_node 73 = .ok (.aaload, 1) := by decide +kernel
theorem dX11_node_74 : decode cX11_node 74 = .ok (.getfield 122, 3) := by decide +kernel
theorem dX11_node_77 : decode cX11_node 77 = .ok (.iload_n 2, 1) := by decide +kernel
theorem dX11_node_78 : decode cX11_node 78 = .ok (.iaload, 1) := by decide +kernel
theorem dX11_node_79 : decode cX11_node 79 = .ok (.ireturn, 1) := by decide +kernel
theorem dX11_node_80 : decode cX11_node 80 = .ok (.aload_n 0, 1) := by decide +kernel
theorem dX11_node_81 : decode cX11_node 81 = .ok (.getfield 19, 3) := by decide +kernel
theorem dX11_node_84 : decode cX11_node 84 = .ok (.iload_n 1, 1) := by decide +kernel
theorem dX11_node_85 : decode cX11_node 85 = .ok (.aaload, 1) := by decide +kernel
theorem dX11_node_86 : decode cX11_node 86 = .ok (.getfield 125, 3) := by decide +kernel
theorem dX11_node_89 : decode cX11_node 89 = .ok (.iload_n 2, 1) := by decide +kernel
theorem dX11_node_90 : decode cX11_node 90 = .ok (.iaload, 1) := by decide +kernel
theorem dX11_node_91 : decode cX11_node 91 = .ok (.ireturn, 1) := by decide +kernel
theorem dX11_node_92 : decode cX11_node 92 = .ok (.bipush (-2), 2) := by decide +kernel
theorem dX11_node_94 : decode cX11_node 94 = .ok (.ireturn, 1) := by decide +kernel
set_option maxRecDepth 20000 in
theorem ggX11_result_X11_isText : GoodIn wsX11_result wsX11_isText := goodIn_r _ [6] (by decide +kernel) (by decide +kernel)
set_option maxRecDepth 20000 in
theorem gX11_result_X11_isText : GoodIn wsX11_result (wsV RX11 112 RX11 yX11_isText wsX11_isText) := goodIn_app (goodIn_of _ (by decide +kernel)) ggX11_result_X11_isText
set_option maxRecDepth 20000 in
theorem ggX11_result_X11_isInputs : GoodIn wsX11_result wsX11_isInputs := goodIn_r _ [9] (by decide +kernel) (by decide +kernel)
set_option maxRecDepth 20000 in
theorem gX11_result_X11_isInputs : GoodIn wsX11_result (va_wsS RX11 128 yX11_isInputs wsX11_isInputs) := goodIn_app (goodIn_of _ (by decide +kernel)) ggX11_result_X11_isInputs
set_option maxRecDepth 20000 in
theorem ggX11_result_X7_at : GoodIn wsX11_result wsX7_at := goodIn_r _ [14, 15, 16, 17, 18, 19, 13, 20, 32, 33, 34, 35] (by decide +kernel) (by decide +kernel)
set_option maxRecDepth 20000 in
theorem gX11_result_X7_at : GoodIn wsX11_result (wsV RX11 131 RX7 yX7_at wsX7_at) := goodIn_app (goodIn_of _ (by decide +kernel)) ggX11_result_X7_at
theorem dX11_result_0 : decode cX11_result 0 = .ok (.aload_n 0, 1) := by decide +kernel
theorem dX11_result_1 : decode cX11_result 1 = .ok (.iload_n 1, 1) := by decide +kernel
theorem dX11_result_2 : decode cX11_result 2 = .ok (.invokevirtual 112, 3) := by decide +kernel
theorem dX11_result_5 : decode cX11_result 5 = .ok (.ifCond .ne 5, 3) := by decide +kernel
theorem dX11_result_8 : decode cX11_result 8 = .ok (.iconst (-1), 1) := by decide +kernel
theorem dX11_result_9 : decode cX11_result 9 = .ok (.ireturn, 1) := by decide +kernel
theorem dX11_result_10 : decode cX11_result 10 = .ok (.iload_n 2, 1) := by decide +kernel
theorem dX11_result_11 : decode cX11_result 11 = .ok (.invokestatic 128, 3) := by decide +kernel
theorem dX11_result_14 : decode cX11_result 14 = .ok (.ifCond .eq 15, 3) := by decide +kernel
theorem dX11_result_17 : decode cX11_result 17 = .ok (.aload_n 0, 1) := by decide +kernel
theorem dX11_result_18 : decode cX11_result 18 = .ok (.getfield 35, 3) := by decide +kernel
theorem dX11_result_21 : decode cX11_result 21 = .ok (.iload_n 1, 1) := by decide +kernel
theorem dX11_result_22 : decode cX11_result 22 = .ok (.iload_n 2, 1) := by decide +kernel
theorem dX11_result_23 : decode cX11_result 23 = .ok (.invokevirtual 131, 3) := by decide +kernel
theorem dX11_result_26 : decode cX11_result 26 = .ok (.goto 5, 3) := by decide +kernel
theorem dX11_result_29 : decode cX11_result 29 = .ok (.bipush (-2), 2) := by decide +kernel
theorem dX11_result_31 : decode cX11_result 31 = .ok (.ireturn, 1) := by decide +kernel
set_option maxRecDepth 20000 in
theorem ggX11_runs_X11_isText : GoodIn wsX11_runs wsX11_isText := goodIn_r _ [7] (by decide +kernel) (by decide +kernel)
set_option maxRecDepth 20000 in
theorem gX11_runs_X11_isText : GoodIn wsX11_runs (wsV RX11 112 RX11 yX11_isText wsX11_isText) := goodIn_app (goodIn_of _ (by decide +kernel)) ggX11_runs_X11_isText
set_option maxRecDepth 20000 in
theorem ggX11_runs_X11_isInputs : GoodIn wsX11_runs wsX11_isInputs := goodIn_r _ [10] (by decide +kernel) (by decide +kernel)
set_option maxRecDepth 20000 in
theorem gX11_runs_X11_isInputs : GoodIn wsX11_runs (va_wsS RX11 128 yX11_isInputs wsX11_isInputs) := goodIn_app (goodIn_of _ (by decide +kernel)) ggX11_runs_X11_isInputs
set_option maxRecDepth 20000 in
theorem ggX11_runs_X10_nodesRun : GoodIn wsX11_runs wsX10_nodesRun := goodIn_r _ [15, 16, 17, 18, 19, 20, 14, 21, 22, 23, 24, 25, 26, 27, 28, 29, 30, 31, 32, 33, 34, 35, 36, 37, 38, 39, 40, 41, 42, 43, 44, 45, 46, 47, 48, 49, 50, 51, 52, 53, 54, 55, 56, 57, 58, 59, 60, 61, 62, 63, 64, 65, 66, 67, 68, 69, 70, 71, 72, 73, 74, 75, 76, 77, 78, 79, 80, 81, 82, 83, 84, 85, 86, 87, 88, 89, 101, 102, 103, 104, 105, 106, 107, 108, 109, 110, 111] (by decide +kernel) (by decide +kernel)
set_option maxRecDepth 20000 in
theorem gX11_runs_X10_nodesRun : GoodIn wsX11_runs (wsV RX11 135 RX10 yX10_nodesRun wsX10_nodesRun) := goodIn_app (goodIn_of _ (by decide +kernel)) ggX11_runs_X10_nodesRun
theorem dX11_runs_0 : decode cX11_runs 0 = .ok (.aload_n 0, 1) := by decide +kernel
theorem dX11_runs_1 : decode cX11_runs 1 = .ok (.iload_n 1, 1) := by decide +kernel
theorem dX11_runs_2 : decode cX11_runs 2 = .ok (.invokevirtual 112, 3) := by decide +kernel
theorem dX11_runs_5 : decode cX11_runs 5 = .ok (.ifCond .ne 5, 3) := by decide +kernel
theorem dX11_runs_8 : decode cX11_runs 8 = .ok (.iconst (-1), 1) := by decide +kernel
theorem dX11_runs_9 : decode cX11_runs 9 = .ok (.ireturn, 1) := by decide +kernel
theorem dX11_runs_10 : decode cX11_runs 10 = .ok (.iload_n 2, 1) := by decide +kernel
theorem dX11_runs_11 : decode cX11_runs 11 = .ok (.invokestatic 128, 3) := by decide +kernel
theorem dX11_runs_14 : decode cX11_runs 14 = .ok (.ifCond .eq 20, 3) := by decide +kernel
theorem dX11_runs_17 : decode cX11_runs 17 = .ok (.aload_n 0, 1) := by decide +kernel
theorem dX11_runs_18 : decode cX11_runs 18 = .ok (.getfield 26, 3) := by decide +kernel
theorem dX11_runs_21 : decode cX11_runs 21 = .ok (.aload_n 0, 1) := by decide +kernel
theorem dX11_runs_22 : decode cX11_runs 22 = .ok (.getfield 19, 3) := by decide +kernel
theorem dX11_runs_25 : decode cX11_runs 25 = .ok (.iload_n 1, 1) := by decide +kernel
theorem dX11_runs_26 : decode cX11_runs 26 = .ok (.aaload, 1) := by decide +kernel
theorem dX11_runs_27 : decode cX11_runs 27 = .ok (.iload_n 2, 1) := by decide +kernel
theorem dX11_runs_28 : decode cX11_runs 28 = .ok (.invokevirtual 135, 3) := by decide +kernel
theorem dX11_runs_31 : decode cX11_runs 31 = .ok (.goto 5, 3) := by decide +kernel
theorem dX11_runs_34 : decode cX11_runs 34 = .ok (.bipush (-2), 2) := by decide +kernel
theorem dX11_runs_36 : decode cX11_runs 36 = .ok (.ireturn, 1) := by decide +kernel
set_option maxRecDepth 20000 in
theorem ggX11_change_X11_isChange : GoodIn wsX11_change wsX11_isChange := goodIn_r _ [12, 1, 2, 25, 26, 27, 28, 29, 30, 31, 32, 33, 34, 35, 36, 37, 38, 39, 40] (by decide +kernel) (by decide +kernel)
set_option maxRecDepth 20000 in
theorem gX11_change_X11_isChange : GoodIn wsX11_change (wsV RX11 140 RX11 yX11_isChange wsX11_isChange) := goodIn_app (goodIn_of _ (by decide +kernel)) ggX11_change_X11_isChange
set_option maxRecDepth 20000 in
theorem ggX11_change_X4_behindHowMany : GoodIn wsX11_change wsX4_behindHowMany := goodIn_r _ [17, 18, 19, 20, 21, 22, 16, 23, 24, 41, 42, 43, 44, 45, 46, 47, 36, 37, 38, 39, 40] (by decide +kernel) (by decide +kernel)
set_option maxRecDepth 20000 in
theorem gX11_change_X4_behindHowMany : GoodIn wsX11_change (wsV RX11 153 RX4 yX4_behindHowMany wsX4_behindHowMany) := goodIn_app (goodIn_of _ (by decide +kernel)) ggX11_change_X4_behindHowMany
theorem dX11_change_0 : decode cX11_change 0 = .ok (.iload_n 1, 1) := by decide +kernel
theorem dX11_change_1 : decode cX11_change 1 = .ok (.iconst (-1), 1) := by decide +kernel
theorem dX11_change_2 : decode cX11_change 2 = .ok (.if_icmp .ne 11, 3) := by decide +kernel
theorem dX11_change_5 : decode cX11_change 5 = .ok (.aload_n 0, 1) := by decide +kernel
theorem dX11_change_6 : decode cX11_change 6 = .ok (.getfield 44, 3) := by decide +kernel
theorem dX11_change_9 : decode cX11_change 9 = .ok (.getfield 139, 3) := by decide +kernel
theorem dX11_change_12 : decode cX11_change 12 = .ok (.ireturn, 1) := by decide +kernel
theorem dX11_change_13 : decode cX11_change 13 = .ok (.aload_n 0, 1) := by decide +kernel
theorem dX11_change_14 : decode cX11_change 14 = .ok (.iload_n 1, 1) := by decide +kernel
theorem dX11_change_15 : decode cX11_change 15 = .ok (.invokevirtual 140, 3) := by decide +kernel
theorem dX11_change_18 : decode cX11_change 18 = .ok (.ifCond .ne 5, 3) := by decide +kernel
theorem dX11_change_21 : decode cX11_change 21 = .ok (.iconst (-1), 1) := by decide +kernel
theorem dX11_change_22 : decode cX11_change 22 = .ok (.ireturn, 1) := by decide +kernel
theorem dX11_change_23 : decode cX11_change 23 = .ok (.iload_n 2, 1) := by decide +kernel
theorem dX11_change_24 : decode cX11_change 24 = .ok (.tableswitch 107 0 5 #[40, 50, 60, 70, 88, 98], 40) := by decide +kernel
theorem dX11_change_64 : decode cX11_change 64 = .ok (.aload_n 0, 1) := by decide +kernel
theorem dX11_change_65 : decode cX11_change 65 = .ok (.getfield 44, 3) := by decide +kernel
theorem dX11_change_68 : decode cX11_change 68 = .ok (.getfield 143, 3) := by decide +kernel
theorem dX11_change_71 : decode cX11_change 71 = .ok (.iload_n 1, 1) := by decide +kernel
theorem dX11_change_72 : decode cX11_change 72 = .ok (.iaload, 1) := by decide +kernel
theorem dX11_change_73 : decode cX11_change 73 = .ok (.ireturn, 1) := by decide +kernel
theorem dX11_change_74 : decode cX11_change 74 = .ok (.aload_n 0, 1) := by decide +kernel
theorem dX11_change_75 : decode cX11_change 75 = .ok (.getfield 44, 3) := by decide +kernel
theorem dX11_change_78 : decode cX11_change 78 = .ok (.getfield 146, 3) := by decide +kernel
theorem dX11_change_81 : decode cX11_change 81 = .ok (.iload_n 1, 1) := by decide +kernel
theorem dX11_change_82 : decode cX11_change 82 = .ok (.iaload, 1) := by decide +kernel
theorem dX11_change_83 : decode cX11_change 83 = .ok (.ireturn, 1) := by decide +kernel
theorem dX11_change_84 : decode cX11_change 84 = .ok (.aload_n 0, 1) := by decide +kernel
theorem dX11_change_85 : decode cX11_change 85 = .ok (.getfield 44, 3) := by decide +kernel
theorem dX11_change_88 : decode cX11_change 88 = .ok (.getfield 147, 3) := by decide +kernel
theorem dX11_change_91 : decode cX11_change 91 = .ok (.iload_n 1, 1) := by decide +kernel
theorem dX11_change_92 : decode cX11_change 92 = .ok (.iaload, 1) := by decide +kernel
theorem dX11_change_93 : decode cX11_change 93 = .ok (.ireturn, 1) := by decide +kernel
theorem dX11_change_94 : decode cX11_change 94 = .ok (.aload_n 0, 1) := by decide +kernel
theorem dX11_change_95 : decode cX11_change 95 = .ok (.getfield 60, 3) := by decide +kernel
theorem dX11_change_98 : decode cX11_change 98 = .ok (.getfield 150, 3) := by decide +kernel
theorem dX11_change_101 : decode cX11_change 101 = .ok (.iload_n 1, 1) := by decide +kernel
theorem dX11_change_102 : decode cX11_change 102 = .ok (.iaload, 1) := by decide +kernel
theorem dX11_change_103 : decode cX11_change 103 = .ok (.ifCond .eq 7, 3) := by decide +kernel
theorem dX11_change_106 : decode cX11_change 106 = .ok (.iconst 1, 1) := by decide +kernel
theorem dX11_change_107 : decode cX11_change 107 = .ok (.goto 4, 3) := by decide +kernel
theorem dX11_change_110 : decode cX11_change 110 = .ok (.iconst 0, 1) := by decide +kernel
theorem dX11_change_111 : decode cX11_change 111 = .ok (.ireturn, 1) := by decide +kernel
theorem dX11_change_112 : decode cX11_change 112 = .ok (.aload_n 0, 1) := by decide +kernel
theorem dX11_change_113 : decode cX11_change 113 = .ok (.getfield 60, 3) := by decide +kernel
theorem dX11_change_116 : decode cX11_change 116 = .ok (.getfield 150, 3) := by decide +kernel
theorem dX11_change_119 : decode cX11_change 119 = .ok (.iload_n 1, 1) := by decide +kernel
theorem dX11_change_120 : decode cX11_change 120 = .ok (.iaload, 1) := by decide +kernel
theorem dX11_change_121 : decode cX11_change 121 = .ok (.ireturn, 1) := by decide +kernel
theorem dX11_change_122 : decode cX11_change 122 = .ok (.aload_n 0, 1) := by decide +kernel
theorem dX11_change_123 : decode cX11_change 123 = .ok (.getfield 60, 3) := by decide +kernel
theorem dX11_change_126 : decode cX11_change 126 = .ok (.iload_n 1, 1) := by decide +kernel
theorem dX11_change_127 : decode cX11_change 127 = .ok (.invokevirtual 153, 3) := by decide +kernel
theorem dX11_change_130 : decode cX11_change 130 = .ok (.ireturn, 1) := by decide +kernel
theorem dX11_change_131 : decode cX11_change 131 = .ok (.bipush (-2), 2) := by decide +kernel
theorem dX11_change_133 : decode cX11_change 133 = .ok (.ireturn, 1) := by decide +kernel
set_option maxRecDepth 20000 in
theorem ggX11_by_X11_isChange : GoodIn wsX11_by wsX11_isChange := goodIn_r _ [6, 7, 8, 23, 24, 25, 26, 27, 28, 29, 30, 31, 32, 33, 34, 35, 36, 37, 38] (by decide +kernel) (by decide +kernel)
set_option maxRecDepth 20000 in
theorem gX11_by_X11_isChange : GoodIn wsX11_by (wsV RX11 140 RX11 yX11_isChange wsX11_isChange) := goodIn_app (goodIn_of _ (by decide +kernel)) ggX11_by_X11_isChange
set_option maxRecDepth 20000 in
theorem ggX11_by_X11_isInputs : GoodIn wsX11_by wsX11_isInputs := goodIn_r _ [11] (by decide +kernel) (by decide +kernel)
set_option maxRecDepth 20000 in
theorem gX11_by_X11_isInputs : GoodIn wsX11_by (va_wsS RX11 128 yX11_isInputs wsX11_isInputs) := goodIn_app (goodIn_of _ (by decide +kernel)) ggX11_by_X11_isInputs
set_option maxRecDepth 20000 in
theorem ggX11_by_X7_at : GoodIn wsX11_by wsX7_at := goodIn_r _ [16, 17, 18, 19, 20, 21, 15, 22, 39, 40, 41, 42] (by decide +kernel) (by decide +kernel)
set_option maxRecDepth 20000 in
theorem gX11_by_X7_at : GoodIn wsX11_by (wsV RX11 131 RX7 yX7_at wsX7_at) := goodIn_app (goodIn_of _ (by decide +kernel)) ggX11_by_X7_at
theorem dX11_by_0 : decode cX11_by 0 = .ok (.aload_n 0, 1) := by decide +kernel
theorem dX11_by_1 : decode cX11_by 1 = .ok (.iload_n 1, 1) := by decide +kernel
theorem dX11_by_2 : decode cX11_by 2 = .ok (.invokevirtual 140, 3) := by decide +kernel
theorem dX11_by_5 : decode cX11_by 5 = .ok (.ifCond .ne 5, 3) := by decide +kernel
theorem dX11_by_8 : decode cX11_by 8 = .ok (.iconst (-1), 1) := by decide +kernel
theorem dX11_by_9 : decode cX11_by 9 = .ok (.ireturn, 1) := by decide +kernel
theorem dX11_by_10 : decode cX11_by 10 = .ok (.iload_n 2, 1) := by decide +kernel
theorem dX11_by_11 : decode cX11_by 11 = .ok (.invokestatic 128, 3) := by decide +kernel
theorem dX11_by_14 : decode cX11_by 14 = .ok (.ifCond .eq 17, 3) := by decide +kernel
theorem dX11_by_17 : decode cX11_by 17 = .ok (.aload_n 0, 1) := by decide +kernel
theorem dX11_by_18 : decode cX11_by 18 = .ok (.getfield 35, 3) := by decide +kernel
theorem dX11_by_21 : decode cX11_by 21 = .ok (.iconst 2, 1) := by decide +kernel
theorem dX11_by_22 : decode cX11_by 22 = .ok (.iload_n 1, 1) := by decide +kernel
theorem dX11_by_23 : decode cX11_by 23 = .ok (.iadd, 1) := by decide +kernel
theorem dX11_by_24 : decode cX11_by 24 = .ok (.iload_n 2, 1) := by decide +kernel
theorem dX11_by_25 : decode cX11_by 25 = .ok (.invokevirtual 131, 3) := by decide +kernel
theorem dX11_by_28 : decode cX11_by 28 = .ok (.goto 5, 3) := by decide +kernel
theorem dX11_by_31 : decode cX11_by 31 = .ok (.bipush (-2), 2) := by decide +kernel
theorem dX11_by_33 : decode cX11_by 33 = .ok (.ireturn, 1) := by decide +kernel
set_option maxRecDepth 20000 in
theorem ggX11_test_X11_isInputs : GoodIn wsX11_test wsX11_isInputs := goodIn_r _ [6] (by decide +kernel) (by decide +kernel)
set_option maxRecDepth 20000 in
theorem gX11_test_X11_isInputs : GoodIn wsX11_test (va_wsS RX11 128 yX11_isInputs wsX11_isInputs) := goodIn_app (goodIn_of _ (by decide +kernel)) ggX11_test_X11_isInputs
set_option maxRecDepth 20000 in
theorem ggX11_test_X8_append : GoodIn wsX11_test wsX8_append := goodIn_r _ [11, 12, 13, 14, 69, 70, 71, 72] (by decide +kernel) (by decide +kernel)
set_option maxRecDepth 20000 in
theorem gX11_test_X8_append : GoodIn wsX11_test (wsV RX11 158 RX8 yX8_append wsX8_append) := goodIn_app (goodIn_of _ (by decide +kernel)) ggX11_test_X8_append
set_option maxRecDepth 20000 in
theorem ggX11_test_X11_settleNotices : GoodIn wsX11_test wsX11_settleNotices := goodIn_r _ [18, 19, 20, 21, 22, 23, 24, 25, 26, 27, 28, 29, 30, 31, 32, 33, 34, 35, 36, 37, 38, 39, 40, 41, 42, 43, 44, 45, 46, 47, 48, 49, 50, 51, 52, 53, 54, 55, 56, 57, 58, 59, 60, 61, 62, 63, 64, 65, 66, 67, 68, 73, 74, 75, 76, 77, 78, 79, 80, 81, 82, 83, 84, 69, 70, 71, 72, 85, 86, 87, 88, 89, 90, 91, 92, 93, 94, 95, 96] (by decide +kernel) (by decide +kernel)
set_option maxRecDepth 20000 in
theorem gX11_test_X11_settleNotices : GoodIn wsX11_test (wsV RX11 162 RX11 yX11_settleNotices wsX11_settleNotices) := goodIn_app (goodIn_of _ (by decide +kernel)) ggX11_test_X11_settleNotices
theorem dX11_test_0 : decode cX11_test 0 = .ok (.iload_n 1, 1) := by decide +kernel
theorem dX11_test_1 : decode cX11_test 1 = .ok (.invokestatic 128, 3) := by decide +kernel
theorem dX11_test_4 : decode cX11_test 4 = .ok (.ifCond .eq 13, 3) := by decide +kernel
theorem dX11_test_7 : decode cX11_test 7 = .ok (.iload_n 2, 1) := by decide +kernel
theorem dX11_test_8 : decode cX11_test 8 = .ok (.ifCond .lt 9, 3) := by decide +kernel
theorem dX11_test_11 : decode cX11_test 11 = .ok (.iload_n 2, 1) := by decide +kernel
theorem dX11_test_12 : decode cX11_test 12 = .ok (.bipush 8, 2) := by decide +kernel
theorem dX11_test_14 : decode cX11_test 14 = .ok (.if_icmp .lt 6, 3) := by decide +kernel
theorem dX11_test_17 : decode cX11_test 17 = .ok (.bipush (-2), 2) := by decide +kernel
theorem dX11_test_19 : decode cX11_test 19 = .ok (.ireturn, 1) := by decide +kernel
theorem dX11_test_20 : decode cX11_test 20 = .ok (.aload_n 0, 1) := by decide +kernel
theorem dX11_test_21 : decode cX11_test 21 = .ok (.getfield 51, 3) := by decide +kernel
theorem dX11_test_24 : decode cX11_test 24 = .ok (.getfield 157, 3) := by decide +kernel
theorem dX11_test_27 : decode cX11_test 27 = .ok (.bipush 14, 2) := by decide +kernel
theorem dX11_test_29 : decode cX11_test 29 = .ok (.if_icmp .lt 6, 3) := by decide +kernel
theorem dX11_test_32 : decode cX11_test 32 = .ok (.bipush (-4), 2) := by decide +kernel
theorem dX11_test_34 : decode cX11_test 34 = .ok (.ireturn, 1) := by decide +kernel
theorem dX11_test_35 : decode cX11_test 35 = .ok (.aload_n 0, 1) := by decide +kernel
theorem dX11_test_36 : decode cX11_test 36 = .ok (.getfield 51, 3) := by decide +kernel
theorem dX11_test_39 : decode cX11_test 39 = .ok (.iload_n 1, 1) := by decide +kernel
theorem dX11_test_40 : decode cX11_test 40 = .ok (.iload_n 2, 1) := by decide +kernel
theorem dX11_test_41 : decode cX11_test 41 = .ok (.invokevirtual 158, 3) := by decide +kernel
theorem dX11_test_44 : decode cX11_test 44 = .ok (.aload_n 0, 1) := by decide +kernel
theorem dX11_test_45 : decode cX11_test 45 = .ok (.invokevirtual 162, 3) := by decide +kernel
theorem dX11_test_48 : decode cX11_test 48 = .ok (.aload_n 0, 1) := by decide +kernel
theorem dX11_test_49 : decode cX11_test 49 = .ok (.getfield 51, 3) := by decide +kernel
theorem dX11_test_52 : decode cX11_test 52 = .ok (.getfield 157, 3) := by decide +kernel
theorem dX11_test_55 : decode cX11_test 55 = .ok (.iconst 1, 1) := by decide +kernel
theorem dX11_test_56 : decode cX11_test 56 = .ok (.isub, 1) := by decide +kernel
theorem dX11_test_57 : decode cX11_test 57 = .ok (.ireturn, 1) := by decide +kernel
set_option maxRecDepth 20000 in
theorem ggX11_drop_X11_isTest : GoodIn wsX11_drop wsX11_isTest := goodIn_r _ [7, 1, 8, 60, 61, 62, 63, 64, 65, 66, 67, 68, 69, 70, 71, 72, 73, 74] (by decide +kernel) (by decide +kernel)
set_option maxRecDepth 20000 in
theorem gX11_drop_X11_isTest : GoodIn wsX11_drop (wsV RX11 165 RX11 yX11_isTest wsX11_isTest) := goodIn_app (goodIn_of _ (by decide +kernel)) ggX11_drop_X11_isTest
set_option maxRecDepth 20000 in
theorem ggX11_drop_X8_remove : GoodIn wsX11_drop wsX8_remove := goodIn_r _ [13, 14, 15, 16, 71, 72, 73, 74] (by decide +kernel) (by decide +kernel)
set_option maxRecDepth 20000 in
theorem gX11_drop_X8_remove : GoodIn wsX11_drop (wsV RX11 171 RX8 yX8_remove wsX8_remove) := goodIn_app (goodIn_of _ (by decide +kernel)) ggX11_drop_X8_remove
set_option maxRecDepth 20000 in
theorem ggX11_drop_X11_settleNotices : GoodIn wsX11_drop wsX11_settleNotices := goodIn_r _ [20, 21, 22, 23, 24, 25, 26, 27, 28, 29, 30, 31, 32, 33, 34, 35, 36, 37, 38, 39, 40, 41, 42, 43, 44, 45, 46, 47, 48, 49, 50, 51, 52, 53, 54, 55, 56, 57, 58, 59, 60, 61, 62, 63, 64, 65, 66, 67, 68, 69, 70, 75, 76, 77, 78, 79, 80, 81, 82, 83, 84, 85, 86, 71, 72, 73, 74, 87, 88, 89, 90, 91, 92, 93, 94, 95, 96, 97, 98] (by decide +kernel) (by decide +kernel)
set_option maxRecDepth 20000 in
theorem gX11_drop_X11_settleNotices : GoodIn wsX11_drop (wsV RX11 162 RX11 yX11_settleNotices wsX11_settleNotices) := goodIn_app (goodIn_of _ (by decide +kernel)) ggX11_drop_X11_settleNotices
theorem dX11_drop_0 : decode cX11_drop 0 = .ok (.aload_n 0, 1) := by decide +kernel
theorem dX11_drop_1 : decode cX11_drop 1 = .ok (.iload_n 1, 1) := by decide +kernel
theorem dX11_drop_2 : decode cX11_drop 2 = .ok (.invokevirtual 165, 3) := by decide +kernel
theorem dX11_drop_5 : decode cX11_drop 5 = .ok (.ifCond .ne 5, 3) := by decide +kernel
theorem dX11_drop_8 : decode cX11_drop 8 = .ok (.iconst (-1), 1) := by decide +kernel
theorem dX11_drop_9 : decode cX11_drop 9 = .ok (.ireturn, 1) := by decide +kernel
theorem dX11_drop_10 : decode cX11_drop 10 = .ok (.aload_n 0, 1) := by decide +kernel
theorem dX11_drop_11 : decode cX11_drop 11 = .ok (.getfield 51, 3) := by decide +kernel
theorem dX11_drop_14 : decode cX11_drop 14 = .ok (.getfield 168, 3) := by decide +kernel
theorem dX11_drop_17 : decode cX11_drop 17 = .ok (.iload_n 1, 1) := by decide +kernel
theorem dX11_drop_18 : decode cX11_drop 18 = .ok (.iaload, 1) := by decide +kernel
theorem dX11_drop_19 : decode cX11_drop 19 = .ok (.istore_n 2, 1) := by decide +kernel
theorem dX11_drop_20 : decode cX11_drop 20 = .ok (.aload_n 0, 1) := by decide +kernel
theorem dX11_drop_21 : decode cX11_drop 21 = .ok (.getfield 51, 3) := by decide +kernel
theorem dX11_drop_24 : decode cX11_drop 24 = .ok (.iload_n 1, 1) := by decide +kernel
theorem dX11_drop_25 : decode cX11_drop 25 = .ok (.invokevirtual 171, 3) := by decide +kernel
theorem dX11_drop_28 : decode cX11_drop 28 = .ok (.aload_n 0, 1) := by decide +kernel
theorem dX11_drop_29 : decode cX11_drop 29 = .ok (.invokevirtual 162, 3) := by decide +kernel
theorem dX11_drop_32 : decode cX11_drop 32 = .ok (.iload_n 2, 1) := by decide +kernel
theorem dX11_drop_33 : decode cX11_drop 33 = .ok (.ireturn, 1) := by decide +kernel
set_option maxRecDepth 20000 in
theorem ggX11_of_X11_isTest : GoodIn wsX11_of wsX11_isTest := goodIn_r _ [9, 1, 10, 38, 39, 40, 41, 42, 43, 44, 45, 46, 47, 48, 49, 50, 51, 52] (by decide +kernel) (by decide +kernel)
set_option maxRecDepth 20000 in
theorem gX11_of_X11_isTest : GoodIn wsX11_of (wsV RX11 165 RX11 yX11_isTest wsX11_isTest) := goodIn_app (goodIn_of _ (by decide +kernel)) ggX11_of_X11_isTest
set_option maxRecDepth 20000 in
theorem ggX11_of_X8_failsFor : GoodIn wsX11_of wsX8_failsFor := goodIn_r _ [15, 16, 17, 18, 19, 20, 21, 22, 23, 24, 25, 26, 27, 28, 29, 49, 50, 51, 52, 53, 54, 55, 56] (by decide +kernel) (by decide +kernel)
set_option maxRecDepth 20000 in
theorem gX11_of_X8_failsFor : GoodIn wsX11_of (wsV RX11 177 RX8 yX8_failsFor wsX8_failsFor) := goodIn_app (goodIn_of _ (by decide +kernel)) ggX11_of_X8_failsFor
set_option maxRecDepth 20000 in
theorem ggX11_of_X4_howManyNoticedBy : GoodIn wsX11_of wsX4_howManyNoticedBy := goodIn_r _ [34, 35, 36, 37, 57, 58, 59, 60, 61, 62, 63, 64, 65, 66, 67, 68] (by decide +kernel) (by decide +kernel)
set_option maxRecDepth 20000 in
theorem gX11_of_X4_howManyNoticedBy : GoodIn wsX11_of (wsV RX11 181 RX4 yX4_howManyNoticedBy wsX4_howManyNoticedBy) := goodIn_app (goodIn_of _ (by decide +kernel)) ggX11_of_X4_howManyNoticedBy
theorem dX11_of_0 : decode cX11_of 0 = .ok (.aload_n 0, 1) := by decide +kernel
theorem dX11_of_1 : decode cX11_of 1 = .ok (.iload_n 1, 1) := by decide +kernel
theorem dX11_of_2 : decode cX11_of 2 = .ok (.invokevirtual 165, 3) := by decide +kernel
theorem dX11_of_5 : decode cX11_of 5 = .ok (.ifCond .ne 5, 3) := by decide +kernel
theorem dX11_of_8 : decode cX11_of 8 = .ok (.iconst (-1), 1) := by decide +kernel
theorem dX11_of_9 : decode cX11_of 9 = .ok (.ireturn, 1) := by decide +kernel
theorem dX11_of_10 : decode cX11_of 10 = .ok (.iload_n 2, 1) := by decide +kernel
theorem dX11_of_11 : decode cX11_of 11 = .ok (.tableswitch 76 0 3 #[29, 39, 49, 67], 29) := by decide +kernel
theorem dX11_of_40 : decode cX11_of 40 = .ok (.aload_n 0, 1) := by decide +kernel
theorem dX11_of_41 : decode cX11_of 41 = .ok (.getfield 51, 3) := by decide +kernel
theorem dX11_of_44 : decode cX11_of 44 = .ok (.getfield 168, 3) := by decide +kernel
theorem dX11_of_47 : decode cX11_of 47 = .ok (.iload_n 1, 1) := by decide +kernel
theorem dX11_of_48 : decode cX11_of 48 = .ok (.iaload, 1) := by decide +kernel
theorem dX11_of_49 : decode cX11_of 49 = .ok (.ireturn, 1) := by decide +kernel
theorem dX11_of_50 : decode cX11_of 50 = .ok (.aload_n 0, 1) := by decide +kernel
theorem dX11_of_51 : decode cX11_of 51 = .ok (.getfield 51, 3) := by decide +kernel
theorem dX11_of_54 : decode cX11_of 54 = .ok (.getfield 174, 3) := by decide +kernel
theorem dX11_of_57 : decode cX11_of 57 = .ok (.iload_n 1, 1) := by decide +kernel
theorem dX11_of_58 : decode cX11_of 58 = .ok (.iaload, 1) := by decide +kernel
theorem dX11_of_59 : decode cX11_of 59 = .ok (.ireturn, 1) := by decide +kernel
theorem dX11_of_60 : decode cX11_of 60 = .ok (.aload_n 0, 1) := by decide +kernel
theorem dX11_of_61 : decode cX11_of 61 = .ok (.getfield 51, 3) := by decide +kernel
theorem dX11_of_64 : decode cX11_of 64 = .ok (.iload_n 1, 1) := by decide +kernel
theorem dX11_of_65 : decode cX11_of 65 = .ok (.iconst 0, 1) := by decide +kernel
theorem dX11_of_66 : decode cX11_of 66 = .ok (.invokevirtual 177, 3) := by decide +kernel
theorem dX11_of_69 : decode cX11_of 69 = .ok (.ifCond .eq 7, 3) := by decide +kernel
theorem dX11_of_72 : decode cX11_of 72 = .ok (.iconst 1, 1) := by decide +kernel
theorem dX11_of_73 : decode cX11_of 73 = .ok (.goto 4, 3) := by decide +kernel
theorem dX11_of_76 : decode cX11_of 76 = .ok (.iconst 0, 1) := by decide +kernel
theorem dX11_of_77 : decode cX11_of 77 = .ok (.ireturn, 1) := by decide +kernel
theorem dX11_of_78 : decode cX11_of 78 = .ok (.aload_n 0, 1) := by decide +kernel
theorem dX11_of_79 : decode cX11_of 79 = .ok (.getfield 60, 3) := by decide +kernel
theorem dX11_of_82 : decode cX11_of 82 = .ok (.iload_n 1, 1) := by decide +kernel
theorem dX11_of_83 : decode cX11_of 83 = .ok (.invokevirtual 181, 3) := by decide +kernel
theorem dX11_of_86 : decode cX11_of 86 = .ok (.ireturn, 1) := by decide +kernel
theorem dX11_of_87 : decode cX11_of 87 = .ok (.bipush (-2), 2) := by decide +kernel
theorem dX11_of_89 : decode cX11_of 89 = .ok (.ireturn, 1) := by decide +kernel
set_option maxRecDepth 20000 in
theorem ggX11_many_X1_silentOnes : GoodIn wsX11_many wsX1_silentOnes := goodIn_r _ [7, 8, 9, 50, 51, 52, 53, 54] (by decide +kernel) (by decide +kernel)
set_option maxRecDepth 20000 in
theorem gX11_many_X1_silentOnes : GoodIn wsX11_many (wsV RX11 184 RX1 yX1_silentOnes wsX1_silentOnes) := goodIn_app (goodIn_of _ (by decide +kernel)) ggX11_many_X1_silentOnes
set_option maxRecDepth 20000 in
theorem ggX11_many_X4_noticedOnes : GoodIn wsX11_many wsX4_noticedOnes := goodIn_r _ [14, 15, 16, 17, 55, 56, 57, 58, 59, 60, 61, 50, 51, 52, 53, 54] (by decide +kernel) (by decide +kernel)
set_option maxRecDepth 20000 in
theorem gX11_many_X4_noticedOnes : GoodIn wsX11_many (wsV RX11 187 RX4 yX4_noticedOnes wsX4_noticedOnes) := goodIn_app (goodIn_of _ (by decide +kernel)) ggX11_many_X4_noticedOnes
set_option maxRecDepth 20000 in
theorem ggX11_many_X4_hiddenOnes : GoodIn wsX11_many wsX4_hiddenOnes := goodIn_r _ [21, 15, 16, 22, 23, 24, 13, 25, 17, 26, 55, 56, 57, 58, 59, 60, 61, 50, 51, 52, 53, 54] (by decide +kernel) (by decide +kernel)
set_option maxRecDepth 20000 in
theorem gX11_many_X4_hiddenOnes : GoodIn wsX11_many (wsV RX11 190 RX4 yX4_hiddenOnes wsX4_hiddenOnes) := goodIn_app (goodIn_of _ (by decide +kernel)) ggX11_many_X4_hiddenOnes
set_option maxRecDepth 20000 in
theorem ggX11_many_X4_frontOnes : GoodIn wsX11_many wsX4_frontOnes := goodIn_r _ [30, 15, 16, 17, 31, 32, 33, 13, 34, 35, 36, 37, 38, 55, 56, 57, 58, 59, 60, 61, 50, 51, 52, 53, 54] (by decide +kernel) (by decide +kernel)
set_option maxRecDepth 20000 in
theorem gX11_many_X4_frontOnes : GoodIn wsX11_many (wsV RX11 193 RX4 yX4_frontOnes wsX4_frontOnes) := goodIn_app (goodIn_of _ (by decide +kernel)) ggX11_many_X4_frontOnes
theorem dX11_many_0 : decode cX11_many 0 = .ok (.iload_n 1, 1) := by decide +kernel
theorem dX11_many_1 : decode cX11_many 1 = .ok (.tableswitch 63 0 3 #[31, 39, 47, 55], 31) := by decide +kernel
theorem dX11_many_32 : decode cX11_many 32 = .ok (.aload_n 0, 1) := by decide +kernel
theorem dX11_many_33 : decode cX11_many 33 = .ok (.getfield 44, 3) := by decide +kernel
theorem dX11_many_36 : decode cX11_many 36 = .ok (.invokevirtual 184, 3) := by decide +kernel
theorem dX11_many_39 : decode cX11_many 39 = .ok (.ireturn, 1) := by decide +kernel
theorem dX11_many_40 : decode cX11_many 40 = .ok (.aload_n 0, 1) := by decide +kernel
theorem dX11_many_41 : decode cX11_many 41 = .ok (.getfield 60, 3) := by decide +kernel
theorem dX11_many_44 : decode cX11_many 44 = .ok (.invokevirtual 187, 3) := by decide +kernel
theorem dX11_many_47 : decode cX11_many 47 = .ok (.ireturn, 1) := by decide +kernel
theorem dX11_many_48 : decode cX11_many 48 = .ok (.aload_n 0, 1) := by decide +kernel
theorem dX11_many_49 : decode cX11_many 49 = .ok (.getfield 60, 3) := by decide +kernel
theorem dX11_many_52 : decode cX11_many 52 = .ok (.invokevirtual 190, 3) := by decide +kernel
theorem dX11_many_55 : decode cX11_many 55 = .ok (.ireturn, 1) := by decide +kernel
theorem dX11_many_56 : decode cX11_many 56 = .ok (.aload_n 0, 1) := by decide +kernel
theorem dX11_many_57 : decode cX11_many 57 = .ok (.getfield 60, 3) := by decide +kernel
theorem dX11_many_60 : decode cX11_many 60 = .ok (.invokevirtual 193, 3) := by decide +kernel
theorem dX11_many_63 : decode cX11_many 63 = .ok (.ireturn, 1) := by decide +kernel
theorem dX11_many_64 : decode cX11_many 64 = .ok (.bipush (-2), 2) := by decide +kernel
theorem dX11_many_66 : decode cX11_many 66 = .ok (.ireturn, 1) := by decide +kernel
set_option maxRecDepth 20000 in
theorem ggX11_score_X11_isPart : GoodIn wsX11_score wsX11_isPart := goodIn_r _ [7] (by decide +kernel) (by decide +kernel)
set_option maxRecDepth 20000 in
theorem gX11_score_X11_isPart : GoodIn wsX11_score (va_wsS RX11 196 yX11_isPart wsX11_isPart) := goodIn_app (goodIn_of _ (by decide +kernel)) ggX11_score_X11_isPart
set_option maxRecDepth 20000 in
theorem ggX11_score_X4_noticedOnes : GoodIn wsX11_score wsX4_noticedOnes := goodIn_r _ [12, 13, 14, 15, 45, 46, 47, 48, 49, 50, 51, 40, 41, 42, 43, 44] (by decide +kernel) (by decide +kernel)
set_option maxRecDepth 20000 in
theorem gX11_score_X4_noticedOnes : GoodIn wsX11_score (wsV RX11 187 RX4 yX4_noticedOnes wsX4_noticedOnes) := goodIn_app (goodIn_of _ (by decide +kernel)) ggX11_score_X4_noticedOnes
set_option maxRecDepth 20000 in
theorem ggX11_score_X1_silentOnes : GoodIn wsX11_score wsX1_silentOnes := goodIn_r _ [20, 21, 22, 40, 41, 42, 43, 44] (by decide +kernel) (by decide +kernel)
set_option maxRecDepth 20000 in
theorem gX11_score_X1_silentOnes : GoodIn wsX11_score (wsV RX11 184 RX1 yX1_silentOnes wsX1_silentOnes) := goodIn_app (goodIn_of _ (by decide +kernel)) ggX11_score_X1_silentOnes
set_option maxRecDepth 20000 in
theorem ggX11_score_X11_inLowestTerms : GoodIn wsX11_score wsX11_inLowestTerms := goodIn_r _ [25, 26, 27, 6, 28] (by decide +kernel) (by decide +kernel)
set_option maxRecDepth 20000 in
theorem gX11_score_X11_inLowestTerms : GoodIn wsX11_score (va_wsS RX11 199 yX11_inLowestTerms wsX11_inLowestTerms) := goodIn_app (goodIn_of _ (by decide +kernel)) ggX11_score_X11_inLowestTerms
theorem dX11_score_0 : decode cX11_score 0 = .ok (.iload_n 1, 1) := by decide +kernel
theorem dX11_score_1 : decode cX11_score 1 = .ok (.invokestatic 196, 3) := by decide +kernel
theorem dX11_score_4 : decode cX11_score 4 = .ok (.ifCond .ne 6, 3) := by decide +kernel
theorem dX11_score_7 : decode cX11_score 7 = .ok (.bipush (-2), 2) := by decide +kernel
theorem dX11_score_9 : decode cX11_score 9 = .ok (.ireturn, 1) := by decide +kernel
theorem dX11_score_10 : decode cX11_score 10 = .ok (.aload_n 0, 1) := by decide +kernel
theorem dX11_score_11 : decode cX11_score 11 = .ok (.getfield 60, 3) := by decide +kernel
theorem dX11_score_14 : decode cX11_score 14 = .ok (.invokevirtual 187, 3) := by decide +kernel
theorem dX11_score_17 : decode cX11_score 17 = .ok (.aload_n 0, 1) := by decide +kernel
theorem dX11_score_18 : decode cX11_score 18 = .ok (.getfield 44, 3) := by decide +kernel
theorem dX11_score_21 : decode cX11_score 21 = .ok (.getfield 139, 3) := by decide +kernel
theorem dX11_score_24 : decode cX11_score 24 = .ok (.aload_n 0, 1) := by decide +kernel
theorem dX11_score_25 : decode cX11_score 25 = .ok (.getfield 44, 3) := by decide +kernel
theorem dX11_score_28 : decode cX11_score 28 = .ok (.invokevirtual 184, 3) := by decide +kernel
theorem dX11_score_31 : decode cX11_score 31 = .ok (.isub, 1) := by decide +kernel
theorem dX11_score_32 : decode cX11_score 32 = .ok (.iload_n 1, 1) := by decide +kernel
theorem dX11_score_33 : decode cX11_score 33 = .ok (.invokestatic 199, 3) := by decide +kernel
theorem dX11_score_36 : decode cX11_score 36 = .ok (.ireturn, 1) := by decide +kernel
set_option maxRecDepth 20000 in
theorem ggX11_fewest_X2_leastSet : GoodIn wsX11_fewest wsX2_leastSet := goodIn_r _ [6, 7, 8, 9, 10, 5, 11, 12, 13, 14, 15, 16, 17, 18, 19, 20, 21, 22, 23, 24, 25, 26, 27, 28, 29, 30, 31, 32, 33, 34, 35, 36, 37, 38, 39, 40, 41, 42, 43, 44, 45, 46, 47, 48, 49, 50, 63, 64, 65, 66, 67, 68, 69, 70, 71, 72, 73, 74, 75, 76, 77, 78, 79, 80, 81, 82, 83, 84, 85, 86] (by decide +kernel) (by decide +kernel)
set_option maxRecDepth 20000 in
theorem gX11_fewest_X2_leastSet : GoodIn wsX11_fewest (wsV RX11 203 RX2 yX2_leastSet wsX2_leastSet) := goodIn_app (goodIn_of _ (by decide +kernel)) ggX11_fewest_X2_leastSet
set_option maxRecDepth 20000 in
theorem ggX11_fewest_J6_bitCount_0f7a4 : GoodIn wsX11_fewest wsJ6_bitCount_0f7a4 := goodIn_r _ [41, 42, 43, 44] (by decide +kernel) (by decide +kernel)
set_option maxRecDepth 20000 in
theorem gX11_fewest_J6_bitCount_0f7a4 : GoodIn wsX11_fewest (va_wsS RX11 206 yJ6_bitCount_0f7a4 wsJ6_bitCount_0f7a4) := goodIn_app (goodIn_of _ (by decide +kernel)) ggX11_fewest_J6_bitCount_0f7a4
theorem dX11_fewest_0 : decode cX11_fewest 0 = .ok (.iload_n 1, 1) := by decide +kernel
theorem dX11_fewest_1 : decode cX11_fewest 1 = .ok (.lookupswitch 46 #[(0, 27), (1, 35)], 27) := by decide +kernel
theorem dX11_fewest_28 : decode cX11_fewest 28 = .ok (.aload_n 0, 1) := by decide +kernel
theorem dX11_fewest_29 : decode cX11_fewest 29 = .ok (.getfield 69, 3) := by decide +kernel
theorem dX11_fewest_32 : decode cX11_fewest 32 = .ok (.invokevirtual 203, 3) := by decide +kernel
theorem dX11_fewest_35 : decode cX11_fewest 35 = .ok (.ireturn, 1) := by decide +kernel
theorem dX11_fewest_36 : decode cX11_fewest 36 = .ok (.aload_n 0, 1) := by decide +kernel
theorem dX11_fewest_37 : decode cX11_fewest 37 = .ok (.getfield 69, 3) := by decide +kernel
theorem dX11_fewest_40 : decode cX11_fewest 40 = .ok (.invokevirtual 203, 3) := by decide +kernel
theorem dX11_fewest_43 : decode cX11_fewest 43 = .ok (.invokestatic 206, 3) := by decide +kernel
theorem dX11_fewest_46 : decode cX11_fewest 46 = .ok (.ireturn, 1) := by decide +kernel
theorem dX11_fewest_47 : decode cX11_fewest 47 = .ok (.bipush (-2), 2) := by decide +kernel
theorem dX11_fewest_49 : decode cX11_fewest 49 = .ok (.ireturn, 1) := by decide +kernel
set_option maxRecDepth 20000 in
theorem ggX11_soon_X2_leastSum : GoodIn wsX11_soon wsX2_leastSum := goodIn_r _ [6, 7, 8, 9, 10, 5, 11, 12, 13, 14, 15, 16, 17, 18, 19, 20, 21, 22, 23, 24, 25, 26, 27, 28, 29, 30, 31, 32, 33, 34, 35, 36, 37, 38, 39, 40, 41, 42, 43, 44, 45, 46, 47, 48, 49, 50, 73, 74, 75, 76, 77, 78, 79, 80, 81, 82, 83, 84, 85, 86, 87, 88, 89, 90, 91, 92, 93, 94, 95, 96] (by decide +kernel) (by decide +kernel)
set_option maxRecDepth 20000 in
theorem gX11_soon_X2_leastSum : GoodIn wsX11_soon (wsV RX11 211 RX2 yX2_leastSum wsX2_leastSum) := goodIn_app (goodIn_of _ (by decide +kernel)) ggX11_soon_X2_leastSum
set_option maxRecDepth 20000 in
theorem ggX11_soon_X11_isTest : GoodIn wsX11_soon wsX11_isTest := goodIn_r _ [55, 56, 57, 62, 63, 64, 65, 66, 67, 68, 69, 70, 71, 72, 81, 82, 83, 84] (by decide +kernel) (by decide +kernel)
set_option maxRecDepth 20000 in
theorem gX11_soon_X11_isTest : GoodIn wsX11_soon (wsV RX11 165 RX11 yX11_isTest wsX11_isTest) := goodIn_app (goodIn_of _ (by decide +kernel)) ggX11_soon_X11_isTest
set_option maxRecDepth 20000 in
theorem ggX11_soon_X2_testAtPlace : GoodIn wsX11_soon wsX2_testAtPlace := goodIn_r _ [61, 50, 8, 9, 10, 5, 11, 12, 13, 14, 15, 16, 17, 18, 19, 20, 21, 22, 23, 24, 25, 26, 27, 28, 29, 30, 31, 32, 33, 34, 35, 36, 37, 38, 39, 40, 41, 42, 43, 44, 45, 46, 47, 48, 49, 7, 73, 74, 75, 76, 77, 78, 79, 80, 81, 82, 83, 84, 85, 86, 87, 88, 89, 90, 91, 92, 93, 94, 95, 96] (by decide +kernel) (by decide +kernel)
set_option maxRecDepth 20000 in
theorem gX11_soon_X2_testAtPlace : GoodIn wsX11_soon (wsV RX11 214 RX2 yX2_testAtPlace wsX2_testAtPlace) := goodIn_app (goodIn_of _ (by decide +kernel)) ggX11_soon_X2_testAtPlace
theorem dX11_soon_0 : decode cX11_soon 0 = .ok (.iload_n 1, 1) := by decide +kernel
theorem dX11_soon_1 : decode cX11_soon 1 = .ok (.iconst (-1), 1) := by decide +kernel
theorem dX11_soon_2 : decode cX11_soon 2 = .ok (.if_icmp .ne 11, 3) := by decide +kernel
theorem dX11_soon_5 : decode cX11_soon 5 = .ok (.aload_n 0, 1) := by decide +kernel
theorem dX11_soon_6 : decode cX11_soon 6 = .ok (.getfield 69, 3) := by decide +kernel
theorem dX11_soon_9 : decode cX11_soon 9 = .ok (.invokevirtual 211, 3) := by decide +kernel
theorem dX11_soon_12 : decode cX11_soon 12 = .ok (.ireturn, 1) := by decide +kernel
theorem dX11_soon_13 : decode cX11_soon 13 = .ok (.aload_n 0, 1) := by decide +kernel
theorem dX11_soon_14 : decode cX11_soon 14 = .ok (.iload_n 1, 1) := by decide +kernel
theorem dX11_soon_15 : decode cX11_soon 15 = .ok (.invokevirtual 165, 3) := by decide +kernel
theorem dX11_soon_18 : decode cX11_soon 18 = .ok (.ifCond .eq 14, 3) := by decide +kernel
theorem dX11_soon_21 : decode cX11_soon 21 = .ok (.aload_n 0, 1) := by decide +kernel
theorem dX11_soon_22 : decode cX11_soon 22 = .ok (.getfield 69, 3) := by decide +kernel
theorem dX11_soon_25 : decode cX11_soon 25 = .ok (.iload_n 1, 1) := by decide +kernel
theorem dX11_soon_26 : decode cX11_soon 26 = .ok (.invokevirtual 214, 3) := by decide +kernel
theorem dX11_soon_29 : decode cX11_soon 29 = .ok (.goto 5, 3) := by decide +kernel
theorem dX11_soon_32 : decode cX11_soon 32 = .ok (.bipush (-6), 2) := by decide +kernel
theorem dX11_soon_34 : decode cX11_soon 34 = .ok (.ireturn, 1) := by decide +kernel
set_option maxRecDepth 20000 in
theorem ggX11_wished_X4_findWished : GoodIn wsX11_wished wsX4_findWished := goodIn_r _ [8, 9, 10, 11, 12, 13, 7, 14, 15, 16, 17, 18, 19, 20, 21, 22, 23, 24, 25, 26, 27, 28, 29, 30, 31, 32, 33, 34, 35, 36, 37, 38, 39, 51, 52, 53, 54, 55, 56, 57, 58, 59, 60, 61, 62, 63, 64, 65, 66] (by decide +kernel) (by decide +kernel)
set_option maxRecDepth 20000 in
theorem gX11_wished_X4_findWished : GoodIn wsX11_wished (wsV RX11 217 RX4 yX4_findWished wsX4_findWished) := goodIn_app (goodIn_of _ (by decide +kernel)) ggX11_wished_X4_findWished
theorem dX11_wished_0 : decode cX11_wished 0 = .ok (.iload_n 1, 1) := by decide +kernel
theorem dX11_wished_1 : decode cX11_wished 1 = .ok (.ifCond .eq 11, 3) := by decide +kernel
theorem dX11_wished_4 : decode cX11_wished 4 = .ok (.iload_n 1, 1) := by decide +kernel
theorem dX11_wished_5 : decode cX11_wished 5 = .ok (.iconst 1, 1) := by decide +kernel
theorem dX11_wished_6 : decode cX11_wished 6 = .ok (.if_icmp .eq 6, 3) := by decide +kernel
theorem dX11_wished_9 : decode cX11_wished 9 = .ok (.bipush (-2), 2) := by decide +kernel
theorem dX11_wished_11 : decode cX11_wished 11 = .ok (.ireturn, 1) := by decide +kernel
theorem dX11_wished_12 : decode cX11_wished 12 = .ok (.aload_n 0, 1) := by decide +kernel
theorem dX11_wished_13 : decode cX11_wished 13 = .ok (.getfield 60, 3) := by decide +kernel
theorem dX11_wished_16 : decode cX11_wished 16 = .ok (.invokevirtual 217, 3) := by decide +kernel
theorem dX11_wished_19 : decode cX11_wished 19 = .ok (.iload_n 1, 1) := by decide +kernel
theorem dX11_wished_20 : decode cX11_wished 20 = .ok (.ifCond .ne 13, 3) := by decide +kernel
theorem dX11_wished_23 : decode cX11_wished 23 = .ok (.aload_n 0, 1) := by decide +kernel
theorem dX11_wished_24 : decode cX11_wished 24 = .ok (.getfield 60, 3) := by decide +kernel
theorem dX11_wished_27 : decode cX11_wished 27 = .ok (.getfield 220, 3) := by decide +kernel
theorem dX11_wished_30 : decode cX11_wished 30 = .ok (.goto 10, 3) := by decide +kernel
theorem dX11_wished_33 : decode cX11_wished 33 = .ok (.aload_n 0, 1) := by decide +kernel
theorem dX11_wished_34 : decode cX11_wished 34 = .ok (.getfield 60, 3) := by decide +kernel
theorem dX11_wished_37 : decode cX11_wished 37 = .ok (.getfield 223, 3) := by decide +kernel
theorem dX11_wished_40 : decode cX11_wished 40 = .ok (.ireturn, 1) := by decide +kernel
set_option maxRecDepth 20000 in
theorem ggX11_blame_X11_isNodeOfFirst : GoodIn wsX11_blame wsX11_isNodeOfFirst := goodIn_r _ [9, 2, 10, 149, 150, 151, 152, 153, 154, 155, 156, 157, 158, 159, 165, 166, 167, 168, 169, 170, 171] (by decide +kernel) (by decide +kernel)
set_option maxRecDepth 20000 in
theorem gX11_blame_X11_isNodeOfFirst : GoodIn wsX11_blame (wsV RX11 226 RX11 yX11_isNodeOfFirst wsX11_isNodeOfFirst) := goodIn_app (goodIn_of _ (by decide +kernel)) ggX11_blame_X11_isNodeOfFirst
set_option maxRecDepth 20000 in
theorem ggX11_blame_X11_isPart : GoodIn wsX11_blame wsX11_isPart := goodIn_r _ [13] (by decide +kernel) (by decide +kernel)
set_option maxRecDepth 20000 in
theorem gX11_blame_X11_isPart : GoodIn wsX11_blame (va_wsS RX11 196 yX11_isPart wsX11_isPart) := goodIn_app (goodIn_of _ (by decide +kernel)) ggX11_blame_X11_isPart
set_option maxRecDepth 20000 in
theorem ggX11_blame_X0_weigh : GoodIn wsX11_blame wsX0_weigh := goodIn_r _ [18, 19, 20, 21, 22, 23, 24, 25, 26, 27, 28, 29, 30, 31, 32, 33, 34, 35, 36, 37, 38, 39, 40, 41, 42, 43, 44, 45, 46, 47, 48, 49, 50, 51, 52, 53, 54, 55, 56, 57, 58, 59, 60, 61, 62, 63, 64, 65, 66, 67, 68, 69, 70, 71, 72, 73, 74, 75, 76, 77, 78, 79, 80, 81, 82, 83, 84, 85, 86, 87, 88, 89, 90, 91, 92, 93, 94, 95, 96, 97, 98, 99, 100, 101, 102, 103, 104, 105, 106, 107, 108, 109, 110, 111, 112, 113, 114, 115, 116, 117, 118, 119, 120, 121, 122, 123, 124, 125, 126, 127, 128, 129, 130, 17, 131, 132, 133, 134, 135, 136, 137, 138, 139, 140, 141, 142, 160, 161, 162, 163, 164, 172, 173, 174, 175, 165, 166, 167, 168, 169, 170, 171, 176, 177, 178, 179, 180, 181, 182, 183] (by decide +kernel) (by decide +kernel)
set_option maxRecDepth 20000 in
theorem gX11_blame_X0_weigh : GoodIn wsX11_blame (wsV RX11 229 RX0 yX0_weigh wsX0_weigh) := goodIn_app (goodIn_of _ (by decide +kernel)) ggX11_blame_X0_weigh
set_option maxRecDepth 20000 in
theorem ggX11_blame_X11_inLowestTerms : GoodIn wsX11_blame wsX11_inLowestTerms := goodIn_r _ [145, 146, 147, 8, 148] (by decide +kernel) (by decide +kernel)
set_option maxRecDepth 20000 in
theorem gX11_blame_X11_inLowestTerms : GoodIn wsX11_blame (va_wsS RX11 199 yX11_inLowestTerms wsX11_inLowestTerms) := goodIn_app (goodIn_of _ (by decide +kernel)) ggX11_blame_X11_inLowestTerms
theorem dX11_blame_0 : decode cX11_blame 0 = .ok (.aload_n 0, 1) := by decide +kernel
theorem dX11_blame_1 : decode cX11_blame 1 = .ok (.iload_n 1, 1) := by decide +kernel
theorem dX11_blame_2 : decode cX11_blame 2 = .ok (.invokevirtual 226, 3) := by decide +kernel
theorem dX11_blame_5 : decode cX11_blame 5 = .ok (.ifCond .ne 5, 3) := by decide +kernel
theorem dX11_blame_8 : decode cX11_blame 8 = .ok (.iconst (-1), 1) := by decide +kernel
theorem dX11_blame_9 : decode cX11_blame 9 = .ok (.ireturn, 1) := by decide +kernel
theorem dX11_blame_10 : decode cX11_blame 10 = .ok (.iload_n 2, 1) := by decide +kernel
theorem dX11_blame_11 : decode cX11_blame 11 = .ok (.invokestatic 196, 3) := by decide +kernel
theorem dX11_blame_14 : decode cX11_blame 14 = .ok (.ifCond .ne 6, 3) := by decide +kernel
theorem dX11_blame_17 : decode cX11_blame 17 = .ok (.bipush (-2), 2) := by decide +kernel
theorem dX11_blame_19 : decode cX11_blame 19 = .ok (.ireturn, 1) := by decide +kernel
theorem dX11_blame_20 : decode cX11_blame 20 = .ok (.aload_n 0, 1) := by decide +kernel
theorem dX11_blame_21 : decode cX11_blame 21 = .ok (.getfield 78, 3) := by decide +kernel
theorem dX11_blame_24 : decode cX11_blame 24 = .ok (.aload_n 0, 1) := by decide +kernel
theorem dX11_blame_25 : decode cX11_blame 25 = .ok (.getfield 19, 3) := by decide +kernel
theorem dX11_blame_28 : decode cX11_blame 28 = .ok (.iconst 0, 1) := by decide +kernel
theorem dX11_blame_29 : decode cX11_blame 29 = .ok (.aaload, 1) := by decide +kernel
theorem dX11_blame_30 : decode cX11_blame 30 = .ok (.invokevirtual 229, 3) := by decide +kernel
theorem dX11_blame_33 : decode cX11_blame 33 = .ok (.aload_n 0, 1) := by decide +kernel
theorem dX11_blame_34 : decode cX11_blame 34 = .ok (.getfield 78, 3) := by decide +kernel
theorem dX11_blame_37 : decode cX11_blame 37 = .ok (.getfield 233, 3) := by decide +kernel
theorem dX11_blame_40 : decode cX11_blame 40 = .ok (.iload_n 1, 1) := by decide +kernel
theorem dX11_blame_41 : decode cX11_blame 41 = .ok (.iaload, 1) := by decide +kernel
theorem dX11_blame_42 : decode cX11_blame 42 = .ok (.aload_n 0, 1) := by decide +kernel
theorem dX11_blame_43 : decode cX11_blame 43 = .ok (.getfield 78, 3) := by decide +kernel
theorem dX11_blame_46 : decode cX11_blame 46 = .ok (.getfield 236, 3) := by decide +kernel
theorem dX11_blame_49 : decode cX11_blame 49 = .ok (.iload_n 1, 1) := by decide +kernel
theorem dX11_blame_50 : decode cX11_blame 50 = .ok (.iaload, 1) := by decide +kernel
theorem dX11_blame_51 : decode cX11_blame 51 = .ok (.iload_n 2, 1) := by decide +kernel
theorem dX11_blame_52 : decode cX11_blame 52 = .ok (.invokestatic 199, 3) := by decide +kernel
theorem dX11_blame_55 : decode cX11_blame 55 = .ok (.ireturn, 1) := by decide +kernel
set_option maxRecDepth 20000 in
theorem ggX11_rank_X11_isNodeOfFirst : GoodIn wsX11_rank wsX11_isNodeOfFirst := goodIn_r _ [8, 2, 3, 146, 147, 148, 149, 150, 151, 152, 153, 154, 155, 156, 157, 158, 159, 160, 161, 162, 163] (by decide +kernel) (by decide +kernel)
set_option maxRecDepth 20000 in
theorem gX11_rank_X11_isNodeOfFirst : GoodIn wsX11_rank (wsV RX11 226 RX11 yX11_isNodeOfFirst wsX11_isNodeOfFirst) := goodIn_app (goodIn_of _ (by decide +kernel)) ggX11_rank_X11_isNodeOfFirst
set_option maxRecDepth 20000 in
theorem ggX11_rank_X0_weigh : GoodIn wsX11_rank wsX0_weigh := goodIn_r _ [13, 14, 15, 16, 17, 18, 19, 20, 21, 22, 23, 24, 25, 26, 27, 28, 29, 30, 31, 32, 33, 34, 35, 36, 37, 38, 39, 40, 41, 42, 43, 44, 45, 46, 47, 48, 49, 50, 51, 52, 53, 54, 55, 56, 57, 58, 59, 60, 61, 62, 63, 64, 65, 66, 67, 68, 69, 70, 71, 72, 73, 74, 75, 76, 77, 78, 79, 80, 81, 82, 83, 84, 85, 86, 87, 88, 89, 90, 91, 92, 93, 94, 95, 96, 97, 98, 99, 100, 101, 102, 103, 104, 105, 106, 107, 108, 109, 110, 111, 112, 113, 114, 115, 116, 117, 118, 119, 120, 121, 122, 123, 124, 125, 12, 126, 127, 128, 129, 130, 131, 132, 133, 134, 135, 136, 137, 164, 165, 166, 167, 168, 169, 170, 171, 172, 157, 158, 159, 160, 161, 162, 163, 173, 174, 175, 176, 177, 178, 179, 180] (by decide +kernel) (by decide +kernel)
set_option maxRecDepth 20000 in
theorem gX11_rank_X0_weigh : GoodIn wsX11_rank (wsV RX11 229 RX0 yX0_weigh wsX0_weigh) := goodIn_app (goodIn_of _ (by decide +kernel)) ggX11_rank_X0_weigh
set_option maxRecDepth 20000 in
theorem ggX11_rank_X0_nodeAtPlace : GoodIn wsX11_rank wsX0_nodeAtPlace := goodIn_r _ [141, 142, 143, 144, 12, 145, 136, 137, 164, 165, 166, 167, 168] (by decide +kernel) (by decide +kernel)
set_option maxRecDepth 20000 in
theorem gX11_rank_X0_nodeAtPlace : GoodIn wsX11_rank (wsV RX11 239 RX0 yX0_nodeAtPlace wsX0_nodeAtPlace) := goodIn_app (goodIn_of _ (by decide +kernel)) ggX11_rank_X0_nodeAtPlace
theorem dX11_rank_0 : decode cX11_rank 0 = .ok (.aload_n 0, 1) := by decide +kernel
theorem dX11_rank_1 : decode cX11_rank 1 = .ok (.iload_n 1, 1) := by decide +kernel
theorem dX11_rank_2 : decode cX11_rank 2 = .ok (.invokevirtual 226, 3) := by decide +kernel
theorem dX11_rank_5 : decode cX11_rank 5 = .ok (.ifCond .ne 6, 3) := by decide +kernel
theorem dX11_rank_8 : decode cX11_rank 8 = .ok (.bipush (-6), 2) := by decide +kernel
theorem dX11_rank_10 : decode cX11_rank 10 = .ok (.ireturn, 1) := by decide +kernel
theorem dX11_rank_11 : decode cX11_rank 11 = .ok (.aload_n 0, 1) := by decide +kernel
theorem dX11_rank_12 : decode cX11_rank 12 = .ok (.getfield 78, 3) := by decide +kernel
theorem dX11_rank_15 : decode cX11_rank 15 = .ok (.aload_n 0, 1) := by decide +kernel
theorem dX11_rank_16 : decode cX11_rank 16 = .ok (.getfield 19, 3) := by decide +kernel
theorem dX11_rank_19 : decode cX11_rank 19 = .ok (.iconst 0, 1) := by decide +kernel
theorem dX11_rank_20 : decode cX11_rank 20 = .ok (.aaload, 1) := by decide +kernel
theorem dX11_rank_21 : decode cX11_rank 21 = .ok (.invokevirtual 229, 3) := by decide +kernel
theorem dX11_rank_24 : decode cX11_rank 24 = .ok (.aload_n 0, 1) := by decide +kernel
theorem dX11_rank_25 : decode cX11_rank 25 = .ok (.getfield 78, 3) := by decide +kernel
theorem dX11_rank_28 : decode cX11_rank 28 = .ok (.iload_n 1, 1) := by decide +kernel
theorem dX11_rank_29 : decode cX11_rank 29 = .ok (.aload_n 0, 1) := by decide +kernel
theorem dX11_rank_30 : decode cX11_rank 30 = .ok (.getfield 19, 3) := by decide +kernel
theorem dX11_rank_33 : decode cX11_rank 33 = .ok (.iconst 0, 1) := by decide +kernel
theorem dX11_rank_34 : decode cX11_rank 34 = .ok (.aaload, 1) := by decide +kernel
theorem dX11_rank_35 : decode cX11_rank 35 = .ok (.getfield 120, 3) := by decide +kernel
theorem dX11_rank_38 : decode cX11_rank 38 = .ok (.invokevirtual 239, 3) := by decide +kernel
theorem dX11_rank_41 : decode cX11_rank 41 = .ok (.ireturn, 1) := by decide +kernel
set_option maxRecDepth 20000 in
theorem ggX11_mend_X8_failing : GoodIn wsX11_mend wsX8_failing := goodIn_r _ [9, 10, 11, 12, 13, 8, 14, 15, 16, 17, 18, 19, 20, 21, 22, 23, 24, 25, 26, 27, 28, 83, 84, 85, 86, 87, 88, 89, 90] (by decide +kernel) (by decide +kernel)
set_option maxRecDepth 20000 in
theorem gX11_mend_X8_failing : GoodIn wsX11_mend (wsV RX11 242 RX8 yX8_failing wsX8_failing) := goodIn_app (goodIn_of _ (by decide +kernel)) ggX11_mend_X8_failing
set_option maxRecDepth 20000 in
theorem ggX11_mend_X3_find : GoodIn wsX11_mend wsX3_find := goodIn_r _ [33, 34, 35, 36, 37, 38, 39, 40, 41, 8, 42, 10, 11, 12, 13, 14, 15, 16, 17, 18, 19, 20, 21, 22, 23, 24, 25, 26, 27, 28, 78, 79, 80, 81, 82, 91, 92, 93, 94, 95, 83, 84, 85, 86, 87, 88, 89, 90] (by decide +kernel) (by decide +kernel)
set_option maxRecDepth 20000 in
theorem gX11_mend_X3_find : GoodIn wsX11_mend (wsV RX11 245 RX3 yX3_find wsX3_find) := goodIn_app (goodIn_of _ (by decide +kernel)) ggX11_mend_X3_find
set_option maxRecDepth 20000 in
theorem ggX11_mend_X3_kinds : GoodIn wsX11_mend wsX3_kinds := goodIn_r _ [46, 34, 47, 48, 49, 32, 50, 51, 38, 52, 53, 54, 21, 55, 56, 57, 58, 59, 23, 24, 25, 60, 61, 62, 63, 64, 65, 66, 78, 79, 80, 81, 82, 87, 88, 89, 90] (by decide +kernel) (by decide +kernel)
set_option maxRecDepth 20000 in
theorem gX11_mend_X3_kinds : GoodIn wsX11_mend (wsV RX11 249 RX3 yX3_kinds wsX3_kinds) := goodIn_app (goodIn_of _ (by decide +kernel)) ggX11_mend_X3_kinds
theorem dX11_mend_0 : decode cX11_mend 0 = .ok (.aload_n 0, 1) := by decide +kernel
theorem dX11_mend_1 : decode cX11_mend 1 = .ok (.getfield 51, 3) := by decide +kernel
theorem dX11_mend_4 : decode cX11_mend 4 = .ok (.invokevirtual 242, 3) := by decide +kernel
theorem dX11_mend_7 : decode cX11_mend 7 = .ok (.ifCond .ne 6, 3) := by decide +kernel
theorem dX11_mend_10 : decode cX11_mend 10 = .ok (.bipush (-3), 2) := by decide +kernel
theorem dX11_mend_12 : decode cX11_mend 12 = .ok (.ireturn, 1) := by decide +kernel
theorem dX11_mend_13 : decode cX11_mend 13 = .ok (.aload_n 0, 1) := by decide +kernel
theorem dX11_mend_14 : decode cX11_mend 14 = .ok (.getfield 85, 3) := by decide +kernel
theorem dX11_mend_17 : decode cX11_mend 17 = .ok (.invokevirtual 245, 3) := by decide +kernel
theorem dX11_mend_20 : decode cX11_mend 20 = .ok (.iload_n 1, 1) := by decide +kernel
theorem dX11_mend_21 : decode cX11_mend 21 = .ok (.iconst (-1), 1) := by decide +kernel
theorem dX11_mend_22 : decode cX11_mend 22 = .ok (.if_icmp .ne 11, 3) := by decide +kernel
theorem dX11_mend_25 : decode cX11_mend 25 = .ok (.aload_n 0, 1) := by decide +kernel
theorem dX11_mend_26 : decode cX11_mend 26 = .ok (.getfield 85, 3) := by decide +kernel
theorem dX11_mend_29 : decode cX11_mend 29 = .ok (.getfield 248, 3) := by decide +kernel
theorem dX11_mend_32 : decode cX11_mend 32 = .ok (.ireturn, 1) := by decide +kernel
theorem dX11_mend_33 : decode cX11_mend 33 = .ok (.iload_n 1, 1) := by decide +kernel
theorem dX11_mend_34 : decode cX11_mend 34 = .ok (.bipush (-2), 2) := by decide +kernel
theorem dX11_mend_36 : decode cX11_mend 36 = .ok (.if_icmp .ne 11, 3) := by decide +kernel
theorem dX11_mend_39 : decode cX11_mend 39 = .ok (.aload_n 0, 1) := by decide +kernel
theorem dX11_mend_40 : decode cX11_mend 40 = .ok (.getfield 85, 3) := by decide +kernel
theorem dX11_mend_43 : decode cX11_mend 43 = .ok (.invokevirtual 249, 3) := by decide +kernel
theorem dX11_mend_46 : decode cX11_mend 46 = .ok (.ireturn, 1) := by decide +kernel
theorem dX11_mend_47 : decode cX11_mend 47 = .ok (.iload_n 1, 1) := by decide +kernel
theorem dX11_mend_48 : decode cX11_mend 48 = .ok (.ifCond .lt 26, 3) := by decide +kernel
theorem dX11_mend_51 : decode cX11_mend 51 = .ok (.iload_n 1, 1) := by decide +kernel
theorem dX11_mend_52 : decode cX11_mend 52 = .ok (.aload_n 0, 1) := by decide +kernel
theorem dX11_mend_53 : decode cX11_mend 53 = .ok (.getfield 85, 3) := by decide +kernel
theorem dX11_mend_56 : decode cX11_mend 56 = .ok (.getfield 248, 3) := by decide +kernel
theorem dX11_mend_59 : decode cX11_mend 59 = .ok (.if_icmp .ge 15, 3) := by decide +kernel
theorem dX11_mend_62 : decode cX11_mend 62 = .ok (.aload_n 0, 1) := by decide +kernel
theorem dX11_mend_63 : decode cX11_mend 63 = .ok (.getfield 85, 3) := by decide +kernel
theorem dX11_mend_66 : decode cX11_mend 66 = .ok (.getfield 252, 3) := by decide +kernel
theorem dX11_mend_69 : decode cX11_mend 69 = .ok (.iload_n 1, 1) := by decide +kernel
theorem dX11_mend_70 : decode cX11_mend 70 = .ok (.iaload, 1) := by decide +kernel
theorem dX11_mend_71 : decode cX11_mend 71 = .ok (.goto 5, 3) := by decide +kernel
theorem dX11_mend_74 : decode cX11_mend 74 = .ok (.bipush (-6), 2) := by decide +kernel
theorem dX11_mend_76 : decode cX11_mend 76 = .ok (.ireturn, 1) := by decide +kernel
set_option maxRecDepth 20000 in
theorem ggX11_parts_X7_unlikeMany : GoodIn wsX11_parts wsX7_unlikeMany := goodIn_r _ [7, 8, 9, 10, 6, 11, 12, 13, 14, 15, 16, 17, 18, 19, 20, 21, 56, 57, 58, 59] (by decide +kernel) (by decide +kernel)
set_option maxRecDepth 20000 in
theorem gX11_parts_X7_unlikeMany : GoodIn wsX11_parts (wsV RX11 255 RX7 yX7_unlikeMany wsX7_unlikeMany) := goodIn_app (goodIn_of _ (by decide +kernel)) ggX11_parts_X7_unlikeMany
set_option maxRecDepth 20000 in
theorem ggX11_parts_X6_leastInputs : GoodIn wsX11_parts wsX6_leastInputs := goodIn_r _ [26, 27, 28, 29, 25, 30, 31, 32, 33, 34, 6, 35, 8, 9, 10, 11, 12, 13, 14, 36, 37, 38, 39, 40, 41, 42, 43, 44, 60, 61, 62, 56, 57, 58, 59] (by decide +kernel) (by decide +kernel)
set_option maxRecDepth 20000 in
theorem gX11_parts_X6_leastInputs : GoodIn wsX11_parts (wsV RX11 258 RX6 yX6_leastInputs wsX6_leastInputs) := goodIn_app (goodIn_of _ (by decide +kernel)) ggX11_parts_X6_leastInputs
theorem dX11_parts_0 : decode cX11_parts 0 = .ok (.iload_n 1, 1) := by decide +kernel
theorem dX11_parts_1 : decode cX11_parts 1 = .ok (.lookupswitch 45 #[(0, 27), (1, 37)], 27) := by decide +kernel
theorem dX11_parts_28 : decode cX11_parts 28 = .ok (.aload_n 0, 1) := by decide +kernel
theorem dX11_parts_29 : decode cX11_parts 29 = .ok (.getfield 35, 3) := by decide +kernel
theorem dX11_parts_32 : decode cX11_parts 32 = .ok (.iconst 0, 1) := by decide +kernel
theorem dX11_parts_33 : decode cX11_parts 33 = .ok (.iconst 1, 1) := by decide +kernel
theorem dX11_parts_34 : decode cX11_parts 34 = .ok (.invokevirtual 255, 3) := by decide +kernel
theorem dX11_parts_37 : decode cX11_parts 37 = .ok (.ireturn, 1) := by decide +kernel
theorem dX11_parts_38 : decode cX11_parts 38 = .ok (.aload_n 0, 1) := by decide +kernel
theorem dX11_parts_39 : decode cX11_parts 39 = .ok (.getfield 92, 3) := by decide +kernel
theorem dX11_parts_42 : decode cX11_parts 42 = .ok (.invokevirtual 258, 3) := by decide +kernel
theorem dX11_parts_45 : decode cX11_parts 45 = .ok (.ireturn, 1) := by decide +kernel
theorem dX11_parts_46 : decode cX11_parts 46 = .ok (.bipush (-2), 2) := by decide +kernel
theorem dX11_parts_48 : decode cX11_parts 48 = .ok (.ireturn, 1) := by decide +kernel
set_option maxRecDepth 20000 in
theorem ggX11_less_X11_isInputs : GoodIn wsX11_less wsX11_isInputs := goodIn_r _ [7] (by decide +kernel) (by decide +kernel)
set_option maxRecDepth 20000 in
theorem gX11_less_X11_isInputs : GoodIn wsX11_less (va_wsS RX11 128 yX11_isInputs wsX11_isInputs) := goodIn_app (goodIn_of _ (by decide +kernel)) ggX11_less_X11_isInputs
set_option maxRecDepth 20000 in
theorem ggX11_less_X6_isAt : GoodIn wsX11_less wsX6_isAt := goodIn_r _ [12, 13, 14, 15, 16, 17, 18, 19, 20, 21, 22, 23, 24, 25, 26, 27, 28, 61, 62, 63, 64, 65, 66, 67] (by decide +kernel) (by decide +kernel)
set_option maxRecDepth 20000 in
theorem gX11_less_X6_isAt : GoodIn wsX11_less (wsV RX11 261 RX6 yX6_isAt wsX6_isAt) := goodIn_app (goodIn_of _ (by decide +kernel)) ggX11_less_X6_isAt
set_option maxRecDepth 20000 in
theorem ggX11_less_X6_goDown : GoodIn wsX11_less wsX6_goDown := goodIn_r _ [32, 33, 34, 35, 36, 37, 11, 38, 39, 40, 41, 42, 43, 44, 45, 46, 47, 48, 49, 9, 10, 12, 13, 14, 15, 16, 17, 18, 19, 20, 21, 22, 23, 24, 25, 26, 27, 28, 61, 62, 63, 64, 65, 66, 67] (by decide +kernel) (by decide +kernel)
set_option maxRecDepth 20000 in
theorem gX11_less_X6_goDown : GoodIn wsX11_less (wsV RX11 264 RX6 yX6_goDown wsX6_goDown) := goodIn_app (goodIn_of _ (by decide +kernel)) ggX11_less_X6_goDown
theorem dX11_less_0 : decode cX11_less 0 = .ok (.iload_n 1, 1) := by decide +kernel
theorem dX11_less_1 : decode cX11_less 1 = .ok (.invokestatic 128, 3) := by decide +kernel
theorem dX11_less_4 : decode cX11_less 4 = .ok (.ifCond .eq 12, 3) := by decide +kernel
theorem dX11_less_7 : decode cX11_less 7 = .ok (.iload_n 2, 1) := by decide +kernel
theorem dX11_less_8 : decode cX11_less 8 = .ok (.ifCond .eq 11, 3) := by decide +kernel
theorem dX11_less_11 : decode cX11_less 11 = .ok (.iload_n 2, 1) := by decide +kernel
theorem dX11_less_12 : decode cX11_less 12 = .ok (.iconst 1, 1) := by decide +kernel
theorem dX11_less_13 : decode cX11_less 13 = .ok (.if_icmp .eq 6, 3) := by decide +kernel
theorem dX11_less_16 : decode cX11_less 16 = .ok (.bipush (-2), 2) := by decide +kernel
theorem dX11_less_18 : decode cX11_less 18 = .ok (.ireturn, 1) := by decide +kernel
theorem dX11_less_19 : decode cX11_less 19 = .ok (.aload_n 0, 1) := by decide +kernel
theorem dX11_less_20 : decode cX11_less 20 = .ok (.getfield 92, 3) := by decide +kernel
theorem dX11_less_23 : decode cX11_less 23 = .ok (.iload_n 1, 1) := by decide +kernel
theorem dX11_less_24 : decode cX11_less 24 = .ok (.invokevirtual 261, 3) := by decide +kernel
theorem dX11_less_27 : decode cX11_less 27 = .ok (.ifCond .ne 6, 3) := by decide +kernel
theorem dX11_less_30 : decode cX11_less 30 = .ok (.bipush (-3), 2) := by decide +kernel
theorem dX11_less_32 : decode cX11_less 32 = .ok (.ireturn, 1) := by decide +kernel
theorem dX11_less_33 : decode cX11_less 33 = .ok (.aload_n 0, 1) := by decide +kernel
theorem dX11_less_34 : decode cX11_less 34 = .ok (.getfield 92, 3) := by decide +kernel
theorem dX11_less_37 : decode cX11_less 37 = .ok (.iload_n 1, 1) := by decide +kernel
theorem dX11_less_38 : decode cX11_less 38 = .ok (.invokevirtual 264, 3) := by decide +kernel
theorem dX11_less_41 : decode cX11_less 41 = .ok (.iload_n 2, 1) := by decide +kernel
theorem dX11_less_42 : decode cX11_less 42 = .ok (.ifCond .ne 13, 3) := by decide +kernel
theorem dX11_less_45 : decode cX11_less 45 = .ok (.aload_n 0, 1) := by decide +kernel
theorem dX11_less_46 : decode cX11_less 46 = .ok (.getfield 92, 3) := by decide +kernel
theorem dX11_less_49 : decode cX11_less 49 = .ok (.getfield 267, 3) := by decide +kernel
theorem dX11_less_52 : decode cX11_less 52 = .ok (.goto 10, 3) := by decide +kernel
theorem dX11_less_55 : decode cX11_less 55 = .ok (.aload_n 0, 1) := by decide +kernel
theorem dX11_less_56 : decode cX11_less 56 = .ok (.getfield 92, 3) := by decide +kernel
theorem dX11_less_59 : decode cX11_less 59 = .ok (.getfield 270, 3) := by decide +kernel
theorem dX11_less_62 : decode cX11_less 62 = .ok (.ireturn, 1) := by decide +kernel
set_option maxRecDepth 20000 in
theorem ggX11_told_X8_failing : GoodIn wsX11_told wsX8_failing := goodIn_r _ [11, 12, 13, 14, 15, 10, 16, 17, 18, 19, 20, 21, 22, 23, 24, 25, 26, 27, 28, 29, 30, 52, 53, 54, 55, 56, 57, 58, 59] (by decide +kernel) (by decide +kernel)
set_option maxRecDepth 20000 in
theorem gX11_told_X8_failing : GoodIn wsX11_told (wsV RX11 242 RX8 yX8_failing wsX8_failing) := goodIn_app (goodIn_of _ (by decide +kernel)) ggX11_told_X8_failing
theorem dX11_told_0 : decode cX11_told 0 = .ok (.iload_n 1, 1) := by decide +kernel
theorem dX11_told_1 : decode cX11_told 1 = .ok (.tableswitch 79 0 4 #[35, 43, 53, 63, 71], 35) := by decide +kernel
theorem dX11_told_36 : decode cX11_told 36 = .ok (.aload_n 0, 1) := by decide +kernel
theorem dX11_told_37 : decode cX11_told 37 = .ok (.getfield 12, 3) := by decide +kernel
theorem dX11_told_40 : decode cX11_told 40 = .ok (.getfield 100, 3) := by decide +kernel
theorem dX11_told_43 : decode cX11_told 43 = .ok (.ireturn, 1) := by decide +kernel
theorem dX11_told_44 : decode cX11_told 44 = .ok (.aload_n 0, 1) := by decide +kernel
theorem dX11_told_45 : decode cX11_told 45 = .ok (.getfield 19, 3) := by decide +kernel
theorem dX11_told_48 : decode cX11_told 48 = .ok (.iconst 0, 1) := by decide +kernel
theorem dX11_told_49 : decode cX11_told 49 = .ok (.aaload, 1) := by decide +kernel
theorem dX11_told_50 : decode cX11_told 50 = .ok (.getfield 120, 3) := by decide +kernel
theorem dX11_told_53 : decode cX11_told 53 = .ok (.ireturn, 1) := by decide +kernel
theorem dX11_told_54 : decode cX11_told 54 = .ok (.aload_n 0, 1) := by decide +kernel
theorem dX11_told_55 : decode cX11_told 55 = .ok (.getfield 19, 3) := by decide +kernel
theorem dX11_told_58 : decode cX11_told 58 = .ok (.iconst 1, 1) := by decide +kernel
theorem dX11_told_59 : decode cX11_told 59 = .ok (.aaload, 1) := by decide +kernel
theorem dX11_told_60 : decode cX11_told 60 = .ok (.getfield 120, 3) := by decide +kernel
theorem dX11_told_63 : decode cX11_told 63 = .ok (.ireturn, 1) := by decide +kernel
theorem dX11_told_64 : decode cX11_told 64 = .ok (.aload_n 0, 1) := by decide +kernel
theorem dX11_told_65 : decode cX11_told 65 = .ok (.getfield 51, 3) := by decide +kernel
theorem dX11_told_68 : decode cX11_told 68 = .ok (.getfield 157, 3) := by decide +kernel
theorem dX11_told_71 : decode cX11_told 71 = .ok (.ireturn, 1) := by decide +kernel
theorem dX11_told_72 : decode cX11_told 72 = .ok (.aload_n 0, 1) := by decide +kernel
theorem dX11_told_73 : decode cX11_told 73 = .ok (.getfield 51, 3) := by decide +kernel
theorem dX11_told_76 : decode cX11_told 76 = .ok (.invokevirtual 242, 3) := by decide +kernel
theorem dX11_told_79 : decode cX11_told 79 = .ok (.ireturn, 1) := by decide +kernel
theorem dX11_told_80 : decode cX11_told 80 = .ok (.bipush (-2), 2) := by decide +kernel
theorem dX11_told_82 : decode cX11_told 82 = .ok (.ireturn, 1) := by decide +kernel
set_option maxRecDepth 20000 in
theorem ggX11_settleText_X7_workOutText : GoodIn wsX11_settleText wsX7_workOutText := goodIn_r _ [8, 9, 10, 11, 7, 12, 13, 14, 15, 16, 17, 18, 19, 20, 21, 22, 23, 24, 25, 26, 27, 28, 29, 30, 31, 32, 33, 34, 35, 36, 37, 38, 39, 40, 41, 42, 43, 44, 45, 46, 47, 48, 49, 50, 51, 52, 53, 54, 55, 56, 57, 58, 59, 60, 61, 62, 63, 64, 65, 66, 67, 68, 69, 70, 71, 72, 73, 74, 75, 76, 77, 78, 79, 80, 81, 82, 83, 84, 85, 86, 87, 88, 288, 289, 290, 291, 292, 293, 294, 295, 296, 297, 298, 299, 300, 301, 302] (by decide +kernel) (by decide +kernel)
set_option maxRecDepth 20000 in
theorem gX11_settleText_X7_workOutText : GoodIn wsX11_settleText (wsV RX11 273 RX7 yX7_workOutText wsX7_workOutText) := goodIn_app (goodIn_of _ (by decide +kernel)) ggX11_settleText_X7_workOutText
set_option maxRecDepth 20000 in
theorem ggX11_settleText_X1_list : GoodIn wsX11_settleText wsX1_list := goodIn_r _ [93, 94, 95, 96, 97, 98, 99, 100, 101, 102, 103, 92, 104, 105, 106, 52, 107, 108, 109, 110, 111, 112, 113, 114, 115, 116, 117, 118, 119, 120, 121, 122, 123, 124, 125, 126, 127, 128, 129, 130, 131, 132, 133, 134, 135, 136, 137, 138, 139, 140, 141, 142, 143, 144, 145, 146, 147, 148, 149, 150, 151, 152, 153, 154, 155, 156, 157, 158, 159, 160, 161, 162, 163, 164, 165, 166, 167, 168, 169, 170, 171, 172, 173, 174, 175, 176, 177, 178, 179, 180, 181, 182, 183, 184, 185, 186, 187, 188, 189, 190, 191, 192, 193, 194, 195, 196, 197, 198, 199, 200, 201, 202, 203, 204, 205, 206, 207, 208, 209, 210, 211, 212, 213, 214, 215, 216, 217, 218, 219, 220, 221, 222, 223, 224, 225, 10, 11, 7, 12, 13, 14, 15, 16, 17, 18, 19, 20, 21, 22, 23, 24, 25, 26, 27, 28, 29, 30, 31, 32, 33, 34, 35, 36, 37, 38, 39, 40, 41, 42, 43, 44, 45, 46, 47, 48, 49, 50, 51, 53, 54, 55, 56, 57, 58, 59, 60, 61, 62, 63, 64, 65, 66, 67, 68, 69, 70, 71, 72, 73, 74, 75, 76, 77, 78, 79, 80, 81, 82, 83, 84, 85, 86, 87, 88, 226, 227, 228, 229, 230, 231, 232, 233, 234, 235, 236, 237, 238, 239, 240, 303, 304, 305, 306, 307, 296, 297, 298, 299, 300, 301, 302, 288, 289, 290, 291, 292, 293, 294, 295] (by decide +kernel) (by decide +kernel)
set_option maxRecDepth 20000 in
theorem gX11_settleText_X1_list : GoodIn wsX11_settleText (wsV RX11 277 RX1 yX1_list wsX1_list) := goodIn_app (goodIn_of _ (by decide +kernel)) ggX11_settleText_X1_list
set_option maxRecDepth 20000 in
theorem ggX11_settleText_X11_settleNotices : GoodIn wsX11_settleText wsX11_settleNotices := goodIn_r _ [245, 246, 247, 248, 249, 250, 251, 252, 253, 254, 255, 256, 257, 258, 259, 260, 261, 262, 263, 264, 265, 266, 7, 267, 230, 231, 232, 233, 14, 16, 18, 268, 269, 270, 271, 272, 273, 274, 275, 276, 277, 278, 279, 280, 281, 282, 283, 284, 285, 286, 287, 308, 309, 310, 311, 312, 313, 314, 303, 304, 305, 306, 307, 315, 316, 317, 318, 288, 289, 290, 291, 319, 320, 321, 322, 323, 324, 325, 326] (by decide +kernel) (by decide +kernel)
set_option maxRecDepth 20000 in
theorem gX11_settleText_X11_settleNotices : GoodIn wsX11_settleText (wsV RX11 162 RX11 yX11_settleNotices wsX11_settleNotices) := goodIn_app (goodIn_of _ (by decide +kernel)) ggX11_settleText_X11_settleNotices
theorem dX11_settleText_0 : decode cX11_settleText 0 = .ok (.aload_n 0, 1) := by decide +kernel
theorem dX11_settleText_1 : decode cX11_settleText 1 = .ok (.getfield 35, 3) := by decide +kernel
theorem dX11_settleText_4 : decode cX11_settleText 4 = .ok (.iload_n 1, 1) := by decide +kernel
theorem dX11_settleText_5 : decode cX11_settleText 5 = .ok (.aload_n 0, 1) := by decide +kernel
theorem dX11_settleText_6 : decode cX11_settleText 6 = .ok (.getfield 19, 3) := by decide +kernel
theorem dX11_settleText_9 : decode cX11_settleText 9 = .ok (.iload_n 1, 1) := by decide +kernel
theorem dX11_settleText_10 : decode cX11_settleText 10 = .ok (.aaload, 1) := by decide +kernel
theorem dX11_settleText_11 : decode cX11_settleText 11 = .ok (.invokevirtual 273, 3) := by decide +kernel
theorem dX11_settleText_14 : decode cX11_settleText 14 = .ok (.iload_n 1, 1) := by decide +kernel
theorem dX11_settleText_15 : decode cX11_settleText 15 = .ok (.ifCond .ne 20, 3) := by decide +kernel
theorem dX11_settleText_18 : decode cX11_settleText 18 = .ok (.aload_n 0, 1) := by decide +kernel
theorem dX11_settleText_19 : decode cX11_settleText 19 = .ok (.getfield 44, 3) := by decide +kernel
theorem dX11_settleText_22 : decode cX11_settleText 22 = .ok (.aload_n 0, 1) := by decide +kernel
theorem dX11_settleText_23 : decode cX11_settleText 23 = .ok (.getfield 19, 3) := by decide +kernel
theorem dX11_settleText_26 : decode cX11_settleText 26 = .ok (.iload_n 1, 1) := by decide +kernel
theorem dX11_settleText_27 : decode cX11_settleText 27 = .ok (.aaload, 1) := by decide +kernel
theorem dX11_settleText_28 : decode cX11_settleText 28 = .ok (.invokevirtual 277, 3) := by decide +kernel
theorem dX11_settleText_31 : decode cX11_settleText 31 = .ok (.aload_n 0, 1) := by decide +kernel
theorem dX11_settleText_32 : decode cX11_settleText 32 = .ok (.invokevirtual 162, 3) := by decide +kernel
theorem dX11_settleText_35 : decode cX11_settleText 35 = .ok (.return_, 1) := by decide +kernel
set_option maxRecDepth 20000 in
theorem ggX11_settleNotices_X4_settle : GoodIn wsX11_settleNotices wsX4_settle := goodIn_r _ [7, 8, 9, 10, 11, 12, 13, 6, 14, 15, 16, 17, 18, 19, 20, 21, 22, 23, 24, 25, 26, 27, 28, 29, 30, 31, 32, 33, 51, 52, 53, 54, 55, 56, 57, 58, 59, 60, 61, 62, 63, 64, 65, 66, 67, 68, 69, 70] (by decide +kernel) (by decide +kernel)
set_option maxRecDepth 20000 in
theorem gX11_settleNotices_X4_settle : GoodIn wsX11_settleNotices (wsV RX11 280 RX4 yX4_settle wsX4_settle) := goodIn_app (goodIn_of _ (by decide +kernel)) ggX11_settleNotices_X4_settle
set_option maxRecDepth 20000 in
theorem ggX11_settleNotices_X2_forget : GoodIn wsX11_settleNotices wsX2_forget := goodIn_r _ [38, 39, 71, 72, 73, 74, 75, 76, 77, 78] (by decide +kernel) (by decide +kernel)
set_option maxRecDepth 20000 in
theorem gX11_settleNotices_X2_forget : GoodIn wsX11_settleNotices (wsV RX11 283 RX2 yX2_forget wsX2_forget) := goodIn_app (goodIn_of _ (by decide +kernel)) ggX11_settleNotices_X2_forget
theorem dX11_settleNotices_0 : decode cX11_settleNotices 0 = .ok (.aload_n 0, 1) := by decide +kernel
theorem dX11_settleNotices_1 : decode cX11_settleNotices 1 = .ok (.getfield 60, 3) := by decide +kernel
theorem dX11_settleNotices_4 : decode cX11_settleNotices 4 = .ok (.invokevirtual 280, 3) := by decide +kernel
theorem dX11_settleNotices_7 : decode cX11_settleNotices 7 = .ok (.aload_n 0, 1) := by decide +kernel
theorem dX11_settleNotices_8 : decode cX11_settleNotices 8 = .ok (.getfield 69, 3) := by decide +kernel
theorem dX11_settleNotices_11 : decode cX11_settleNotices 11 = .ok (.invokevirtual 283, 3) := by decide +kernel
theorem dX11_settleNotices_14 : decode cX11_settleNotices 14 = .ok (.return_, 1) := by decide +kernel
theorem dX11_isText_0 : decode cX11_isText 0 = .ok (.iload_n 1, 1) := by decide +kernel
theorem dX11_isText_1 : decode cX11_isText 1 = .ok (.ifCond .eq 8, 3) := by decide +kernel
theorem dX11_isText_4 : decode cX11_isText 4 = .ok (.iload_n 1, 1) := by decide +kernel
theorem dX11_isText_5 : decode cX11_isText 5 = .ok (.iconst 1, 1) := by decide +kernel
theorem dX11_isText_6 : decode cX11_isText 6 = .ok (.if_icmp .ne 7, 3) := by decide +kernel
theorem dX11_isText_9 : decode cX11_isText 9 = .ok (.iconst 1, 1) := by decide +kernel
theorem dX11_isText_10 : decode cX11_isText 10 = .ok (.goto 4, 3) := by decide +kernel
theorem dX11_isText_13 : decode cX11_isText 13 = .ok (.iconst 0, 1) := by decide +kernel
theorem dX11_isText_14 : decode cX11_isText 14 = .ok (.ireturn, 1) := by decide +kernel
theorem dX11_isNodeOfFirst_0 : decode cX11_isNodeOfFirst 0 = .ok (.iload_n 1, 1) := by decide +kernel
theorem dX11_isNodeOfFirst_1 : decode cX11_isNodeOfFirst 1 = .ok (.ifCond .lt 20, 3) := by decide +kernel
theorem dX11_isNodeOfFirst_4 : decode cX11_isNodeOfFirst 4 = .ok (.iload_n 1, 1) := by decide +kernel
theorem dX11_isNodeOfFirst_5 : decode cX11_isNodeOfFirst 5 = .ok (.aload_n 0, 1) := by decide +kernel
theorem dX11_isNodeOfFirst_6 : decode cX11_isNodeOfFirst 6 = .ok (.getfield 19, 3) := by decide +kernel
theorem dX11_isNodeOfFirst_9 : decode cX11_isNodeOfFirst 9 = .ok (.iconst 0, 1) := by decide +kernel
theorem dX11_isNodeOfFirst_10 : decode cX11_isNodeOfFirst 10 = .ok (.aaload, 1) := by decide +kernel
theorem dX11_isNodeOfFirst_11 : decode cX11_isNodeOfFirst 11 = .ok (.getfield 120, 3) := by decide +kernel
theorem dX11_isNodeOfFirst_14 : decode cX11_isNodeOfFirst 14 = .ok (.if_icmp .ge 7, 3) := by decide +kernel
theorem dX11_isNodeOfFirst_17 : decode cX11_isNodeOfFirst 17 = .ok (.iconst 1, 1) := by decide +kernel
theorem dX11_isNodeOfFirst_18 : decode cX11_isNodeOfFirst 18 = .ok (.goto 4, 3) := by decide +kernel
theorem dX11_isNodeOfFirst_21 : decode cX11_isNodeOfFirst 21 = .ok (.iconst 0, 1) := by decide +kernel
theorem dX11_isNodeOfFirst_22 : decode cX11_isNodeOfFirst 22 = .ok (.ireturn, 1) := by decide +kernel
theorem dX11_isChange_0 : decode cX11_isChange 0 = .ok (.iload_n 1, 1) := by decide +kernel
theorem dX11_isChange_1 : decode cX11_isChange 1 = .ok (.ifCond .lt 18, 3) := by decide +kernel
theorem dX11_isChange_4 : decode cX11_isChange 4 = .ok (.iload_n 1, 1) := by decide +kernel
theorem dX11_isChange_5 : decode cX11_isChange 5 = .ok (.aload_n 0, 1) := by decide +kernel
theorem dX11_isChange_6 : decode cX11_isChange 6 = .ok (.getfield 44, 3) := by decide +kernel
theorem dX11_isChange_9 : decode cX11_isChange 9 = .ok (.getfield 139, 3) := by decide +kernel
theorem dX11_isChange_12 : decode cX11_isChange 12 = .ok (.if_icmp .ge 7, 3) := by decide +kernel
theorem dX11_isChange_15 : decode cX11_isChange 15 = .ok (.iconst 1, 1) := by decide +kernel
theorem dX11_isChange_16 : decode cX11_isChange 16 = .ok (.goto 4, 3) := by decide +kernel
theorem dX11_isChange_19 : decode cX11_isChange 19 = .ok (.iconst 0, 1) := by decide +kernel
theorem dX11_isChange_20 : decode cX11_isChange 20 = .ok (.ireturn, 1) := by decide +kernel
theorem dX11_isTest_0 : decode cX11_isTest 0 = .ok (.iload_n 1, 1) := by decide +kernel
theorem dX11_isTest_1 : decode cX11_isTest 1 = .ok (.ifCond .lt 18, 3) := by decide +kernel
theorem dX11_isTest_4 : decode cX11_isTest 4 = .ok (.iload_n 1, 1) := by decide +kernel
theorem dX11_isTest_5 : decode cX11_isTest 5 = .ok (.aload_n 0, 1) := by decide +kernel
theorem dX11_isTest_6 : decode cX11_isTest 6 = .ok (.getfield 51, 3) := by decide +kernel
theorem dX11_isTest_9 : decode cX11_isTest 9 = .ok (.getfield 157, 3) := by decide +kernel
theorem dX11_isTest_12 : decode cX11_isTest 12 = .ok (.if_icmp .ge 7, 3) := by decide +kernel
theorem dX11_isTest_15 : decode cX11_isTest 15 = .ok (.iconst 1, 1) := by decide +kernel
theorem dX11_isTest_16 : decode cX11_isTest 16 = .ok (.goto 4, 3) := by decide +kernel
theorem dX11_isTest_19 : decode cX11_isTest 19 = .ok (.iconst 0, 1) := by decide +kernel
theorem dX11_isTest_20 : decode cX11_isTest 20 = .ok (.ireturn, 1) := by decide +kernel
theorem dX11_isInputs_0 : decode cX11_isInputs 0 = .ok (.iload_n 0, 1) := by decide +kernel
theorem dX11_isInputs_1 : decode cX11_isInputs 1 = .ok (.ifCond .lt 14, 3) := by decide +kernel
theorem dX11_isInputs_4 : decode cX11_isInputs 4 = .ok (.iload_n 0, 1) := by decide +kernel
theorem dX11_isInputs_5 : decode cX11_isInputs 5 = .ok (.sipush 512, 3) := by decide +kernel
theorem dX11_isInputs_8 : decode cX11_isInputs 8 = .ok (.if_icmp .ge 7, 3) := by decide +kernel
theorem dX11_isInputs_11 : decode cX11_isInputs 11 = .ok (.iconst 1, 1) := by decide +kernel
theorem dX11_isInputs_12 : decode cX11_isInputs 12 = .ok (.goto 4, 3) := by decide +kernel
theorem dX11_isInputs_15 : decode cX11_isInputs 15 = .ok (.iconst 0, 1) := by decide +kernel
theorem dX11_isInputs_16 : decode cX11_isInputs 16 = .ok (.ireturn, 1) := by decide +kernel
theorem dX11_isPart_0 : decode cX11_isPart 0 = .ok (.iload_n 0, 1) := by decide +kernel
theorem dX11_isPart_1 : decode cX11_isPart 1 = .ok (.ifCond .eq 8, 3) := by decide +kernel
theorem dX11_isPart_4 : decode cX11_isPart 4 = .ok (.iload_n 0, 1) := by decide +kernel
theorem dX11_isPart_5 : decode cX11_isPart 5 = .ok (.iconst 1, 1) := by decide +kernel
theorem dX11_isPart_6 : decode cX11_isPart 6 = .ok (.if_icmp .ne 7, 3) := by decide +kernel
theorem dX11_isPart_9 : decode cX11_isPart 9 = .ok (.iconst 1, 1) := by decide +kernel
theorem dX11_isPart_10 : decode cX11_isPart 10 = .ok (.goto 4, 3) := by decide +kernel
theorem dX11_isPart_13 : decode cX11_isPart 13 = .ok (.iconst 0, 1) := by decide +kernel
theorem dX11_isPart_14 : decode cX11_isPart 14 = .ok (.ireturn, 1) := by decide +kernel
set_option maxRecDepth 20000 in
theorem ggX11_inLowestTerms_X11_commonDivisor : GoodIn wsX11_inLowestTerms wsX11_commonDivisor := goodIn_r _ [4] (by decide +kernel) (by decide +kernel)
set_option maxRecDepth 20000 in
theorem gX11_inLowestTerms_X11_commonDivisor : GoodIn wsX11_inLowestTerms (va_wsS RX11 286 yX11_commonDivisor wsX11_commonDivisor) := goodIn_app (goodIn_of _ (by decide +kernel)) ggX11_inLowestTerms_X11_commonDivisor
theorem dX11_inLowestTerms_0 : decode cX11_inLowestTerms 0 = .ok (.iload_n 0, 1) := by decide +kernel
theorem dX11_inLowestTerms_1 : decode cX11_inLowestTerms 1 = .ok (.iload_n 1, 1) := by decide +kernel
theorem dX11_inLowestTerms_2 : decode cX11_inLowestTerms 2 = .ok (.invokestatic 286, 3) := by decide +kernel
theorem dX11_inLowestTerms_5 : decode cX11_inLowestTerms 5 = .ok (.istore_n 3, 1) := by decide +kernel
theorem dX11_inLowestTerms_6 : decode cX11_inLowestTerms 6 = .ok (.iload_n 0, 1) := by decide +kernel
theorem dX11_inLowestTerms_7 : decode cX11_inLowestTerms 7 = .ok (.ifCond .eq 7, 3) := by decide +kernel
theorem dX11_inLowestTerms_10 : decode cX11_inLowestTerms 10 = .ok (.iload_n 3, 1) := by decide +kernel
theorem dX11_inLowestTerms_11 : decode cX11_inLowestTerms 11 = .ok (.ifCond .ne 13, 3) := by decide +kernel
theorem dX11_inLowestTerms_14 : decode cX11_inLowestTerms 14 = .ok (.iload_n 2, 1) := by decide +kernel
theorem dX11_inLowestTerms_15 : decode cX11_inLowestTerms 15 = .ok (.ifCond .ne 7, 3) := by decide +kernel
theorem dX11_inLowestTerms_18 : decode cX11_inLowestTerms 18 = .ok (.iconst 0, 1) := by decide +kernel
theorem dX11_inLowestTerms_19 : decode cX11_inLowestTerms 19 = .ok (.goto 4, 3) := by decide +kernel
theorem dX11_inLowestTerms_22 : decode cX11_inLowestTerms 22 = .ok (.iconst 1, 1) := by decide +kernel
theorem dX11_inLowestTerms_23 : decode cX11_inLowestTerms 23 = .ok (.ireturn, 1) := by decide +kernel
theorem dX11_inLowestTerms_24 : decode cX11_inLowestTerms 24 = .ok (.iload_n 2, 1) := by decide +kernel
theorem dX11_inLowestTerms_25 : decode cX11_inLowestTerms 25 = .ok (.ifCond .ne 7, 3) := by decide +kernel
theorem dX11_inLowestTerms_28 : decode cX11_inLowestTerms 28 = .ok (.iload_n 0, 1) := by decide +kernel
theorem dX11_inLowestTerms_29 : decode cX11_inLowestTerms 29 = .ok (.goto 4, 3) := by decide +kernel
theorem dX11_inLowestTerms_32 : decode cX11_inLowestTerms 32 = .ok (.iload_n 1, 1) := by decide +kernel
theorem dX11_inLowestTerms_33 : decode cX11_inLowestTerms 33 = .ok (.iload_n 3, 1) := by decide +kernel
theorem dX11_inLowestTerms_34 : decode cX11_inLowestTerms 34 = .ok (.idiv, 1) := by decide +kernel
theorem dX11_inLowestTerms_35 : decode cX11_inLowestTerms 35 = .ok (.ireturn, 1) := by decide +kernel
theorem dX11_commonDivisor_0 : decode cX11_commonDivisor 0 = .ok (.iload_n 0, 1) := by decide +kernel
theorem dX11_commonDivisor_1 : decode cX11_commonDivisor 1 = .ok (.istore_n 2, 1) := by decide +kernel
theorem dX11_commonDivisor_2 : decode cX11_commonDivisor 2 = .ok (.iload_n 1, 1) := by decide +kernel
theorem dX11_commonDivisor_3 : decode cX11_commonDivisor 3 = .ok (.istore_n 3, 1) := by decide +kernel
theorem dX11_commonDivisor_4 : decode cX11_commonDivisor 4 = .ok (.iconst 0, 1) := by decide +kernel
theorem dX11_commonDivisor_5 : decode cX11_commonDivisor 5 = .ok (.istore 4, 2) := by decide +kernel
theorem dX11_commonDivisor_7 : decode cX11_commonDivisor 7 = .ok (.iload 4, 2) := by decide +kernel
theorem dX11_commonDivisor_9 : decode cX11_commonDivisor 9 = .ok (.bipush 64, 2) := by decide +kernel
theorem dX11_commonDivisor_11 : decode cX11_commonDivisor 11 = .ok (.if_icmp .ge 23, 3) := by decide +kernel
theorem dX11_commonDivisor_14 : decode cX11_commonDivisor 14 = .ok (.iload_n 3, 1) := by decide +kernel
theorem dX11_commonDivisor_15 : decode cX11_commonDivisor 15 = .ok (.ifCond .eq 19, 3) := by decide +kernel
theorem dX11_commonDivisor_18 : decode cX11_commonDivisor 18 = .ok (.iload_n 2, 1) := by decide +kernel
theorem dX11_commonDivisor_19 : decode cX11_commonDivisor 19 = .ok (.iload_n 3, 1) := by decide +kernel
theorem dX11_commonDivisor_20 : decode cX11_commonDivisor 20 = .ok (.irem, 1) := by decide +kernel
theorem dX11_commonDivisor_21 : decode cX11_commonDivisor 21 = .ok (.istore 5, 2) := by decide +kernel
theorem dX11_commonDivisor_23 : decode cX11_commonDivisor 23 = .ok (.iload_n 3, 1) := by decide +kernel
theorem dX11_commonDivisor_24 : decode cX11_commonDivisor 24 = .ok (.istore_n 2, 1) := by decide +kernel
theorem dX11_commonDivisor_25 : decode cX11_commonDivisor 25 = .ok (.iload 5, 2) := by decide +kernel
theorem dX11_commonDivisor_27 : decode cX11_commonDivisor 27 = .ok (.istore_n 3, 1) := by decide +kernel
theorem dX11_commonDivisor_28 : decode cX11_commonDivisor 28 = .ok (.iinc 4 1, 3) := by decide +kernel
theorem dX11_commonDivisor_31 : decode cX11_commonDivisor 31 = .ok (.goto (-24), 3) := by decide +kernel
theorem dX11_commonDivisor_34 : decode cX11_commonDivisor 34 = .ok (.iload_n 2, 1) := by decide +kernel
theorem dX11_commonDivisor_35 : decode cX11_commonDivisor 35 = .ok (.ireturn, 1) := by decide +kernel
