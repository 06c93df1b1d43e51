theorem dX9_init_0 : decode cX9_init 0 = .ok (.aload_n 0, 1) := by decide +kernel
theorem dX9_init_1 : decode cX9_init 1 = .ok (.invokespecial 1, 3) := by decide +kernel
theorem dX9_init_4 : decode cX9_init 4 = .ok (.aload_n 0, 1) := by decide +kernel
theorem dX9_init_5 : decode cX9_init 5 = .ok (.sipush 300, 3) := by decide +kernel
theorem dX9_init_8 : decode cX9_init 8 = .ok (.newarray .int, 2) := by decide +kernel
theorem dX9_init_10 : decode cX9_init 10 = .ok (.putfield 7, 3) := by decide +kernel
theorem dX9_init_13 : decode cX9_init 13 = .ok (.aload_n 0, 1) := by decide +kernel
theorem dX9_init_14 : decode cX9_init 14 = .ok (.sipush 300, 3) := by decide +kernel
theorem dX9_init_17 : decode cX9_init 17 = .ok (.newarray .int, 2) := by decide +kernel
theorem dX9_init_19 : decode cX9_init 19 = .ok (.putfield 13, 3) := by decide +kernel
theorem dX9_init_22 : decode cX9_init 22 = .ok (.aload_n 0, 1) := by decide +kernel
theorem dX9_init_23 : decode cX9_init 23 = .ok (.sipush 300, 3) := by decide +kernel
theorem dX9_init_26 : decode cX9_init 26 = .ok (.newarray .int, 2) := by decide +kernel
theorem dX9_init_28 : decode cX9_init 28 = .ok (.putfield 16, 3) := by decide +kernel
theorem dX9_init_31 : decode cX9_init 31 = .ok (.aload_n 0, 1) := by decide +kernel
theorem dX9_init_32 : decode cX9_init 32 = .ok (.sipush 300, 3) := by decide +kernel
theorem dX9_init_35 : decode cX9_init 35 = .ok (.newarray .boolean, 2) := by decide +kernel
theorem dX9_init_37 : decode cX9_init 37 = .ok (.putfield 19, 3) := by decide +kernel
theorem dX9_init_40 : decode cX9_init 40 = .ok (.aload_n 0, 1) := by decide +kernel
theorem dX9_init_41 : decode cX9_init 41 = .ok (.sipush 300, 3) := by decide +kernel
theorem dX9_init_44 : decode cX9_init 44 = .ok (.newarray .boolean, 2) := by decide +kernel
theorem dX9_init_46 : decode cX9_init 46 = .ok (.putfield 23, 3) := by decide +kernel
theorem dX9_init_49 : decode cX9_init 49 = .ok (.aload_n 0, 1) := by decide +kernel
theorem dX9_init_50 : decode cX9_init 50 = .ok (.sipush 300, 3) := by decide +kernel
theorem dX9_init_53 : decode cX9_init 53 = .ok (.newarray .int, 2) := by decide +kernel
theorem dX9_init_55 : decode cX9_init 55 = .ok (.putfield 26, 3) := by decide +kernel
theorem dX9_init_58 : decode cX9_init 58 = .ok (.aload_n 0, 1) := by decide +kernel
theorem dX9_init_59 : decode cX9_init 59 = .ok (.sipush 300, 3) := by decide +kernel
theorem dX9_init_62 : decode cX9_init 62 = .ok (.newarray .int, 2) := by decide +kernel
theorem dX9_init_64 : decode cX9_init 64 = .ok (.putfield 29, 3) := by decide +kernel
theorem dX9_init_67 : decode cX9_init 67 = .ok (.aload_n 0, 1) := by decide +kernel
theorem dX9_init_68 : decode cX9_init 68 = .ok (.bipush 6, 2) := by decide +kernel
theorem dX9_init_70 : decode cX9_init 70 = .ok (.newarray .int, 2) := by decide +kernel
theorem dX9_init_72 : decode cX9_init 72 = .ok (.putfield 32, 3) := by decide +kernel
theorem dX9_init_75 : decode cX9_init 75 = .ok (.aload_n 0, 1) := by decide +kernel
theorem dX9_init_76 : decode cX9_init 76 = .ok (.sipush 1800, 3) := by decide +kernel
theorem dX9_init_79 : decode cX9_init 79 = .ok (.newarray .int, 2) := by decide +kernel
theorem dX9_init_81 : decode cX9_init 81 = .ok (.putfield 35, 3) := by decide +kernel
theorem dX9_init_84 : decode cX9_init 84 = .ok (.aload_n 0, 1) := by decide +kernel
theorem dX9_init_85 : decode cX9_init 85 = .ok (.bipush 6, 2) := by decide +kernel
theorem dX9_init_87 : decode cX9_init 87 = .ok (.newarray .int, 2) := by decide +kernel
theorem dX9_init_89 : decode cX9_init 89 = .ok (.putfield 38, 3) := by decide +kernel
theorem dX9_init_92 : decode cX9_init 92 = .ok (.aload_n 0, 1) := by decide +kernel
theorem dX9_init_93 : decode cX9_init 93 = .ok (.sipush 4200, 3) := by decide +kernel
theorem dX9_init_96 : decode cX9_init 96 = .ok (.newarray .int, 2) := by decide +kernel
theorem dX9_init_98 : decode cX9_init 98 = .ok (.putfield 41, 3) := by decide +kernel
theorem dX9_init_101 : decode cX9_init 101 = .ok (.aload_n 0, 1) := by decide +kernel
theorem dX9_init_102 : decode cX9_init 102 = .ok (.bipush 6, 2) := by decide +kernel
theorem dX9_init_104 : decode cX9_init 104 = .ok (.newarray .int, 2) := by decide +kernel
theorem dX9_init_106 : decode cX9_init 106 = .ok (.putfield 44, 3) := by decide +kernel
theorem dX9_init_109 : decode cX9_init 109 = .ok (.aload_n 0, 1) := by decide +kernel
theorem dX9_init_110 : decode cX9_init 110 = .ok (.iconst 4, 1) := by decide +kernel
theorem dX9_init_111 : decode cX9_init 111 = .ok (.newarray .int, 2) := by decide +kernel
theorem dX9_init_113 : decode cX9_init 113 = .ok (.dup, 1) := by decide +kernel
theorem dX9_init_114 : decode cX9_init 114 = .ok (.iconst 0, 1) := by decide +kernel
theorem dX9_init_115 : decode cX9_init 115 = .ok (.iconst 1, 1) := by decide +kernel
theorem dX9_init_116 : decode cX9_init 116 = .ok (.iastore, 1) := by decide +kernel
theorem dX9_init_117 : decode cX9_init 117 = .ok (.dup, 1) := by decide +kernel
theorem dX9_init_118 : decode cX9_init 118 = .ok (.iconst 1, 1) := by decide +kernel
theorem dX9_init_119 : decode cX9_init 119 = .ok (.iconst 1, 1) := by decide +kernel
theorem dX9_init_120 : decode cX9_init 120 = .ok (.iastore, 1) := by decide +kernel
theorem dX9_init_121 : decode cX9_init 121 = .ok (.dup, 1) := by decide +kernel
theorem dX9_init_122 : decode cX9_init 122 = .ok (.iconst 2, 1) := by decide +kernel
theorem dX9_init_123 : decode cX9_init 123 = .ok (.iconst 1, 1) := by decide +kernel
theorem dX9_init_124 : decode cX9_init 124 = .ok (.iastore, 1) := by decide +kernel
theorem dX9_init_125 : decode cX9_init 125 = .ok (.dup, 1) := by decide +kernel
theorem dX9_init_126 : decode cX9_init 126 = .ok (.iconst 3, 1) := by decide +kernel
theorem dX9_init_127 : decode cX9_init 127 = .ok (.iconst 1, 1) := by decide +kernel
theorem dX9_init_128 : decode cX9_init 128 = .ok (.iastore, 1) := by decide +kernel
theorem dX9_init_129 : decode cX9_init 129 = .ok (.putfield 47, 3) := by decide +kernel
theorem dX9_init_132 : decode cX9_init 132 = .ok (.aload_n 0, 1) := by decide +kernel
theorem dX9_init_133 : decode cX9_init 133 = .ok (.iconst 4, 1) := by decide +kernel
theorem dX9_init_134 : decode cX9_init 134 = .ok (.newarray .int, 2) := by decide +kernel
theorem dX9_init_136 : decode cX9_init 136 = .ok (.putfield 50, 3) := by decide +kernel
theorem dX9_init_139 : decode cX9_init 139 = .ok (.aload_n 0, 1) := by decide +kernel
theorem dX9_init_140 : decode cX9_init 140 = .ok (.bipush 30, 2) := by decide +kernel
theorem dX9_init_142 : decode cX9_init 142 = .ok (.newarray .int, 2) := by decide +kernel
theorem dX9_init_144 : decode cX9_init 144 = .ok (.putfield 53, 3) := by decide +kernel
theorem dX9_init_147 : decode cX9_init 147 = .ok (.aload_n 0, 1) := by decide +kernel
theorem dX9_init_148 : decode cX9_init 148 = .ok (.bipush 30, 2) := by decide +kernel
theorem dX9_init_150 : decode cX9_init 150 = .ok (.newarray .int, 2) := by decide +kernel
theorem dX9_init_152 : decode cX9_init 152 = .ok (.putfield 56, 3) := by decide +kernel
theorem dX9_init_155 : decode cX9_init 155 = .ok (.aload_n 0, 1) := by decide +kernel
theorem dX9_init_156 : decode cX9_init 156 = .ok (.bipush 30, 2) := by decide +kernel
theorem dX9_init_158 : decode cX9_init 158 = .ok (.newarray .int, 2) := by decide +kernel
theorem dX9_init_160 : decode cX9_init 160 = .ok (.putfield 59, 3) := by decide +kernel
theorem dX9_init_163 : decode cX9_init 163 = .ok (.aload_n 0, 1) := by decide +kernel
theorem dX9_init_164 : decode cX9_init 164 = .ok (.bipush 30, 2) := by decide +kernel
theorem dX9_init_166 : decode cX9_init 166 = .ok (.newarray .int, 2) := by decide +kernel
theorem dX9_init_168 : decode cX9_init 168 = .ok (.putfield 62, 3) := by decide +kernel
theorem dX9_init_171 : decode cX9_init 171 = .ok (.aload_n 0, 1) := by decide +kernel
theorem dX9_init_172 : decode cX9_init 172 = .ok (.bipush 30, 2) := by decide +kernel
theorem dX9_init_174 : decode cX9_init 174 = .ok (.newarray .int, 2) := by decide +kernel
theorem dX9_init_176 : decode cX9_init 176 = .ok (.putfield 65, 3) := by decide +kernel
theorem dX9_init_179 : decode cX9_init 179 = .ok (.aload_n 0, 1) := by decide +kernel
theorem dX9_init_180 : decode cX9_init 180 = .ok (.bipush 30, 2) := by decide +kernel
theorem dX9_init_182 : decode cX9_init 182 = .ok (.newarray .int, 2) := by decide +kernel
theorem dX9_init_184 : decode cX9_init 184 = .ok (.putfield 68, 3) := by decide +kernel
theorem dX9_init_187 : decode cX9_init 187 = .ok (.aload_n 0, 1) := by decide +kernel
theorem dX9_init_188 : decode cX9_init 188 = .ok (.bipush 12, 2) := by decide +kernel
theorem dX9_init_190 : decode cX9_init 190 = .ok (.newarray .int, 2) := by decide +kernel
theorem dX9_init_192 : decode cX9_init 192 = .ok (.putfield 71, 3) := by decide +kernel
theorem dX9_init_195 : decode cX9_init 195 = .ok (.aload_n 0, 1) := by decide +kernel
theorem dX9_init_196 : decode cX9_init 196 = .ok (.bipush 12, 2) := by decide +kernel
theorem dX9_init_198 : decode cX9_init 198 = .ok (.newarray .int, 2) := by decide +kernel
theorem dX9_init_200 : decode cX9_init 200 = .ok (.putfield 74, 3) := by decide +kernel
theorem dX9_init_203 : decode cX9_init 203 = .ok (.aload_n 0, 1) := by decide +kernel
theorem dX9_init_204 : decode cX9_init 204 = .ok (.bipush 12, 2) := by decide +kernel
theorem dX9_init_206 : decode cX9_init 206 = .ok (.newarray .int, 2) := by decide +kernel
theorem dX9_init_208 : decode cX9_init 208 = .ok (.putfield 77, 3) := by decide +kernel
theorem dX9_init_211 : decode cX9_init 211 = .ok (.aload_n 0, 1) := by decide +kernel
theorem dX9_init_212 : decode cX9_init 212 = .ok (.bipush 40, 2) := by decide +kernel
theorem dX9_init_214 : decode cX9_init 214 = .ok (.newarray .int, 2) := by decide +kernel
theorem dX9_init_216 : decode cX9_init 216 = .ok (.putfield 80, 3) := by decide +kernel
theorem dX9_init_219 : decode cX9_init 219 = .ok (.aload_n 0, 1) := by decide +kernel
theorem dX9_init_220 : decode cX9_init 220 = .ok (.bipush 40, 2) := by decide +kernel
theorem dX9_init_222 : decode cX9_init 222 = .ok (.newarray .int, 2) := by decide +kernel
theorem dX9_init_224 : decode cX9_init 224 = .ok (.putfield 83, 3) := by decide +kernel
theorem dX9_init_227 : decode cX9_init 227 = .ok (.aload_n 0, 1) := by decide +kernel
theorem dX9_init_228 : decode cX9_init 228 = .ok (.sipush 6000, 3) := by decide +kernel
theorem dX9_init_231 : decode cX9_init 231 = .ok (.newarray .boolean, 2) := by decide +kernel
theorem dX9_init_233 : decode cX9_init 233 = .ok (.putfield 86, 3) := by decide +kernel
theorem dX9_init_236 : decode cX9_init 236 = .ok (.return_, 1) := by decide +kernel
theorem dX9_thrown_0 : decode cX9_thrown 0 = .ok (.aload_n 0, 1) := by decide +kernel
theorem dX9_thrown_1 : decode cX9_thrown 1 = .ok (.getfield 89, 3) := by decide +kernel
theorem dX9_thrown_4 : decode cX9_thrown 4 = .ok (.ireturn, 1) := by decide +kernel
theorem dX9_goesWell_0 : decode cX9_goesWell 0 = .ok (.aload_n 0, 1) := by decide +kernel
theorem dX9_goesWell_1 : decode cX9_goesWell 1 = .ok (.iload_n 1, 1) := by decide +kernel
theorem dX9_goesWell_2 : decode cX9_goesWell 2 = .ok (.putfield 89, 3) := by decide +kernel
theorem dX9_goesWell_5 : decode cX9_goesWell 5 = .ok (.iload_n 1, 1) := by decide +kernel
theorem dX9_goesWell_6 : decode cX9_goesWell 6 = .ok (.ifCond .ne 7, 3) := by decide +kernel
theorem dX9_goesWell_9 : decode cX9_goesWell 9 = .ok (.iconst 1, 1) := by decide +kernel
theorem dX9_goesWell_10 : decode cX9_goesWell 10 = .ok (.goto 4, 3) := by decide +kernel
theorem dX9_goesWell_13 : decode cX9_goesWell 13 = .ok (.iconst 0, 1) := by decide +kernel
theorem dX9_goesWell_14 : decode cX9_goesWell 14 = .ok (.ireturn, 1) := by decide +kernel
theorem dX9_in_0 : decode cX9_in 0 = .ok (.iload_n 0, 1) := by decide +kernel
theorem dX9_in_1 : decode cX9_in 1 = .ok (.iload_n 1, 1) := by decide +kernel
theorem dX9_in_2 : decode cX9_in 2 = .ok (.if_icmp .lt 12, 3) := by decide +kernel
theorem dX9_in_5 : decode cX9_in 5 = .ok (.iload_n 0, 1) := by decide +kernel
theorem dX9_in_6 : decode cX9_in 6 = .ok (.iload_n 2, 1) := by decide +kernel
theorem dX9_in_7 : decode cX9_in 7 = .ok (.if_icmp .gt 7, 3) := by decide +kernel
theorem dX9_in_10 : decode cX9_in 10 = .ok (.iconst 1, 1) := by decide +kernel
theorem dX9_in_11 : decode cX9_in 11 = .ok (.goto 4, 3) := by decide +kernel
theorem dX9_in_14 : decode cX9_in 14 = .ok (.iconst 0, 1) := by decide +kernel
theorem dX9_in_15 : decode cX9_in 15 = .ok (.ireturn, 1) := by decide +kernel
set_option maxRecDepth 20000 in
theorem ggX9_isWriter_X9_in : GoodIn wsX9_isWriter wsX9_in := goodIn_r _ [4] (by decide +kernel) (by decide +kernel)
set_option maxRecDepth 20000 in
theorem gX9_isWriter_X9_in : GoodIn wsX9_isWriter (va_wsS RX9 93 yX9_in wsX9_in) := goodIn_app (goodIn_of _ (by decide +kernel)) ggX9_isWriter_X9_in
theorem dX9_isWriter_0 : decode cX9_isWriter 0 = .ok (.iload_n 0, 1) := by decide +kernel
theorem dX9_isWriter_1 : decode cX9_isWriter 1 = .ok (.iconst 0, 1) := by decide +kernel
theorem dX9_isWriter_2 : decode cX9_isWriter 2 = .ok (.iconst 5, 1) := by decide +kernel
theorem dX9_isWriter_3 : decode cX9_isWriter 3 = .ok (.invokestatic 93, 3) := by decide +kernel
theorem dX9_isWriter_6 : decode cX9_isWriter 6 = .ok (.ireturn, 1) := by decide +kernel
set_option maxRecDepth 20000 in
theorem ggX9_isReviewer_X9_in : GoodIn wsX9_isReviewer wsX9_in := goodIn_r _ [4] (by decide +kernel) (by decide +kernel)
set_option maxRecDepth 20000 in
theorem gX9_isReviewer_X9_in : GoodIn wsX9_isReviewer (va_wsS RX9 93 yX9_in wsX9_in) := goodIn_app (goodIn_of _ (by decide +kernel)) ggX9_isReviewer_X9_in
theorem dX9_isReviewer_0 : decode cX9_isReviewer 0 = .ok (.iload_n 0, 1) := by decide +kernel
theorem dX9_isReviewer_1 : decode cX9_isReviewer 1 = .ok (.iconst 0, 1) := by decide +kernel
theorem dX9_isReviewer_2 : decode cX9_isReviewer 2 = .ok (.iconst 3, 1) := by decide +kernel
theorem dX9_isReviewer_3 : decode cX9_isReviewer 3 = .ok (.invokestatic 93, 3) := by decide +kernel
theorem dX9_isReviewer_6 : decode cX9_isReviewer 6 = .ok (.ireturn, 1) := by decide +kernel
set_option maxRecDepth 20000 in
theorem ggX9_isWord_X9_in : GoodIn wsX9_isWord wsX9_in := goodIn_r _ [5] (by decide +kernel) (by decide +kernel)
set_option maxRecDepth 20000 in
theorem gX9_isWord_X9_in : GoodIn wsX9_isWord (va_wsS RX9 93 yX9_in wsX9_in) := goodIn_app (goodIn_of _ (by decide +kernel)) ggX9_isWord_X9_in
theorem dX9_isWord_0 : decode cX9_isWord 0 = .ok (.iload_n 1, 1) := by decide +kernel
theorem dX9_isWord_1 : decode cX9_isWord 1 = .ok (.iconst 0, 1) := by decide +kernel
theorem dX9_isWord_2 : decode cX9_isWord 2 = .ok (.aload_n 0, 1) := by decide +kernel
theorem dX9_isWord_3 : decode cX9_isWord 3 = .ok (.getfield 97, 3) := by decide +kernel
theorem dX9_isWord_6 : decode cX9_isWord 6 = .ok (.iconst 1, 1) := by decide +kernel
theorem dX9_isWord_7 : decode cX9_isWord 7 = .ok (.isub, 1) := by decide +kernel
theorem dX9_isWord_8 : decode cX9_isWord 8 = .ok (.invokestatic 93, 3) := by decide +kernel
theorem dX9_isWord_11 : decode cX9_isWord 11 = .ok (.ireturn, 1) := by decide +kernel
set_option maxRecDepth 20000 in
theorem ggX9_isReview_X9_in : GoodIn wsX9_isReview wsX9_in := goodIn_r _ [5] (by decide +kernel) (by decide +kernel)
set_option maxRecDepth 20000 in
theorem gX9_isReview_X9_in : GoodIn wsX9_isReview (va_wsS RX9 93 yX9_in wsX9_in) := goodIn_app (goodIn_of _ (by decide +kernel)) ggX9_isReview_X9_in
theorem dX9_isReview_0 : decode cX9_isReview 0 = .ok (.iload_n 1, 1) := by decide +kernel
theorem dX9_isReview_1 : decode cX9_isReview 1 = .ok (.iconst 0, 1) := by decide +kernel
theorem dX9_isReview_2 : decode cX9_isReview 2 = .ok (.aload_n 0, 1) := by decide +kernel
theorem dX9_isReview_3 : decode cX9_isReview 3 = .ok (.getfield 100, 3) := by decide +kernel
theorem dX9_isReview_6 : decode cX9_isReview 6 = .ok (.iconst 1, 1) := by decide +kernel
theorem dX9_isReview_7 : decode cX9_isReview 7 = .ok (.isub, 1) := by decide +kernel
theorem dX9_isReview_8 : decode cX9_isReview 8 = .ok (.invokestatic 93, 3) := by decide +kernel
theorem dX9_isReview_11 : decode cX9_isReview 11 = .ok (.ireturn, 1) := by decide +kernel
set_option maxRecDepth 20000 in
theorem ggX9_isCopyPlace_X9_isWriter : GoodIn wsX9_isCopyPlace wsX9_isWriter := goodIn_r _ [5, 6, 7, 4, 8] (by decide +kernel) (by decide +kernel)
set_option maxRecDepth 20000 in
theorem gX9_isCopyPlace_X9_isWriter : GoodIn wsX9_isCopyPlace (va_wsS RX9 103 yX9_isWriter wsX9_isWriter) := goodIn_app (goodIn_of _ (by decide +kernel)) ggX9_isCopyPlace_X9_isWriter
set_option maxRecDepth 20000 in
theorem ggX9_isCopyPlace_X9_in : GoodIn wsX9_isCopyPlace wsX9_in := goodIn_r _ [8] (by decide +kernel) (by decide +kernel)
set_option maxRecDepth 20000 in
theorem gX9_isCopyPlace_X9_in : GoodIn wsX9_isCopyPlace (va_wsS RX9 93 yX9_in wsX9_in) := goodIn_app (goodIn_of _ (by decide +kernel)) ggX9_isCopyPlace_X9_in
theorem dX9_isCopyPlace_0 : decode cX9_isCopyPlace 0 = .ok (.iload_n 1, 1) := by decide +kernel
theorem dX9_isCopyPlace_1 : decode cX9_isCopyPlace 1 = .ok (.invokestatic 103, 3) := by decide +kernel
theorem dX9_isCopyPlace_4 : decode cX9_isCopyPlace 4 = .ok (.ifCond .eq 23, 3) := by decide +kernel
theorem dX9_isCopyPlace_7 : decode cX9_isCopyPlace 7 = .ok (.iload_n 2, 1) := by decide +kernel
theorem dX9_isCopyPlace_8 : decode cX9_isCopyPlace 8 = .ok (.iconst 0, 1) := by decide +kernel
theorem dX9_isCopyPlace_9 : decode cX9_isCopyPlace 9 = .ok (.aload_n 0, 1) := by decide +kernel
theorem dX9_isCopyPlace_10 : decode cX9_isCopyPlace 10 = .ok (.getfield 32, 3) := by decide +kernel
theorem dX9_isCopyPlace_13 : decode cX9_isCopyPlace 13 = .ok (.iload_n 1, 1) := by decide +kernel
theorem dX9_isCopyPlace_14 : decode cX9_isCopyPlace 14 = .ok (.iaload, 1) := by decide +kernel
theorem dX9_isCopyPlace_15 : decode cX9_isCopyPlace 15 = .ok (.iconst 1, 1) := by decide +kernel
theorem dX9_isCopyPlace_16 : decode cX9_isCopyPlace 16 = .ok (.isub, 1) := by decide +kernel
theorem dX9_isCopyPlace_17 : decode cX9_isCopyPlace 17 = .ok (.invokestatic 93, 3) := by decide +kernel
theorem dX9_isCopyPlace_20 : decode cX9_isCopyPlace 20 = .ok (.ifCond .eq 7, 3) := by decide +kernel
theorem dX9_isCopyPlace_23 : decode cX9_isCopyPlace 23 = .ok (.iconst 1, 1) := by decide +kernel
theorem dX9_isCopyPlace_24 : decode cX9_isCopyPlace 24 = .ok (.goto 4, 3) := by decide +kernel
theorem dX9_isCopyPlace_27 : decode cX9_isCopyPlace 27 = .ok (.iconst 0, 1) := by decide +kernel
theorem dX9_isCopyPlace_28 : decode cX9_isCopyPlace 28 = .ok (.ireturn, 1) := by decide +kernel
theorem dX9_addChange_0 : decode cX9_addChange 0 = .ok (.aload_n 0, 1) := by decide +kernel
theorem dX9_addChange_1 : decode cX9_addChange 1 = .ok (.getfield 41, 3) := by decide +kernel
theorem dX9_addChange_4 : decode cX9_addChange 4 = .ok (.sipush 700, 3) := by decide +kernel
theorem dX9_addChange_7 : decode cX9_addChange 7 = .ok (.iload_n 1, 1) := by decide +kernel
theorem dX9_addChange_8 : decode cX9_addChange 8 = .ok (.imul, 1) := by decide +kernel
theorem dX9_addChange_9 : decode cX9_addChange 9 = .ok (.aload_n 0, 1) := by decide +kernel
theorem dX9_addChange_10 : decode cX9_addChange 10 = .ok (.getfield 38, 3) := by decide +kernel
theorem dX9_addChange_13 : decode cX9_addChange 13 = .ok (.iload_n 1, 1) := by decide +kernel
theorem dX9_addChange_14 : decode cX9_addChange 14 = .ok (.iaload, 1) := by decide +kernel
theorem dX9_addChange_15 : decode cX9_addChange 15 = .ok (.iadd, 1) := by decide +kernel
theorem dX9_addChange_16 : decode cX9_addChange 16 = .ok (.iload_n 2, 1) := by decide +kernel
theorem dX9_addChange_17 : decode cX9_addChange 17 = .ok (.iastore, 1) := by decide +kernel
theorem dX9_addChange_18 : decode cX9_addChange 18 = .ok (.aload_n 0, 1) := by decide +kernel
theorem dX9_addChange_19 : decode cX9_addChange 19 = .ok (.getfield 38, 3) := by decide +kernel
theorem dX9_addChange_22 : decode cX9_addChange 22 = .ok (.iload_n 1, 1) := by decide +kernel
theorem dX9_addChange_23 : decode cX9_addChange 23 = .ok (.dup2, 1) := by decide +kernel
theorem dX9_addChange_24 : decode cX9_addChange 24 = .ok (.iaload, 1) := by decide +kernel
theorem dX9_addChange_25 : decode cX9_addChange 25 = .ok (.iconst 1, 1) := by decide +kernel
theorem dX9_addChange_26 : decode cX9_addChange 26 = .ok (.iadd, 1) := by decide +kernel
theorem dX9_addChange_27 : decode cX9_addChange 27 = .ok (.iastore, 1) := by decide +kernel
theorem dX9_addChange_28 : decode cX9_addChange 28 = .ok (.return_, 1) := by decide +kernel
set_option maxRecDepth 20000 in
theorem ggX9_type_X9_isWriter : GoodIn wsX9_type wsX9_isWriter := goodIn_r _ [11, 12, 13, 10, 14] (by decide +kernel) (by decide +kernel)
set_option maxRecDepth 20000 in
theorem gX9_type_X9_isWriter : GoodIn wsX9_type (va_wsS RX9 103 yX9_isWriter wsX9_isWriter) := goodIn_app (goodIn_of _ (by decide +kernel)) ggX9_type_X9_isWriter
set_option maxRecDepth 20000 in
theorem ggX9_type_X9_in : GoodIn wsX9_type wsX9_in := goodIn_r _ [14] (by decide +kernel) (by decide +kernel)
set_option maxRecDepth 20000 in
theorem gX9_type_X9_in : GoodIn wsX9_type (va_wsS RX9 93 yX9_in wsX9_in) := goodIn_app (goodIn_of _ (by decide +kernel)) ggX9_type_X9_in
set_option maxRecDepth 20000 in
theorem ggX9_type_X9_goesWell : GoodIn wsX9_type wsX9_goesWell := goodIn_r _ [18, 19, 26, 27, 28, 29, 30, 31, 32, 33, 34, 35, 36, 37, 38, 39, 40, 41, 42, 43, 44, 45, 46, 47, 48, 49, 50, 51, 52, 53, 54, 55, 56, 57, 58, 59, 60] (by decide +kernel) (by decide +kernel)
set_option maxRecDepth 20000 in
theorem gX9_type_X9_goesWell : GoodIn wsX9_type (wsV RX9 107 RX9 yX9_goesWell wsX9_goesWell) := goodIn_app (goodIn_of _ (by decide +kernel)) ggX9_type_X9_goesWell
set_option maxRecDepth 20000 in
theorem ggX9_type_X9_addChange : GoodIn wsX9_type wsX9_addChange := goodIn_r _ [23, 24, 25, 26, 27, 28, 29, 30, 31, 32, 33, 34, 35, 36, 37, 38, 39, 40, 41, 42, 43, 44, 45, 46, 47, 48, 49, 50, 51, 52, 53, 54, 55, 56, 57, 58, 59, 60] (by decide +kernel) (by decide +kernel)
set_option maxRecDepth 20000 in
theorem gX9_type_X9_addChange : GoodIn wsX9_type (wsV RX9 110 RX9 yX9_addChange wsX9_addChange) := goodIn_app (goodIn_of _ (by decide +kernel)) ggX9_type_X9_addChange
theorem dX9_type_0 : decode cX9_type 0 = .ok (.iload_n 1, 1) := by decide +kernel
theorem dX9_type_1 : decode cX9_type 1 = .ok (.invokestatic 103, 3) := by decide +kernel
theorem dX9_type_4 : decode cX9_type 4 = .ok (.ifCond .eq 32, 3) := by decide +kernel
theorem dX9_type_7 : decode cX9_type 7 = .ok (.iload_n 2, 1) := by decide +kernel
theorem dX9_type_8 : decode cX9_type 8 = .ok (.iconst 0, 1) := by decide +kernel
theorem dX9_type_9 : decode cX9_type 9 = .ok (.aload_n 0, 1) := by decide +kernel
theorem dX9_type_10 : decode cX9_type 10 = .ok (.getfield 32, 3) := by decide +kernel
theorem dX9_type_13 : decode cX9_type 13 = .ok (.iload_n 1, 1) := by decide +kernel
theorem dX9_type_14 : decode cX9_type 14 = .ok (.invokestatic 103, 3) := by decide +kernel
theorem dX9_type_17 : decode cX9_type 17 = .ok (.ifCond .eq 7, 3) := by decide +kernel
theorem dX9_type_20 : decode cX9_type 20 = .ok (.iload_n 1, 1) := by decide +kernel
theorem dX9_type_21 : decode cX9_type 21 = .ok (.goto 4, 3) := by decide +kernel
theorem dX9_type_24 : decode cX9_type 24 = .ok (.iconst 0, 1) := by decide +kernel
theorem dX9_type_25 : decode cX9_type 25 = .ok (.iaload, 1) := by decide +kernel
theorem dX9_type_26 : decode cX9_type 26 = .ok (.invokestatic 93, 3) := by decide +kernel
theorem dX9_type_29 : decode cX9_type 29 = .ok (.ifCond .eq 7, 3) := by decide +kernel
theorem dX9_type_32 : decode cX9_type 32 = .ok (.iconst 1, 1) := by decide +kernel
theorem dX9_type_33 : decode cX9_type 33 = .ok (.goto 4, 3) := by decide +kernel
theorem dX9_type_36 : decode cX9_type 36 = .ok (.iconst 0, 1) := by decide +kernel
theorem dX9_type_37 : decode cX9_type 37 = .ok (.istore 4, 2) := by decide +kernel
theorem dX9_type_39 : decode cX9_type 39 = .ok (.aload_n 0, 1) := by decide +kernel
theorem dX9_type_40 : decode cX9_type 40 = .ok (.iload 4, 2) := by decide +kernel
theorem dX9_type_42 : decode cX9_type 42 = .ok (.ifCond .ne 7, 3) := by decide +kernel
theorem dX9_type_45 : decode cX9_type 45 = .ok (.iconst 1, 1) := by decide +kernel
theorem dX9_type_46 : decode cX9_type 46 = .ok (.goto 33, 3) := by decide +kernel
theorem dX9_type_49 : decode cX9_type 49 = .ok (.iload_n 3, 1) := by decide +kernel
theorem dX9_type_50 : decode cX9_type 50 = .ok (.iconst 0, 1) := by decide +kernel
theorem dX9_type_51 : decode cX9_type 51 = .ok (.sipush 999, 3) := by decide +kernel
theorem dX9_type_54 : decode cX9_type 54 = .ok (.invokestatic 93, 3) := by decide +kernel
theorem dX9_type_57 : decode cX9_type 57 = .ok (.ifCond .ne 7, 3) := by decide +kernel
theorem dX9_type_60 : decode cX9_type 60 = .ok (.iconst 2, 1) := by decide +kernel
theorem dX9_type_61 : decode cX9_type 61 = .ok (.goto 18, 3) := by decide +kernel
theorem dX9_type_64 : decode cX9_type 64 = .ok (.aload_n 0, 1) := by decide +kernel
theorem dX9_type_65 : decode cX9_type 65 = .ok (.getfield 97, 3) := by decide +kernel
theorem dX9_type_68 : decode cX9_type 68 = .ok (.sipush 300, 3) := by decide +kernel
theorem dX9_type_71 : decode cX9_type 71 = .ok (.if_icmp .ne 7, 3) := by decide +kernel
theorem dX9_type_74 : decode cX9_type 74 = .ok (.iconst 3, 1) := by decide +kernel
theorem dX9_type_75 : decode cX9_type 75 = .ok (.goto 4, 3) := by decide +kernel
theorem dX9_type_78 : decode cX9_type 78 = .ok (.iconst 0, 1) := by decide +kernel
theorem dX9_type_79 : decode cX9_type 79 = .ok (.invokevirtual 107, 3) := by decide +kernel
theorem dX9_type_82 : decode cX9_type 82 = .ok (.ifCond .ne 5, 3) := by decide +kernel
theorem dX9_type_85 : decode cX9_type 85 = .ok (.iconst 0, 1) := by decide +kernel
theorem dX9_type_86 : decode cX9_type 86 = .ok (.ireturn, 1) := by decide +kernel
theorem dX9_type_87 : decode cX9_type 87 = .ok (.aload_n 0, 1) := by decide +kernel
theorem dX9_type_88 : decode cX9_type 88 = .ok (.getfield 7, 3) := by decide +kernel
theorem dX9_type_91 : decode cX9_type 91 = .ok (.aload_n 0, 1) := by decide +kernel
theorem dX9_type_92 : decode cX9_type 92 = .ok (.getfield 97, 3) := by decide +kernel
theorem dX9_type_95 : decode cX9_type 95 = .ok (.iload_n 3, 1) := by decide +kernel
theorem dX9_type_96 : decode cX9_type 96 = .ok (.iastore, 1) := by decide +kernel
theorem dX9_type_97 : decode cX9_type 97 = .ok (.aload_n 0, 1) := by decide +kernel
theorem dX9_type_98 : decode cX9_type 98 = .ok (.getfield 13, 3) := by decide +kernel
theorem dX9_type_101 : decode cX9_type 101 = .ok (.aload_n 0, 1) := by decide +kernel
theorem dX9_type_102 : decode cX9_type 102 = .ok (.getfield 97, 3) := by decide +kernel
theorem dX9_type_105 : decode cX9_type 105 = .ok (.iload_n 1, 1) := by decide +kernel
theorem dX9_type_106 : decode cX9_type 106 = .ok (.iastore, 1) := by decide +kernel
theorem dX9_type_107 : decode cX9_type 107 = .ok (.aload_n 0, 1) := by decide +kernel
theorem dX9_type_108 : decode cX9_type 108 = .ok (.getfield 26, 3) := by decide +kernel
theorem dX9_type_111 : decode cX9_type 111 = .ok (.aload_n 0, 1) := by decide +kernel
theorem dX9_type_112 : decode cX9_type 112 = .ok (.getfield 97, 3) := by decide +kernel
theorem dX9_type_115 : decode cX9_type 115 = .ok (.iconst (-1), 1) := by decide +kernel
theorem dX9_type_116 : decode cX9_type 116 = .ok (.iastore, 1) := by decide +kernel
theorem dX9_type_117 : decode cX9_type 117 = .ok (.aload_n 0, 1) := by decide +kernel
theorem dX9_type_118 : decode cX9_type 118 = .ok (.getfield 16, 3) := by decide +kernel
theorem dX9_type_121 : decode cX9_type 121 = .ok (.aload_n 0, 1) := by decide +kernel
theorem dX9_type_122 : decode cX9_type 122 = .ok (.getfield 97, 3) := by decide +kernel
theorem dX9_type_125 : decode cX9_type 125 = .ok (.iload_n 2, 1) := by decide +kernel
theorem dX9_type_126 : decode cX9_type 126 = .ok (.ifCond .ne 7, 3) := by decide +kernel
theorem dX9_type_129 : decode cX9_type 129 = .ok (.iconst (-1), 1) := by decide +kernel
theorem dX9_type_130 : decode cX9_type 130 = .ok (.goto 17, 3) := by decide +kernel
theorem dX9_type_133 : decode cX9_type 133 = .ok (.aload_n 0, 1) := by decide +kernel
theorem dX9_type_134 : decode cX9_type 134 = .ok (.getfield 35, 3) := by decide +kernel
theorem dX9_type_137 : decode cX9_type 137 = .ok (.sipush 300, 3) := by decide +kernel
theorem dX9_type_140 : decode cX9_type 140 = .ok (.iload_n 1, 1) := by decide +kernel
theorem dX9_type_141 : decode cX9_type 141 = .ok (.imul, 1) := by decide +kernel
theorem dX9_type_142 : decode cX9_type 142 = .ok (.iload_n 2, 1) := by decide +kernel
theorem dX9_type_143 : decode cX9_type 143 = .ok (.iadd, 1) := by decide +kernel
theorem dX9_type_144 : decode cX9_type 144 = .ok (.iconst 1, 1) := by decide +kernel
theorem dX9_type_145 : decode cX9_type 145 = .ok (.isub, 1) := by decide +kernel
theorem dX9_type_146 : decode cX9_type 146 = .ok (.iaload, 1) := by decide +kernel
theorem dX9_type_147 : decode cX9_type 147 = .ok (.iastore, 1) := by decide +kernel
theorem dX9_type_148 : decode cX9_type 148 = .ok (.aload_n 0, 1) := by decide +kernel
theorem dX9_type_149 : decode cX9_type 149 = .ok (.getfield 32, 3) := by decide +kernel
theorem dX9_type_152 : decode cX9_type 152 = .ok (.iload_n 1, 1) := by decide +kernel
theorem dX9_type_153 : decode cX9_type 153 = .ok (.iaload, 1) := by decide +kernel
theorem dX9_type_154 : decode cX9_type 154 = .ok (.istore 5, 2) := by decide +kernel
theorem dX9_type_156 : decode cX9_type 156 = .ok (.iload 5, 2) := by decide +kernel
theorem dX9_type_158 : decode cX9_type 158 = .ok (.iload_n 2, 1) := by decide +kernel
theorem dX9_type_159 : decode cX9_type 159 = .ok (.if_icmp .le 37, 3) := by decide +kernel
theorem dX9_type_162 : decode cX9_type 162 = .ok (.aload_n 0, 1) := by decide +kernel
theorem dX9_type_163 : decode cX9_type 163 = .ok (.getfield 35, 3) := by decide +kernel
theorem dX9_type_166 : decode cX9_type 166 = .ok (.sipush 300, 3) := by decide +kernel
theorem dX9_type_169 : decode cX9_type 169 = .ok (.iload_n 1, 1) := by decide +kernel
theorem dX9_type_170 : decode cX9_type 170 = .ok (.imul, 1) := by decide +kernel
theorem dX9_type_171 : decode cX9_type 171 = .ok (.iload 5, 2) := by decide +kernel
theorem dX9_type_173 : decode cX9_type 173 = .ok (.iadd, 1) := by decide +kernel
theorem dX9_type_174 : decode cX9_type 174 = .ok (.aload_n 0, 1) := by decide +kernel
theorem dX9_type_175 : decode cX9_type 175 = .ok (.getfield 35, 3) := by decide +kernel
theorem dX9_type_178 : decode cX9_type 178 = .ok (.sipush 300, 3) := by decide +kernel
theorem dX9_type_181 : decode cX9_type 181 = .ok (.iload_n 1, 1) := by decide +kernel
theorem dX9_type_182 : decode cX9_type 182 = .ok (.imul, 1) := by decide +kernel
theorem dX9_type_183 : decode cX9_type 183 = .ok (.iload 5, 2) := by decide +kernel
theorem dX9_type_185 : decode cX9_type 185 = .ok (.iadd, 1) := by decide +kernel
theorem dX9_type_186 : decode cX9_type 186 = .ok (.iconst 1, 1) := by decide +kernel
theorem dX9_type_187 : decode cX9_type 187 = .ok (.isub, 1) := by decide +kernel
theorem dX9_type_188 : decode cX9_type 188 = .ok (.iaload, 1) := by decide +kernel
theorem dX9_type_189 : decode cX9_type 189 = .ok (.iastore, 1) := by decide +kernel
theorem dX9_type_190 : decode cX9_type 190 = .ok (.iinc 5 (-1), 3) := by decide +kernel
theorem dX9_type_193 : decode cX9_type 193 = .ok (.goto (-37), 3) := by decide +kernel
theorem dX9_type_196 : decode cX9_type 196 = .ok (.aload_n 0, 1) := by decide +kernel
theorem dX9_type_197 : decode cX9_type 197 = .ok (.getfield 35, 3) := by decide +kernel
theorem dX9_type_200 : decode cX9_type 200 = .ok (.sipush 300, 3) := by decide +kernel
theorem dX9_type_203 : decode cX9_type 203 = .ok (.iload_n 1, 1) := by decide +kernel
theorem dX9_type_204 : decode cX9_type 204 = .ok (.imul, 1) := by decide +kernel
theorem dX9_type_205 : decode cX9_type 205 = .ok (.iload_n 2, 1) := by decide +kernel
theorem dX9_type_206 : decode cX9_type 206 = .ok (.iadd, 1) := by decide +kernel
theorem dX9_type_207 : decode cX9_type 207 = .ok (.aload_n 0, 1) := by decide +kernel
theorem dX9_type_208 : decode cX9_type 208 = .ok (.getfield 97, 3) := by decide +kernel
theorem dX9_type_211 : decode cX9_type 211 = .ok (.iastore, 1) := by decide +kernel
theorem dX9_type_212 : decode cX9_type 212 = .ok (.aload_n 0, 1) := by decide +kernel
theorem dX9_type_213 : decode cX9_type 213 = .ok (.getfield 32, 3) := by decide +kernel
theorem dX9_type_216 : decode cX9_type 216 = .ok (.iload_n 1, 1) := by decide +kernel
theorem dX9_type_217 : decode cX9_type 217 = .ok (.dup2, 1) := by decide +kernel
theorem dX9_type_218 : decode cX9_type 218 = .ok (.iaload, 1) := by decide +kernel
theorem dX9_type_219 : decode cX9_type 219 = .ok (.iconst 1, 1) := by decide +kernel
theorem dX9_type_220 : decode cX9_type 220 = .ok (.iadd, 1) := by decide +kernel
theorem dX9_type_221 : decode cX9_type 221 = .ok (.iastore, 1) := by decide +kernel
theorem dX9_type_222 : decode cX9_type 222 = .ok (.aload_n 0, 1) := by decide +kernel
theorem dX9_type_223 : decode cX9_type 223 = .ok (.dup, 1) := by decide +kernel
theorem dX9_type_224 : decode cX9_type 224 = .ok (.getfield 97, 3) := by decide +kernel
theorem dX9_type_227 : decode cX9_type 227 = .ok (.iconst 1, 1) := by decide +kernel
theorem dX9_type_228 : decode cX9_type 228 = .ok (.iadd, 1) := by decide +kernel
theorem dX9_type_229 : decode cX9_type 229 = .ok (.putfield 97, 3) := by decide +kernel
theorem dX9_type_232 : decode cX9_type 232 = .ok (.aload_n 0, 1) := by decide +kernel
theorem dX9_type_233 : decode cX9_type 233 = .ok (.iload_n 1, 1) := by decide +kernel
theorem dX9_type_234 : decode cX9_type 234 = .ok (.aload_n 0, 1) := by decide +kernel
theorem dX9_type_235 : decode cX9_type 235 = .ok (.getfield 97, 3) := by decide +kernel
theorem dX9_type_238 : decode cX9_type 238 = .ok (.invokevirtual 110, 3) := by decide +kernel
theorem dX9_type_241 : decode cX9_type 241 = .ok (.aload_n 0, 1) := by decide +kernel
theorem dX9_type_242 : decode cX9_type 242 = .ok (.getfield 97, 3) := by decide +kernel
theorem dX9_type_245 : decode cX9_type 245 = .ok (.iconst 1, 1) := by decide +kernel
theorem dX9_type_246 : decode cX9_type 246 = .ok (.isub, 1) := by decide +kernel
theorem dX9_type_247 : decode cX9_type 247 = .ok (.ireturn, 1) := by decide +kernel
set_option maxRecDepth 20000 in
theorem ggX9_delete_X9_isCopyPlace : GoodIn wsX9_delete wsX9_isCopyPlace := goodIn_r _ [7, 2, 8, 9, 6, 10, 11, 12, 13, 25, 26, 27, 28, 29, 30, 31, 32, 33, 34, 35, 36, 37, 38, 39, 40, 41, 42, 43, 44, 45, 46, 47, 48, 49, 50, 51, 52, 53, 54, 55, 56, 57, 58, 59] (by decide +kernel) (by decide +kernel)
set_option maxRecDepth 20000 in
theorem gX9_delete_X9_isCopyPlace : GoodIn wsX9_delete (wsV RX9 114 RX9 yX9_isCopyPlace wsX9_isCopyPlace) := goodIn_app (goodIn_of _ (by decide +kernel)) ggX9_delete_X9_isCopyPlace
set_option maxRecDepth 20000 in
theorem ggX9_delete_X9_goesWell : GoodIn wsX9_delete wsX9_goesWell := goodIn_r _ [17, 18, 25, 26, 27, 28, 29, 30, 31, 32, 33, 34, 35, 36, 37, 38, 39, 40, 41, 42, 43, 44, 45, 46, 47, 48, 49, 50, 51, 52, 53, 54, 55, 56, 57, 58, 59] (by decide +kernel) (by decide +kernel)
set_option maxRecDepth 20000 in
theorem gX9_delete_X9_goesWell : GoodIn wsX9_delete (wsV RX9 107 RX9 yX9_goesWell wsX9_goesWell) := goodIn_app (goodIn_of _ (by decide +kernel)) ggX9_delete_X9_goesWell
set_option maxRecDepth 20000 in
theorem ggX9_delete_X9_addChange : GoodIn wsX9_delete wsX9_addChange := goodIn_r _ [22, 23, 24, 25, 26, 27, 28, 29, 30, 31, 32, 33, 34, 35, 36, 37, 38, 39, 40, 41, 42, 43, 44, 45, 46, 47, 48, 49, 50, 51, 52, 53, 54, 55, 56, 57, 58, 59] (by decide +kernel) (by decide +kernel)
set_option maxRecDepth 20000 in
theorem gX9_delete_X9_addChange : GoodIn wsX9_delete (wsV RX9 110 RX9 yX9_addChange wsX9_addChange) := goodIn_app (goodIn_of _ (by decide +kernel)) ggX9_delete_X9_addChange
theorem dX9_delete_0 : decode cX9_delete 0 = .ok (.aload_n 0, 1) := by decide +kernel
theorem dX9_delete_1 : decode cX9_delete 1 = .ok (.aload_n 0, 1) := by decide +kernel
theorem dX9_delete_2 : decode cX9_delete 2 = .ok (.iload_n 1, 1) := by decide +kernel
theorem dX9_delete_3 : decode cX9_delete 3 = .ok (.iload_n 2, 1) := by decide +kernel
theorem dX9_delete_4 : decode cX9_delete 4 = .ok (.invokevirtual 114, 3) := by decide +kernel
theorem dX9_delete_7 : decode cX9_delete 7 = .ok (.ifCond .eq 7, 3) := by decide +kernel
theorem dX9_delete_10 : decode cX9_delete 10 = .ok (.iconst 0, 1) := by decide +kernel
theorem dX9_delete_11 : decode cX9_delete 11 = .ok (.goto 4, 3) := by decide +kernel
theorem dX9_delete_14 : decode cX9_delete 14 = .ok (.iconst 1, 1) := by decide +kernel
theorem dX9_delete_15 : decode cX9_delete 15 = .ok (.invokevirtual 107, 3) := by decide +kernel
theorem dX9_delete_18 : decode cX9_delete 18 = .ok (.ifCond .ne 5, 3) := by decide +kernel
theorem dX9_delete_21 : decode cX9_delete 21 = .ok (.iconst 0, 1) := by decide +kernel
theorem dX9_delete_22 : decode cX9_delete 22 = .ok (.ireturn, 1) := by decide +kernel
theorem dX9_delete_23 : decode cX9_delete 23 = .ok (.aload_n 0, 1) := by decide +kernel
theorem dX9_delete_24 : decode cX9_delete 24 = .ok (.getfield 35, 3) := by decide +kernel
theorem dX9_delete_27 : decode cX9_delete 27 = .ok (.sipush 300, 3) := by decide +kernel
theorem dX9_delete_30 : decode cX9_delete 30 = .ok (.iload_n 1, 1) := by decide +kernel
theorem dX9_delete_31 : decode cX9_delete 31 = .ok (.imul, 1) := by decide +kernel
theorem dX9_delete_32 : decode cX9_delete 32 = .ok (.iload_n 2, 1) := by decide +kernel
theorem dX9_delete_33 : decode cX9_delete 33 = .ok (.iadd, 1) := by decide +kernel
theorem dX9_delete_34 : decode cX9_delete 34 = .ok (.iaload, 1) := by decide +kernel
theorem dX9_delete_35 : decode cX9_delete 35 = .ok (.istore_n 3, 1) := by decide +kernel
theorem dX9_delete_36 : decode cX9_delete 36 = .ok (.aload_n 0, 1) := by decide +kernel
theorem dX9_delete_37 : decode cX9_delete 37 = .ok (.getfield 32, 3) := by decide +kernel
theorem dX9_delete_40 : decode cX9_delete 40 = .ok (.iload_n 1, 1) := by decide +kernel
theorem dX9_delete_41 : decode cX9_delete 41 = .ok (.dup2, 1) := by decide +kernel
theorem dX9_delete_42 : decode cX9_delete 42 = .ok (.iaload, 1) := by decide +kernel
theorem dX9_delete_43 : decode cX9_delete 43 = .ok (.iconst 1, 1) := by decide +kernel
theorem dX9_delete_44 : decode cX9_delete 44 = .ok (.isub, 1) := by decide +kernel
theorem dX9_delete_45 : decode cX9_delete 45 = .ok (.iastore, 1) := by decide +kernel
theorem dX9_delete_46 : decode cX9_delete 46 = .ok (.iload_n 2, 1) := by decide +kernel
theorem dX9_delete_47 : decode cX9_delete 47 = .ok (.istore 4, 2) := by decide +kernel
theorem dX9_delete_49 : decode cX9_delete 49 = .ok (.iload 4, 2) := by decide +kernel
theorem dX9_delete_51 : decode cX9_delete 51 = .ok (.aload_n 0, 1) := by decide +kernel
theorem dX9_delete_52 : decode cX9_delete 52 = .ok (.getfield 32, 3) := by decide +kernel
theorem dX9_delete_55 : decode cX9_delete 55 = .ok (.iload_n 1, 1) := by decide +kernel
theorem dX9_delete_56 : decode cX9_delete 56 = .ok (.iaload, 1) := by decide +kernel
theorem dX9_delete_57 : decode cX9_delete 57 = .ok (.if_icmp .ge 37, 3) := by decide +kernel
theorem dX9_delete_60 : decode cX9_delete 60 = .ok (.aload_n 0, 1) := by decide +kernel
theorem dX9_delete_61 : decode cX9_delete 61 = .ok (.getfield 35, 3) := by decide +kernel
theorem dX9_delete_64 : decode cX9_delete 64 = .ok (.sipush 300, 3) := by decide +kernel
theorem dX9_delete_67 : decode cX9_delete 67 = .ok (.iload_n 1, 1) := by decide +kernel
theorem dX9_delete_68 : decode cX9_delete 68 = .ok (.imul, 1) := by decide +kernel
theorem dX9_delete_69 : decode cX9_delete 69 = .ok (.iload 4, 2) := by decide +kernel
theorem dX9_delete_71 : decode cX9_delete 71 = .ok (.iadd, 1) := by decide +kernel
theorem dX9_delete_72 : decode cX9_delete 72 = .ok (.aload_n 0, 1) := by decide +kernel
theorem dX9_delete_73 : decode cX9_delete 73 = .ok (.getfield 35, 3) := by decide +kernel
theorem dX9_delete_76 : decode cX9_delete 76 = .ok (.sipush 300, 3) := by decide +kernel
theorem dX9_delete_79 : decode cX9_delete 79 = .ok (.iload_n 1, 1) := by decide +kernel
theorem dX9_delete_80 : decode cX9_delete 80 = .ok (.imul, 1) := by decide +kernel
theorem dX9_delete_81 : decode cX9_delete 81 = .ok (.iload 4, 2) := by decide +kernel
theorem dX9_delete_83 : decode cX9_delete 83 = .ok (.iadd, 1) := by decide +kernel
theorem dX9_delete_84 : decode cX9_delete 84 = .ok (.iconst 1, 1) := by decide +kernel
theorem dX9_delete_85 : decode cX9_delete 85 = .ok (.iadd, 1) := by decide +kernel
theorem dX9_delete_86 : decode cX9_delete 86 = .ok (.iaload, 1) := by decide +kernel
theorem dX9_delete_87 : decode cX9_delete 87 = .ok (.iastore, 1) := by decide +kernel
theorem dX9_delete_88 : decode cX9_delete 88 = .ok (.iinc 4 1, 3) := by decide +kernel
theorem dX9_delete_91 : decode cX9_delete 91 = .ok (.goto (-42), 3) := by decide +kernel
theorem dX9_delete_94 : decode cX9_delete 94 = .ok (.aload_n 0, 1) := by decide +kernel
theorem dX9_delete_95 : decode cX9_delete 95 = .ok (.iload_n 1, 1) := by decide +kernel
theorem dX9_delete_96 : decode cX9_delete 96 = .ok (.iload_n 3, 1) := by decide +kernel
theorem dX9_delete_97 : decode cX9_delete 97 = .ok (.ineg, 1) := by decide +kernel
theorem dX9_delete_98 : decode cX9_delete 98 = .ok (.iconst 1, 1) := by decide +kernel
theorem dX9_delete_99 : decode cX9_delete 99 = .ok (.isub, 1) := by decide +kernel
theorem dX9_delete_100 : decode cX9_delete 100 = .ok (.invokevirtual 110, 3) := by decide +kernel
theorem dX9_delete_103 : decode cX9_delete 103 = .ok (.iload_n 3, 1) := by decide +kernel
theorem dX9_delete_104 : decode cX9_delete 104 = .ok (.ireturn, 1) := by decide +kernel
theorem dX9_nearest_0 : decode cX9_nearest 0 = .ok (.iload_n 1, 1) := by decide +kernel
theorem dX9_nearest_1 : decode cX9_nearest 1 = .ok (.istore_n 3, 1) := by decide +kernel
theorem dX9_nearest_2 : decode cX9_nearest 2 = .ok (.iload_n 3, 1) := by decide +kernel
theorem dX9_nearest_3 : decode cX9_nearest 3 = .ok (.ifCond .lt 39, 3) := by decide +kernel
theorem dX9_nearest_6 : decode cX9_nearest 6 = .ok (.iload_n 3, 1) := by decide +kernel
theorem dX9_nearest_7 : decode cX9_nearest 7 = .ok (.aload_n 0, 1) := by decide +kernel
theorem dX9_nearest_8 : decode cX9_nearest 8 = .ok (.getfield 118, 3) := by decide +kernel
theorem dX9_nearest_11 : decode cX9_nearest 11 = .ok (.if_icmp .ge 31, 3) := by decide +kernel
theorem dX9_nearest_14 : decode cX9_nearest 14 = .ok (.aload_n 0, 1) := by decide +kernel
theorem dX9_nearest_15 : decode cX9_nearest 15 = .ok (.getfield 23, 3) := by decide +kernel
theorem dX9_nearest_18 : decode cX9_nearest 18 = .ok (.aload_n 0, 1) := by decide +kernel
theorem dX9_nearest_19 : decode cX9_nearest 19 = .ok (.getfield 29, 3) := by decide +kernel
theorem dX9_nearest_22 : decode cX9_nearest 22 = .ok (.iload_n 3, 1) := by decide +kernel
theorem dX9_nearest_23 : decode cX9_nearest 23 = .ok (.iaload, 1) := by decide +kernel
theorem dX9_nearest_24 : decode cX9_nearest 24 = .ok (.baload, 1) := by decide +kernel
theorem dX9_nearest_25 : decode cX9_nearest 25 = .ok (.ifCond .eq 10, 3) := by decide +kernel
theorem dX9_nearest_28 : decode cX9_nearest 28 = .ok (.aload_n 0, 1) := by decide +kernel
theorem dX9_nearest_29 : decode cX9_nearest 29 = .ok (.getfield 29, 3) := by decide +kernel
theorem dX9_nearest_32 : decode cX9_nearest 32 = .ok (.iload_n 3, 1) := by decide +kernel
theorem dX9_nearest_33 : decode cX9_nearest 33 = .ok (.iaload, 1) := by decide +kernel
theorem dX9_nearest_34 : decode cX9_nearest 34 = .ok (.ireturn, 1) := by decide +kernel
theorem dX9_nearest_35 : decode cX9_nearest 35 = .ok (.iload_n 3, 1) := by decide +kernel
theorem dX9_nearest_36 : decode cX9_nearest 36 = .ok (.iload_n 2, 1) := by decide +kernel
theorem dX9_nearest_37 : decode cX9_nearest 37 = .ok (.iadd, 1) := by decide +kernel
theorem dX9_nearest_38 : decode cX9_nearest 38 = .ok (.istore_n 3, 1) := by decide +kernel
theorem dX9_nearest_39 : decode cX9_nearest 39 = .ok (.goto (-37), 3) := by decide +kernel
theorem dX9_nearest_42 : decode cX9_nearest 42 = .ok (.iconst (-1), 1) := by decide +kernel
theorem dX9_nearest_43 : decode cX9_nearest 43 = .ok (.ireturn, 1) := by decide +kernel
theorem dX9_indexOf_0 : decode cX9_indexOf 0 = .ok (.iconst (-1), 1) := by decide +kernel
theorem dX9_indexOf_1 : decode cX9_indexOf 1 = .ok (.istore_n 2, 1) := by decide +kernel
theorem dX9_indexOf_2 : decode cX9_indexOf 2 = .ok (.iconst 0, 1) := by decide +kernel
theorem dX9_indexOf_3 : decode cX9_indexOf 3 = .ok (.istore_n 3, 1) := by decide +kernel
theorem dX9_indexOf_4 : decode cX9_indexOf 4 = .ok (.iload_n 3, 1) := by decide +kernel
theorem dX9_indexOf_5 : decode cX9_indexOf 5 = .ok (.aload_n 0, 1) := by decide +kernel
theorem dX9_indexOf_6 : decode cX9_indexOf 6 = .ok (.getfield 118, 3) := by decide +kernel
theorem dX9_indexOf_9 : decode cX9_indexOf 9 = .ok (.if_icmp .ge 25, 3) := by decide +kernel
theorem dX9_indexOf_12 : decode cX9_indexOf 12 = .ok (.aload_n 0, 1) := by decide +kernel
theorem dX9_indexOf_13 : decode cX9_indexOf 13 = .ok (.getfield 29, 3) := by decide +kernel
theorem dX9_indexOf_16 : decode cX9_indexOf 16 = .ok (.iload_n 3, 1) := by decide +kernel
theorem dX9_indexOf_17 : decode cX9_indexOf 17 = .ok (.iaload, 1) := by decide +kernel
theorem dX9_indexOf_18 : decode cX9_indexOf 18 = .ok (.iload_n 1, 1) := by decide +kernel
theorem dX9_indexOf_19 : decode cX9_indexOf 19 = .ok (.if_icmp .ne 7, 3) := by decide +kernel
theorem dX9_indexOf_22 : decode cX9_indexOf 22 = .ok (.iload_n 3, 1) := by decide +kernel
theorem dX9_indexOf_23 : decode cX9_indexOf 23 = .ok (.goto 4, 3) := by decide +kernel
theorem dX9_indexOf_26 : decode cX9_indexOf 26 = .ok (.iload_n 2, 1) := by decide +kernel
theorem dX9_indexOf_27 : decode cX9_indexOf 27 = .ok (.istore_n 2, 1) := by decide +kernel
theorem dX9_indexOf_28 : decode cX9_indexOf 28 = .ok (.iinc 3 1, 3) := by decide +kernel
theorem dX9_indexOf_31 : decode cX9_indexOf 31 = .ok (.goto (-27), 3) := by decide +kernel
theorem dX9_indexOf_34 : decode cX9_indexOf 34 = .ok (.iload_n 2, 1) := by decide +kernel
theorem dX9_indexOf_35 : decode cX9_indexOf 35 = .ok (.ireturn, 1) := by decide +kernel
set_option maxRecDepth 20000 in
theorem ggX9_comeIn_X9_indexOf : GoodIn wsX9_comeIn wsX9_indexOf := goodIn_r _ [11, 4, 5, 16, 17, 18, 19, 20, 21, 22, 23, 24, 25, 26, 27, 28, 29, 30, 31, 32, 33, 34, 35, 36, 37, 38, 39, 40, 41, 42, 43, 44, 45, 46, 47, 48, 49, 50] (by decide +kernel) (by decide +kernel)
set_option maxRecDepth 20000 in
theorem gX9_comeIn_X9_indexOf : GoodIn wsX9_comeIn (wsV RX9 121 RX9 yX9_indexOf wsX9_indexOf) := goodIn_app (goodIn_of _ (by decide +kernel)) ggX9_comeIn_X9_indexOf
set_option maxRecDepth 20000 in
theorem ggX9_comeIn_X9_nearest : GoodIn wsX9_comeIn wsX9_nearest := goodIn_r _ [15, 4, 6, 5, 16, 17, 18, 19, 20, 21, 22, 23, 24, 25, 26, 27, 28, 29, 30, 31, 32, 33, 34, 35, 36, 37, 38, 39, 40, 41, 42, 43, 44, 45, 46, 47, 48, 49, 50] (by decide +kernel) (by decide +kernel)
set_option maxRecDepth 20000 in
theorem gX9_comeIn_X9_nearest : GoodIn wsX9_comeIn (wsV RX9 125 RX9 yX9_nearest wsX9_nearest) := goodIn_app (goodIn_of _ (by decide +kernel)) ggX9_comeIn_X9_nearest
theorem dX9_comeIn_0 : decode cX9_comeIn 0 = .ok (.aload_n 0, 1) := by decide +kernel
theorem dX9_comeIn_1 : decode cX9_comeIn 1 = .ok (.getfield 16, 3) := by decide +kernel
theorem dX9_comeIn_4 : decode cX9_comeIn 4 = .ok (.iload_n 1, 1) := by decide +kernel
theorem dX9_comeIn_5 : decode cX9_comeIn 5 = .ok (.iaload, 1) := by decide +kernel
theorem dX9_comeIn_6 : decode cX9_comeIn 6 = .ok (.istore_n 2, 1) := by decide +kernel
theorem dX9_comeIn_7 : decode cX9_comeIn 7 = .ok (.iload_n 2, 1) := by decide +kernel
theorem dX9_comeIn_8 : decode cX9_comeIn 8 = .ok (.iconst (-1), 1) := by decide +kernel
theorem dX9_comeIn_9 : decode cX9_comeIn 9 = .ok (.if_icmp .eq 22, 3) := by decide +kernel
theorem dX9_comeIn_12 : decode cX9_comeIn 12 = .ok (.aload_n 0, 1) := by decide +kernel
theorem dX9_comeIn_13 : decode cX9_comeIn 13 = .ok (.getfield 19, 3) := by decide +kernel
theorem dX9_comeIn_16 : decode cX9_comeIn 16 = .ok (.iload_n 2, 1) := by decide +kernel
theorem dX9_comeIn_17 : decode cX9_comeIn 17 = .ok (.baload, 1) := by decide +kernel
theorem dX9_comeIn_18 : decode cX9_comeIn 18 = .ok (.ifCond .ne 13, 3) := by decide +kernel
theorem dX9_comeIn_21 : decode cX9_comeIn 21 = .ok (.aload_n 0, 1) := by decide +kernel
theorem dX9_comeIn_22 : decode cX9_comeIn 22 = .ok (.getfield 16, 3) := by decide +kernel
theorem dX9_comeIn_25 : decode cX9_comeIn 25 = .ok (.iload_n 2, 1) := by decide +kernel
theorem dX9_comeIn_26 : decode cX9_comeIn 26 = .ok (.iaload, 1) := by decide +kernel
theorem dX9_comeIn_27 : decode cX9_comeIn 27 = .ok (.istore_n 2, 1) := by decide +kernel
theorem dX9_comeIn_28 : decode cX9_comeIn 28 = .ok (.goto (-21), 3) := by decide +kernel
theorem dX9_comeIn_31 : decode cX9_comeIn 31 = .ok (.iload_n 2, 1) := by decide +kernel
theorem dX9_comeIn_32 : decode cX9_comeIn 32 = .ok (.iconst (-1), 1) := by decide +kernel
theorem dX9_comeIn_33 : decode cX9_comeIn 33 = .ok (.if_icmp .ne 7, 3) := by decide +kernel
theorem dX9_comeIn_36 : decode cX9_comeIn 36 = .ok (.iconst 0, 1) := by decide +kernel
theorem dX9_comeIn_37 : decode cX9_comeIn 37 = .ok (.goto 10, 3) := by decide +kernel
theorem dX9_comeIn_40 : decode cX9_comeIn 40 = .ok (.aload_n 0, 1) := by decide +kernel
theorem dX9_comeIn_41 : decode cX9_comeIn 41 = .ok (.iload_n 2, 1) := by decide +kernel
theorem dX9_comeIn_42 : decode cX9_comeIn 42 = .ok (.invokevirtual 121, 3) := by decide +kernel
theorem dX9_comeIn_45 : decode cX9_comeIn 45 = .ok (.iconst 1, 1) := by decide +kernel
theorem dX9_comeIn_46 : decode cX9_comeIn 46 = .ok (.iadd, 1) := by decide +kernel
theorem dX9_comeIn_47 : decode cX9_comeIn 47 = .ok (.istore_n 3, 1) := by decide +kernel
theorem dX9_comeIn_48 : decode cX9_comeIn 48 = .ok (.aload_n 0, 1) := by decide +kernel
theorem dX9_comeIn_49 : decode cX9_comeIn 49 = .ok (.iload_n 3, 1) := by decide +kernel
theorem dX9_comeIn_50 : decode cX9_comeIn 50 = .ok (.iconst 1, 1) := by decide +kernel
theorem dX9_comeIn_51 : decode cX9_comeIn 51 = .ok (.isub, 1) := by decide +kernel
theorem dX9_comeIn_52 : decode cX9_comeIn 52 = .ok (.iconst (-1), 1) := by decide +kernel
theorem dX9_comeIn_53 : decode cX9_comeIn 53 = .ok (.invokevirtual 125, 3) := by decide +kernel
theorem dX9_comeIn_56 : decode cX9_comeIn 56 = .ok (.istore 4, 2) := by decide +kernel
theorem dX9_comeIn_58 : decode cX9_comeIn 58 = .ok (.aload_n 0, 1) := by decide +kernel
theorem dX9_comeIn_59 : decode cX9_comeIn 59 = .ok (.iload_n 3, 1) := by decide +kernel
theorem dX9_comeIn_60 : decode cX9_comeIn 60 = .ok (.iconst 1, 1) := by decide +kernel
theorem dX9_comeIn_61 : decode cX9_comeIn 61 = .ok (.invokevirtual 125, 3) := by decide +kernel
theorem dX9_comeIn_64 : decode cX9_comeIn 64 = .ok (.istore 5, 2) := by decide +kernel
theorem dX9_comeIn_66 : decode cX9_comeIn 66 = .ok (.iload 4, 2) := by decide +kernel
theorem dX9_comeIn_68 : decode cX9_comeIn 68 = .ok (.iconst (-1), 1) := by decide +kernel
theorem dX9_comeIn_69 : decode cX9_comeIn 69 = .ok (.if_icmp .eq 39, 3) := by decide +kernel
theorem dX9_comeIn_72 : decode cX9_comeIn 72 = .ok (.iload 5, 2) := by decide +kernel
theorem dX9_comeIn_74 : decode cX9_comeIn 74 = .ok (.iconst (-1), 1) := by decide +kernel
theorem dX9_comeIn_75 : decode cX9_comeIn 75 = .ok (.if_icmp .eq 33, 3) := by decide +kernel
theorem dX9_comeIn_78 : decode cX9_comeIn 78 = .ok (.aload_n 0, 1) := by decide +kernel
theorem dX9_comeIn_79 : decode cX9_comeIn 79 = .ok (.getfield 26, 3) := by decide +kernel
theorem dX9_comeIn_82 : decode cX9_comeIn 82 = .ok (.iload 4, 2) := by decide +kernel
theorem dX9_comeIn_84 : decode cX9_comeIn 84 = .ok (.iaload, 1) := by decide +kernel
theorem dX9_comeIn_85 : decode cX9_comeIn 85 = .ok (.iconst (-1), 1) := by decide +kernel
theorem dX9_comeIn_86 : decode cX9_comeIn 86 = .ok (.if_icmp .eq 22, 3) := by decide +kernel
theorem dX9_comeIn_89 : decode cX9_comeIn 89 = .ok (.aload_n 0, 1) := by decide +kernel
theorem dX9_comeIn_90 : decode cX9_comeIn 90 = .ok (.getfield 26, 3) := by decide +kernel
theorem dX9_comeIn_93 : decode cX9_comeIn 93 = .ok (.iload 4, 2) := by decide +kernel
theorem dX9_comeIn_95 : decode cX9_comeIn 95 = .ok (.iaload, 1) := by decide +kernel
theorem dX9_comeIn_96 : decode cX9_comeIn 96 = .ok (.aload_n 0, 1) := by decide +kernel
theorem dX9_comeIn_97 : decode cX9_comeIn 97 = .ok (.getfield 26, 3) := by decide +kernel
theorem dX9_comeIn_100 : decode cX9_comeIn 100 = .ok (.iload 5, 2) := by decide +kernel
theorem dX9_comeIn_102 : decode cX9_comeIn 102 = .ok (.iaload, 1) := by decide +kernel
theorem dX9_comeIn_103 : decode cX9_comeIn 103 = .ok (.if_icmp .ne 5, 3) := by decide +kernel
theorem dX9_comeIn_106 : decode cX9_comeIn 106 = .ok (.iconst 0, 1) := by decide +kernel
theorem dX9_comeIn_107 : decode cX9_comeIn 107 = .ok (.ireturn, 1) := by decide +kernel
theorem dX9_comeIn_108 : decode cX9_comeIn 108 = .ok (.aload_n 0, 1) := by decide +kernel
theorem dX9_comeIn_109 : decode cX9_comeIn 109 = .ok (.getfield 118, 3) := by decide +kernel
theorem dX9_comeIn_112 : decode cX9_comeIn 112 = .ok (.istore 6, 2) := by decide +kernel
theorem dX9_comeIn_114 : decode cX9_comeIn 114 = .ok (.iload 6, 2) := by decide +kernel
theorem dX9_comeIn_116 : decode cX9_comeIn 116 = .ok (.iload_n 3, 1) := by decide +kernel
theorem dX9_comeIn_117 : decode cX9_comeIn 117 = .ok (.if_icmp .le 25, 3) := by decide +kernel
theorem dX9_comeIn_120 : decode cX9_comeIn 120 = .ok (.aload_n 0, 1) := by decide +kernel
theorem dX9_comeIn_121 : decode cX9_comeIn 121 = .ok (.getfield 29, 3) := by decide +kernel
theorem dX9_comeIn_124 : decode cX9_comeIn 124 = .ok (.iload 6, 2) := by decide +kernel
theorem dX9_comeIn_126 : decode cX9_comeIn 126 = .ok (.aload_n 0, 1) := by decide +kernel
theorem dX9_comeIn_127 : decode cX9_comeIn 127 = .ok (.getfield 29, 3) := by decide +kernel
theorem dX9_comeIn_130 : decode cX9_comeIn 130 = .ok (.iload 6, 2) := by decide +kernel
theorem dX9_comeIn_132 : decode cX9_comeIn 132 = .ok (.iconst 1, 1) := by decide +kernel
theorem dX9_comeIn_133 : decode cX9_comeIn 133 = .ok (.isub, 1) := by decide +kernel
theorem dX9_comeIn_134 : decode cX9_comeIn 134 = .ok (.iaload, 1) := by decide +kernel
theorem dX9_comeIn_135 : decode cX9_comeIn 135 = .ok (.iastore, 1) := by decide +kernel
theorem dX9_comeIn_136 : decode cX9_comeIn 136 = .ok (.iinc 6 (-1), 3) := by decide +kernel
theorem dX9_comeIn_139 : decode cX9_comeIn 139 = .ok (.goto (-25), 3) := by decide +kernel
theorem dX9_comeIn_142 : decode cX9_comeIn 142 = .ok (.aload_n 0, 1) := by decide +kernel
theorem dX9_comeIn_143 : decode cX9_comeIn 143 = .ok (.getfield 29, 3) := by decide +kernel
theorem dX9_comeIn_146 : decode cX9_comeIn 146 = .ok (.iload_n 3, 1) := by decide +kernel
theorem dX9_comeIn_147 : decode cX9_comeIn 147 = .ok (.iload_n 1, 1) := by decide +kernel
theorem dX9_comeIn_148 : decode cX9_comeIn 148 = .ok (.iastore, 1) := by decide +kernel
theorem dX9_comeIn_149 : decode cX9_comeIn 149 = .ok (.aload_n 0, 1) := by decide +kernel
theorem dX9_comeIn_150 : decode cX9_comeIn 150 = .ok (.dup, 1) := by decide +kernel
theorem dX9_comeIn_151 : decode cX9_comeIn 151 = .ok (.getfield 118, 3) := by decide +kernel
theorem dX9_comeIn_154 : decode cX9_comeIn 154 = .ok (.iconst 1, 1) := by decide +kernel
theorem dX9_comeIn_155 : decode cX9_comeIn 155 = .ok (.iadd, 1) := by decide +kernel
theorem dX9_comeIn_156 : decode cX9_comeIn 156 = .ok (.putfield 118, 3) := by decide +kernel
theorem dX9_comeIn_159 : decode cX9_comeIn 159 = .ok (.aload_n 0, 1) := by decide +kernel
theorem dX9_comeIn_160 : decode cX9_comeIn 160 = .ok (.getfield 19, 3) := by decide +kernel
theorem dX9_comeIn_163 : decode cX9_comeIn 163 = .ok (.iload_n 1, 1) := by decide +kernel
theorem dX9_comeIn_164 : decode cX9_comeIn 164 = .ok (.iconst 1, 1) := by decide +kernel
theorem dX9_comeIn_165 : decode cX9_comeIn 165 = .ok (.bastore, 1) := by decide +kernel
theorem dX9_comeIn_166 : decode cX9_comeIn 166 = .ok (.aload_n 0, 1) := by decide +kernel
theorem dX9_comeIn_167 : decode cX9_comeIn 167 = .ok (.getfield 23, 3) := by decide +kernel
theorem dX9_comeIn_170 : decode cX9_comeIn 170 = .ok (.iload_n 1, 1) := by decide +kernel
theorem dX9_comeIn_171 : decode cX9_comeIn 171 = .ok (.iconst 1, 1) := by decide +kernel
theorem dX9_comeIn_172 : decode cX9_comeIn 172 = .ok (.bastore, 1) := by decide +kernel
theorem dX9_comeIn_173 : decode cX9_comeIn 173 = .ok (.iconst 1, 1) := by decide +kernel
theorem dX9_comeIn_174 : decode cX9_comeIn 174 = .ok (.ireturn, 1) := by decide +kernel
theorem dX9_takeOut_0 : decode cX9_takeOut 0 = .ok (.aload_n 0, 1) := by decide +kernel
theorem dX9_takeOut_1 : decode cX9_takeOut 1 = .ok (.getfield 23, 3) := by decide +kernel
theorem dX9_takeOut_4 : decode cX9_takeOut 4 = .ok (.iload_n 1, 1) := by decide +kernel
theorem dX9_takeOut_5 : decode cX9_takeOut 5 = .ok (.baload, 1) := by decide +kernel
theorem dX9_takeOut_6 : decode cX9_takeOut 6 = .ok (.ifCond .ne 5, 3) := by decide +kernel
theorem dX9_takeOut_9 : decode cX9_takeOut 9 = .ok (.iconst 1, 1) := by decide +kernel
theorem dX9_takeOut_10 : decode cX9_takeOut 10 = .ok (.ireturn, 1) := by decide +kernel
theorem dX9_takeOut_11 : decode cX9_takeOut 11 = .ok (.aload_n 0, 1) := by decide +kernel
theorem dX9_takeOut_12 : decode cX9_takeOut 12 = .ok (.getfield 23, 3) := by decide +kernel
theorem dX9_takeOut_15 : decode cX9_takeOut 15 = .ok (.iload_n 1, 1) := by decide +kernel
theorem dX9_takeOut_16 : decode cX9_takeOut 16 = .ok (.aload_n 0, 1) := by decide +kernel
theorem dX9_takeOut_17 : decode cX9_takeOut 17 = .ok (.getfield 26, 3) := by decide +kernel
theorem dX9_takeOut_20 : decode cX9_takeOut 20 = .ok (.iload_n 1, 1) := by decide +kernel
theorem dX9_takeOut_21 : decode cX9_takeOut 21 = .ok (.iaload, 1) := by decide +kernel
theorem dX9_takeOut_22 : decode cX9_takeOut 22 = .ok (.iconst (-1), 1) := by decide +kernel
theorem dX9_takeOut_23 : decode cX9_takeOut 23 = .ok (.if_icmp .eq 7, 3) := by decide +kernel
theorem dX9_takeOut_26 : decode cX9_takeOut 26 = .ok (.iconst 1, 1) := by decide +kernel
theorem dX9_takeOut_27 : decode cX9_takeOut 27 = .ok (.goto 4, 3) := by decide +kernel
theorem dX9_takeOut_30 : decode cX9_takeOut 30 = .ok (.iconst 0, 1) := by decide +kernel
theorem dX9_takeOut_31 : decode cX9_takeOut 31 = .ok (.bastore, 1) := by decide +kernel
theorem dX9_takeOut_32 : decode cX9_takeOut 32 = .ok (.aload_n 0, 1) := by decide +kernel
theorem dX9_takeOut_33 : decode cX9_takeOut 33 = .ok (.getfield 23, 3) := by decide +kernel
theorem dX9_takeOut_36 : decode cX9_takeOut 36 = .ok (.iload_n 1, 1) := by decide +kernel
theorem dX9_takeOut_37 : decode cX9_takeOut 37 = .ok (.baload, 1) := by decide +kernel
theorem dX9_takeOut_38 : decode cX9_takeOut 38 = .ok (.ifCond .ne 7, 3) := by decide +kernel
theorem dX9_takeOut_41 : decode cX9_takeOut 41 = .ok (.iconst 1, 1) := by decide +kernel
theorem dX9_takeOut_42 : decode cX9_takeOut 42 = .ok (.goto 4, 3) := by decide +kernel
theorem dX9_takeOut_45 : decode cX9_takeOut 45 = .ok (.iconst 0, 1) := by decide +kernel
theorem dX9_takeOut_46 : decode cX9_takeOut 46 = .ok (.ireturn, 1) := by decide +kernel
set_option maxRecDepth 20000 in
theorem ggX9_merge_X9_isWriter : GoodIn wsX9_merge wsX9_isWriter := goodIn_r _ [11, 12, 13, 10, 14] (by decide +kernel) (by decide +kernel)
set_option maxRecDepth 20000 in
theorem gX9_merge_X9_isWriter : GoodIn wsX9_merge (va_wsS RX9 103 yX9_isWriter wsX9_isWriter) := goodIn_app (goodIn_of _ (by decide +kernel)) ggX9_merge_X9_isWriter
set_option maxRecDepth 20000 in
theorem ggX9_merge_X9_goesWell : GoodIn wsX9_merge wsX9_goesWell := goodIn_r _ [18, 19, 39, 40, 41, 42, 43, 44, 45, 46, 47, 48, 49, 50, 51, 52, 53, 54, 55, 56, 57, 58, 59, 60, 61, 62, 63, 64, 65, 66, 67, 68, 69, 70, 71, 72, 73] (by decide +kernel) (by decide +kernel)
set_option maxRecDepth 20000 in
theorem gX9_merge_X9_goesWell : GoodIn wsX9_merge (wsV RX9 107 RX9 yX9_goesWell wsX9_goesWell) := goodIn_app (goodIn_of _ (by decide +kernel)) ggX9_merge_X9_goesWell
set_option maxRecDepth 20000 in
theorem ggX9_merge_X9_comeIn : GoodIn wsX9_merge wsX9_comeIn := goodIn_r _ [23, 24, 25, 26, 4, 6, 5, 27, 28, 29, 10, 30, 31, 32, 33, 34, 39, 40, 41, 42, 43, 44, 45, 46, 47, 48, 49, 50, 51, 52, 53, 54, 55, 56, 57, 58, 59, 60, 61, 62, 63, 64, 65, 66, 67, 68, 69, 70, 71, 72, 73] (by decide +kernel) (by decide +kernel)
set_option maxRecDepth 20000 in
theorem gX9_merge_X9_comeIn : GoodIn wsX9_merge (wsV RX9 129 RX9 yX9_comeIn wsX9_comeIn) := goodIn_app (goodIn_of _ (by decide +kernel)) ggX9_merge_X9_comeIn
set_option maxRecDepth 20000 in
theorem ggX9_merge_X9_takeOut : GoodIn wsX9_merge wsX9_takeOut := goodIn_r _ [38, 5, 26, 39, 40, 41, 42, 43, 44, 45, 46, 47, 48, 49, 50, 51, 52, 53, 54, 55, 56, 57, 58, 59, 60, 61, 62, 63, 64, 65, 66, 67, 68, 69, 70, 71, 72, 73] (by decide +kernel) (by decide +kernel)
set_option maxRecDepth 20000 in
theorem gX9_merge_X9_takeOut : GoodIn wsX9_merge (wsV RX9 132 RX9 yX9_takeOut wsX9_takeOut) := goodIn_app (goodIn_of _ (by decide +kernel)) ggX9_merge_X9_takeOut
theorem dX9_merge_0 : decode cX9_merge 0 = .ok (.aload_n 0, 1) := by decide +kernel
theorem dX9_merge_1 : decode cX9_merge 1 = .ok (.iload_n 1, 1) := by decide +kernel
theorem dX9_merge_2 : decode cX9_merge 2 = .ok (.invokestatic 103, 3) := by decide +kernel
theorem dX9_merge_5 : decode cX9_merge 5 = .ok (.ifCond .eq 7, 3) := by decide +kernel
theorem dX9_merge_8 : decode cX9_merge 8 = .ok (.iconst 0, 1) := by decide +kernel
theorem dX9_merge_9 : decode cX9_merge 9 = .ok (.goto 4, 3) := by decide +kernel
theorem dX9_merge_12 : decode cX9_merge 12 = .ok (.iconst 1, 1) := by decide +kernel
theorem dX9_merge_13 : decode cX9_merge 13 = .ok (.invokevirtual 107, 3) := by decide +kernel
theorem dX9_merge_16 : decode cX9_merge 16 = .ok (.ifCond .ne 5, 3) := by decide +kernel
theorem dX9_merge_19 : decode cX9_merge 19 = .ok (.iconst 0, 1) := by decide +kernel
theorem dX9_merge_20 : decode cX9_merge 20 = .ok (.ireturn, 1) := by decide +kernel
theorem dX9_merge_21 : decode cX9_merge 21 = .ok (.iconst 0, 1) := by decide +kernel
theorem dX9_merge_22 : decode cX9_merge 22 = .ok (.istore_n 2, 1) := by decide +kernel
theorem dX9_merge_23 : decode cX9_merge 23 = .ok (.iconst 0, 1) := by decide +kernel
theorem dX9_merge_24 : decode cX9_merge 24 = .ok (.istore_n 3, 1) := by decide +kernel
theorem dX9_merge_25 : decode cX9_merge 25 = .ok (.iload_n 3, 1) := by decide +kernel
theorem dX9_merge_26 : decode cX9_merge 26 = .ok (.aload_n 0, 1) := by decide +kernel
theorem dX9_merge_27 : decode cX9_merge 27 = .ok (.getfield 38, 3) := by decide +kernel
theorem dX9_merge_30 : decode cX9_merge 30 = .ok (.iload_n 1, 1) := by decide +kernel
theorem dX9_merge_31 : decode cX9_merge 31 = .ok (.iaload, 1) := by decide +kernel
theorem dX9_merge_32 : decode cX9_merge 32 = .ok (.if_icmp .ge 63, 3) := by decide +kernel
theorem dX9_merge_35 : decode cX9_merge 35 = .ok (.aload_n 0, 1) := by decide +kernel
theorem dX9_merge_36 : decode cX9_merge 36 = .ok (.getfield 41, 3) := by decide +kernel
theorem dX9_merge_39 : decode cX9_merge 39 = .ok (.sipush 700, 3) := by decide +kernel
theorem dX9_merge_42 : decode cX9_merge 42 = .ok (.iload_n 1, 1) := by decide +kernel
theorem dX9_merge_43 : decode cX9_merge 43 = .ok (.imul, 1) := by decide +kernel
theorem dX9_merge_44 : decode cX9_merge 44 = .ok (.iload_n 3, 1) := by decide +kernel
theorem dX9_merge_45 : decode cX9_merge 45 = .ok (.iadd, 1) := by decide +kernel
theorem dX9_merge_46 : decode cX9_merge 46 = .ok (.iaload, 1) := by decide +kernel
theorem dX9_merge_47 : decode cX9_merge 47 = .ok (.istore 4, 2) := by decide +kernel
theorem dX9_merge_49 : decode cX9_merge 49 = .ok (.iload 4, 2) := by decide +kernel
theorem dX9_merge_51 : decode cX9_merge 51 = .ok (.ifCond .le 14, 3) := by decide +kernel
theorem dX9_merge_54 : decode cX9_merge 54 = .ok (.aload_n 0, 1) := by decide +kernel
theorem dX9_merge_55 : decode cX9_merge 55 = .ok (.iload 4, 2) := by decide +kernel
theorem dX9_merge_57 : decode cX9_merge 57 = .ok (.iconst 1, 1) := by decide +kernel
theorem dX9_merge_58 : decode cX9_merge 58 = .ok (.isub, 1) := by decide +kernel
theorem dX9_merge_59 : decode cX9_merge 59 = .ok (.invokevirtual 129, 3) := by decide +kernel
theorem dX9_merge_62 : decode cX9_merge 62 = .ok (.goto 12, 3) := by decide +kernel
theorem dX9_merge_65 : decode cX9_merge 65 = .ok (.aload_n 0, 1) := by decide +kernel
theorem dX9_merge_66 : decode cX9_merge 66 = .ok (.iload 4, 2) := by decide +kernel
theorem dX9_merge_68 : decode cX9_merge 68 = .ok (.ineg, 1) := by decide +kernel
theorem dX9_merge_69 : decode cX9_merge 69 = .ok (.iconst 1, 1) := by decide +kernel
theorem dX9_merge_70 : decode cX9_merge 70 = .ok (.isub, 1) := by decide +kernel
theorem dX9_merge_71 : decode cX9_merge 71 = .ok (.invokevirtual 132, 3) := by decide +kernel
theorem dX9_merge_74 : decode cX9_merge 74 = .ok (.istore 5, 2) := by decide +kernel
theorem dX9_merge_76 : decode cX9_merge 76 = .ok (.iload_n 2, 1) := by decide +kernel
theorem dX9_merge_77 : decode cX9_merge 77 = .ok (.iload 5, 2) := by decide +kernel
theorem dX9_merge_79 : decode cX9_merge 79 = .ok (.ifCond .eq 7, 3) := by decide +kernel
theorem dX9_merge_82 : decode cX9_merge 82 = .ok (.iconst 0, 1) := by decide +kernel
theorem dX9_merge_83 : decode cX9_merge 83 = .ok (.goto 4, 3) := by decide +kernel
theorem dX9_merge_86 : decode cX9_merge 86 = .ok (.iconst 1, 1) := by decide +kernel
theorem dX9_merge_87 : decode cX9_merge 87 = .ok (.iadd, 1) := by decide +kernel
theorem dX9_merge_88 : decode cX9_merge 88 = .ok (.istore_n 2, 1) := by decide +kernel
theorem dX9_merge_89 : decode cX9_merge 89 = .ok (.iinc 3 1, 3) := by decide +kernel
theorem dX9_merge_92 : decode cX9_merge 92 = .ok (.goto (-67), 3) := by decide +kernel
theorem dX9_merge_95 : decode cX9_merge 95 = .ok (.aload_n 0, 1) := by decide +kernel
theorem dX9_merge_96 : decode cX9_merge 96 = .ok (.getfield 38, 3) := by decide +kernel
theorem dX9_merge_99 : decode cX9_merge 99 = .ok (.iload_n 1, 1) := by decide +kernel
theorem dX9_merge_100 : decode cX9_merge 100 = .ok (.iconst 0, 1) := by decide +kernel
theorem dX9_merge_101 : decode cX9_merge 101 = .ok (.iastore, 1) := by decide +kernel
theorem dX9_merge_102 : decode cX9_merge 102 = .ok (.aload_n 0, 1) := by decide +kernel
theorem dX9_merge_103 : decode cX9_merge 103 = .ok (.getfield 32, 3) := by decide +kernel
theorem dX9_merge_106 : decode cX9_merge 106 = .ok (.iload_n 1, 1) := by decide +kernel
theorem dX9_merge_107 : decode cX9_merge 107 = .ok (.iconst 0, 1) := by decide +kernel
theorem dX9_merge_108 : decode cX9_merge 108 = .ok (.iastore, 1) := by decide +kernel
theorem dX9_merge_109 : decode cX9_merge 109 = .ok (.iconst 0, 1) := by decide +kernel
theorem dX9_merge_110 : decode cX9_merge 110 = .ok (.istore_n 3, 1) := by decide +kernel
theorem dX9_merge_111 : decode cX9_merge 111 = .ok (.iload_n 3, 1) := by decide +kernel
theorem dX9_merge_112 : decode cX9_merge 112 = .ok (.aload_n 0, 1) := by decide +kernel
theorem dX9_merge_113 : decode cX9_merge 113 = .ok (.getfield 118, 3) := by decide +kernel
theorem dX9_merge_116 : decode cX9_merge 116 = .ok (.if_icmp .ge 56, 3) := by decide +kernel
theorem dX9_merge_119 : decode cX9_merge 119 = .ok (.aload_n 0, 1) := by decide +kernel
theorem dX9_merge_120 : decode cX9_merge 120 = .ok (.getfield 23, 3) := by decide +kernel
theorem dX9_merge_123 : decode cX9_merge 123 = .ok (.aload_n 0, 1) := by decide +kernel
theorem dX9_merge_124 : decode cX9_merge 124 = .ok (.getfield 29, 3) := by decide +kernel
theorem dX9_merge_127 : decode cX9_merge 127 = .ok (.iload_n 3, 1) := by decide +kernel
theorem dX9_merge_128 : decode cX9_merge 128 = .ok (.iaload, 1) := by decide +kernel
theorem dX9_merge_129 : decode cX9_merge 129 = .ok (.baload, 1) := by decide +kernel
theorem dX9_merge_130 : decode cX9_merge 130 = .ok (.ifCond .eq 36, 3) := by decide +kernel
theorem dX9_merge_133 : decode cX9_merge 133 = .ok (.aload_n 0, 1) := by decide +kernel
theorem dX9_merge_134 : decode cX9_merge 134 = .ok (.getfield 35, 3) := by decide +kernel
theorem dX9_merge_137 : decode cX9_merge 137 = .ok (.sipush 300, 3) := by decide +kernel
theorem dX9_merge_140 : decode cX9_merge 140 = .ok (.iload_n 1, 1) := by decide +kernel
theorem dX9_merge_141 : decode cX9_merge 141 = .ok (.imul, 1) := by decide +kernel
theorem dX9_merge_142 : decode cX9_merge 142 = .ok (.aload_n 0, 1) := by decide +kernel
theorem dX9_merge_143 : decode cX9_merge 143 = .ok (.getfield 32, 3) := by decide +kernel
theorem dX9_merge_146 : decode cX9_merge 146 = .ok (.iload_n 1, 1) := by decide +kernel
theorem dX9_merge_147 : decode cX9_merge 147 = .ok (.iaload, 1) := by decide +kernel
theorem dX9_merge_148 : decode cX9_merge 148 = .ok (.iadd, 1) := by decide +kernel
theorem dX9_merge_149 : decode cX9_merge 149 = .ok (.aload_n 0, 1) := by decide +kernel
theorem dX9_merge_150 : decode cX9_merge 150 = .ok (.getfield 29, 3) := by decide +kernel
theorem dX9_merge_153 : decode cX9_merge 153 = .ok (.iload_n 3, 1) := by decide +kernel
theorem dX9_merge_154 : decode cX9_merge 154 = .ok (.iaload, 1) := by decide +kernel
theorem dX9_merge_155 : decode cX9_merge 155 = .ok (.iastore, 1) := by decide +kernel
theorem dX9_merge_156 : decode cX9_merge 156 = .ok (.aload_n 0, 1) := by decide +kernel
theorem dX9_merge_157 : decode cX9_merge 157 = .ok (.getfield 32, 3) := by decide +kernel
theorem dX9_merge_160 : decode cX9_merge 160 = .ok (.iload_n 1, 1) := by decide +kernel
theorem dX9_merge_161 : decode cX9_merge 161 = .ok (.dup2, 1) := by decide +kernel
theorem dX9_merge_162 : decode cX9_merge 162 = .ok (.iaload, 1) := by decide +kernel
theorem dX9_merge_163 : decode cX9_merge 163 = .ok (.iconst 1, 1) := by decide +kernel
theorem dX9_merge_164 : decode cX9_merge 164 = .ok (.iadd, 1) := by decide +kernel
theorem dX9_merge_165 : decode cX9_merge 165 = .ok (.iastore, 1) := by decide +kernel
theorem dX9_merge_166 : decode cX9_merge 166 = .ok (.iinc 3 1, 3) := by decide +kernel
theorem dX9_merge_169 : decode cX9_merge 169 = .ok (.goto (-58), 3) := by decide +kernel
theorem dX9_merge_172 : decode cX9_merge 172 = .ok (.iload_n 2, 1) := by decide +kernel
theorem dX9_merge_173 : decode cX9_merge 173 = .ok (.ireturn, 1) := by decide +kernel
set_option maxRecDepth 20000 in
theorem ggX9_copy_X9_isWriter : GoodIn wsX9_copy wsX9_isWriter := goodIn_r _ [5, 6, 7, 4, 8] (by decide +kernel) (by decide +kernel)
set_option maxRecDepth 20000 in
theorem gX9_copy_X9_isWriter : GoodIn wsX9_copy (va_wsS RX9 103 yX9_isWriter wsX9_isWriter) := goodIn_app (goodIn_of _ (by decide +kernel)) ggX9_copy_X9_isWriter
set_option maxRecDepth 20000 in
theorem ggX9_copy_X9_goesWell : GoodIn wsX9_copy wsX9_goesWell := goodIn_r _ [12, 13, 14, 15, 16, 17, 18, 19, 20, 21, 22, 23, 24, 25, 26, 27, 28, 29, 30, 31, 32, 33, 34, 35, 36, 37, 38, 39, 40, 41, 42, 43, 44, 45, 46, 47, 48] (by decide +kernel) (by decide +kernel)
set_option maxRecDepth 20000 in
theorem gX9_copy_X9_goesWell : GoodIn wsX9_copy (wsV RX9 107 RX9 yX9_goesWell wsX9_goesWell) := goodIn_app (goodIn_of _ (by decide +kernel)) ggX9_copy_X9_goesWell
theorem dX9_copy_0 : decode cX9_copy 0 = .ok (.aload_n 0, 1) := by decide +kernel
theorem dX9_copy_1 : decode cX9_copy 1 = .ok (.iload_n 1, 1) := by decide +kernel
theorem dX9_copy_2 : decode cX9_copy 2 = .ok (.invokestatic 103, 3) := by decide +kernel
theorem dX9_copy_5 : decode cX9_copy 5 = .ok (.ifCond .eq 7, 3) := by decide +kernel
theorem dX9_copy_8 : decode cX9_copy 8 = .ok (.iconst 0, 1) := by decide +kernel
theorem dX9_copy_9 : decode cX9_copy 9 = .ok (.goto 4, 3) := by decide +kernel
theorem dX9_copy_12 : decode cX9_copy 12 = .ok (.iconst 1, 1) := by decide +kernel
theorem dX9_copy_13 : decode cX9_copy 13 = .ok (.invokevirtual 107, 3) := by decide +kernel
theorem dX9_copy_16 : decode cX9_copy 16 = .ok (.ifCond .eq 12, 3) := by decide +kernel
theorem dX9_copy_19 : decode cX9_copy 19 = .ok (.aload_n 0, 1) := by decide +kernel
theorem dX9_copy_20 : decode cX9_copy 20 = .ok (.getfield 32, 3) := by decide +kernel
theorem dX9_copy_23 : decode cX9_copy 23 = .ok (.iload_n 1, 1) := by decide +kernel
theorem dX9_copy_24 : decode cX9_copy 24 = .ok (.iaload, 1) := by decide +kernel
theorem dX9_copy_25 : decode cX9_copy 25 = .ok (.goto 4, 3) := by decide +kernel
theorem dX9_copy_28 : decode cX9_copy 28 = .ok (.iconst 0, 1) := by decide +kernel
theorem dX9_copy_29 : decode cX9_copy 29 = .ok (.ireturn, 1) := by decide +kernel
set_option maxRecDepth 20000 in
theorem ggX9_copyAt_X9_isCopyPlace : GoodIn wsX9_copyAt wsX9_isCopyPlace := goodIn_r _ [6, 7, 8, 9, 5, 10, 11, 12, 13, 19, 20, 21, 22, 23, 24, 25, 26, 27, 28, 29, 30, 31, 32, 33, 34, 35, 36, 37, 38, 39, 40, 41, 42, 43, 44, 45, 46, 47, 48, 49, 50, 51, 52, 53] (by decide +kernel) (by decide +kernel)
set_option maxRecDepth 20000 in
theorem gX9_copyAt_X9_isCopyPlace : GoodIn wsX9_copyAt (wsV RX9 114 RX9 yX9_isCopyPlace wsX9_isCopyPlace) := goodIn_app (goodIn_of _ (by decide +kernel)) ggX9_copyAt_X9_isCopyPlace
set_option maxRecDepth 20000 in
theorem ggX9_copyAt_X9_goesWell : GoodIn wsX9_copyAt wsX9_goesWell := goodIn_r _ [17, 18, 19, 20, 21, 22, 23, 24, 25, 26, 27, 28, 29, 30, 31, 32, 33, 34, 35, 36, 37, 38, 39, 40, 41, 42, 43, 44, 45, 46, 47, 48, 49, 50, 51, 52, 53] (by decide +kernel) (by decide +kernel)
set_option maxRecDepth 20000 in
theorem gX9_copyAt_X9_goesWell : GoodIn wsX9_copyAt (wsV RX9 107 RX9 yX9_goesWell wsX9_goesWell) := goodIn_app (goodIn_of _ (by decide +kernel)) ggX9_copyAt_X9_goesWell
theorem dX9_copyAt_0 : decode cX9_copyAt 0 = .ok (.aload_n 0, 1) := by decide +kernel
theorem dX9_copyAt_1 : decode cX9_copyAt 1 = .ok (.aload_n 0, 1) := by decide +kernel
theorem dX9_copyAt_2 : decode cX9_copyAt 2 = .ok (.iload_n 1, 1) := by decide +kernel
theorem dX9_copyAt_3 : decode cX9_copyAt 3 = .ok (.iload_n 2, 1) := by decide +kernel
theorem dX9_copyAt_4 : decode cX9_copyAt 4 = .ok (.invokevirtual 114, 3) := by decide +kernel
theorem dX9_copyAt_7 : decode cX9_copyAt 7 = .ok (.ifCond .eq 7, 3) := by decide +kernel
theorem dX9_copyAt_10 : decode cX9_copyAt 10 = .ok (.iconst 0, 1) := by decide +kernel
theorem dX9_copyAt_11 : decode cX9_copyAt 11 = .ok (.goto 4, 3) := by decide +kernel
theorem dX9_copyAt_14 : decode cX9_copyAt 14 = .ok (.iconst 1, 1) := by decide +kernel
theorem dX9_copyAt_15 : decode cX9_copyAt 15 = .ok (.invokevirtual 107, 3) := by decide +kernel
theorem dX9_copyAt_18 : decode cX9_copyAt 18 = .ok (.ifCond .eq 18, 3) := by decide +kernel
theorem dX9_copyAt_21 : decode cX9_copyAt 21 = .ok (.aload_n 0, 1) := by decide +kernel
theorem dX9_copyAt_22 : decode cX9_copyAt 22 = .ok (.getfield 35, 3) := by decide +kernel
theorem dX9_copyAt_25 : decode cX9_copyAt 25 = .ok (.sipush 300, 3) := by decide +kernel
theorem dX9_copyAt_28 : decode cX9_copyAt 28 = .ok (.iload_n 1, 1) := by decide +kernel
theorem dX9_copyAt_29 : decode cX9_copyAt 29 = .ok (.imul, 1) := by decide +kernel
theorem dX9_copyAt_30 : decode cX9_copyAt 30 = .ok (.iload_n 2, 1) := by decide +kernel
theorem dX9_copyAt_31 : decode cX9_copyAt 31 = .ok (.iadd, 1) := by decide +kernel
theorem dX9_copyAt_32 : decode cX9_copyAt 32 = .ok (.iaload, 1) := by decide +kernel
theorem dX9_copyAt_33 : decode cX9_copyAt 33 = .ok (.goto 4, 3) := by decide +kernel
theorem dX9_copyAt_36 : decode cX9_copyAt 36 = .ok (.iconst 0, 1) := by decide +kernel
theorem dX9_copyAt_37 : decode cX9_copyAt 37 = .ok (.ireturn, 1) := by decide +kernel
set_option maxRecDepth 20000 in
theorem ggX9_changes_X9_isWriter : GoodIn wsX9_changes wsX9_isWriter := goodIn_r _ [5, 6, 7, 4, 8] (by decide +kernel) (by decide +kernel)
set_option maxRecDepth 20000 in
theorem gX9_changes_X9_isWriter : GoodIn wsX9_changes (va_wsS RX9 103 yX9_isWriter wsX9_isWriter) := goodIn_app (goodIn_of _ (by decide +kernel)) ggX9_changes_X9_isWriter
set_option maxRecDepth 20000 in
theorem ggX9_changes_X9_goesWell : GoodIn wsX9_changes wsX9_goesWell := goodIn_r _ [12, 13, 14, 15, 16, 17, 18, 19, 20, 21, 22, 23, 24, 25, 26, 27, 28, 29, 30, 31, 32, 33, 34, 35, 36, 37, 38, 39, 40, 41, 42, 43, 44, 45, 46, 47, 48] (by decide +kernel) (by decide +kernel)
set_option maxRecDepth 20000 in
theorem gX9_changes_X9_goesWell : GoodIn wsX9_changes (wsV RX9 107 RX9 yX9_goesWell wsX9_goesWell) := goodIn_app (goodIn_of _ (by decide +kernel)) ggX9_changes_X9_goesWell
theorem dX9_changes_0 : decode cX9_changes 0 = .ok (.aload_n 0, 1) := by decide +kernel
theorem dX9_changes_1 : decode cX9_changes 1 = .ok (.iload_n 1, 1) := by decide +kernel
theorem dX9_changes_2 : decode cX9_changes 2 = .ok (.invokestatic 103, 3) := by decide +kernel
theorem dX9_changes_5 : decode cX9_changes 5 = .ok (.ifCond .eq 7, 3) := by decide +kernel
theorem dX9_changes_8 : decode cX9_changes 8 = .ok (.iconst 0, 1) := by decide +kernel
theorem dX9_changes_9 : decode cX9_changes 9 = .ok (.goto 4, 3) := by decide +kernel
theorem dX9_changes_12 : decode cX9_changes 12 = .ok (.iconst 1, 1) := by decide +kernel
theorem dX9_changes_13 : decode cX9_changes 13 = .ok (.invokevirtual 107, 3) := by decide +kernel
theorem dX9_changes_16 : decode cX9_changes 16 = .ok (.ifCond .eq 12, 3) := by decide +kernel
theorem dX9_changes_19 : decode cX9_changes 19 = .ok (.aload_n 0, 1) := by decide +kernel
theorem dX9_changes_20 : decode cX9_changes 20 = .ok (.getfield 38, 3) := by decide +kernel
theorem dX9_changes_23 : decode cX9_changes 23 = .ok (.iload_n 1, 1) := by decide +kernel
theorem dX9_changes_24 : decode cX9_changes 24 = .ok (.iaload, 1) := by decide +kernel
theorem dX9_changes_25 : decode cX9_changes 25 = .ok (.goto 4, 3) := by decide +kernel
theorem dX9_changes_28 : decode cX9_changes 28 = .ok (.iconst 0, 1) := by decide +kernel
theorem dX9_changes_29 : decode cX9_changes 29 = .ok (.ireturn, 1) := by decide +kernel
theorem dX9_textLength_0 : decode cX9_textLength 0 = .ok (.iconst 0, 1) := by decide +kernel
theorem dX9_textLength_1 : decode cX9_textLength 1 = .ok (.istore_n 1, 1) := by decide +kernel
theorem dX9_textLength_2 : decode cX9_textLength 2 = .ok (.iconst 0, 1) := by decide +kernel
theorem dX9_textLength_3 : decode cX9_textLength 3 = .ok (.istore_n 2, 1) := by decide +kernel
theorem dX9_textLength_4 : decode cX9_textLength 4 = .ok (.iload_n 2, 1) := by decide +kernel
theorem dX9_textLength_5 : decode cX9_textLength 5 = .ok (.aload_n 0, 1) := by decide +kernel
theorem dX9_textLength_6 : decode cX9_textLength 6 = .ok (.getfield 118, 3) := by decide +kernel
theorem dX9_textLength_9 : decode cX9_textLength 9 = .ok (.if_icmp .ge 31, 3) := by decide +kernel
theorem dX9_textLength_12 : decode cX9_textLength 12 = .ok (.iload_n 1, 1) := by decide +kernel
theorem dX9_textLength_13 : decode cX9_textLength 13 = .ok (.aload_n 0, 1) := by decide +kernel
theorem dX9_textLength_14 : decode cX9_textLength 14 = .ok (.getfield 23, 3) := by decide +kernel
theorem dX9_textLength_17 : decode cX9_textLength 17 = .ok (.aload_n 0, 1) := by decide +kernel
theorem dX9_textLength_18 : decode cX9_textLength 18 = .ok (.getfield 29, 3) := by decide +kernel
theorem dX9_textLength_21 : decode cX9_textLength 21 = .ok (.iload_n 2, 1) := by decide +kernel
theorem dX9_textLength_22 : decode cX9_textLength 22 = .ok (.iaload, 1) := by decide +kernel
theorem dX9_textLength_23 : decode cX9_textLength 23 = .ok (.baload, 1) := by decide +kernel
theorem dX9_textLength_24 : decode cX9_textLength 24 = .ok (.ifCond .eq 7, 3) := by decide +kernel
theorem dX9_textLength_27 : decode cX9_textLength 27 = .ok (.iconst 1, 1) := by decide +kernel
theorem dX9_textLength_28 : decode cX9_textLength 28 = .ok (.goto 4, 3) := by decide +kernel
theorem dX9_textLength_31 : decode cX9_textLength 31 = .ok (.iconst 0, 1) := by decide +kernel
theorem dX9_textLength_32 : decode cX9_textLength 32 = .ok (.iadd, 1) := by decide +kernel
theorem dX9_textLength_33 : decode cX9_textLength 33 = .ok (.istore_n 1, 1) := by decide +kernel
theorem dX9_textLength_34 : decode cX9_textLength 34 = .ok (.iinc 2 1, 3) := by decide +kernel
theorem dX9_textLength_37 : decode cX9_textLength 37 = .ok (.goto (-33), 3) := by decide +kernel
theorem dX9_textLength_40 : decode cX9_textLength 40 = .ok (.iload_n 1, 1) := by decide +kernel
theorem dX9_textLength_41 : decode cX9_textLength 41 = .ok (.ireturn, 1) := by decide +kernel
theorem dX9_textAt_0 : decode cX9_textAt 0 = .ok (.iload_n 1, 1) := by decide +kernel
theorem dX9_textAt_1 : decode cX9_textAt 1 = .ok (.istore_n 2, 1) := by decide +kernel
theorem dX9_textAt_2 : decode cX9_textAt 2 = .ok (.iconst 0, 1) := by decide +kernel
theorem dX9_textAt_3 : decode cX9_textAt 3 = .ok (.istore_n 3, 1) := by decide +kernel
theorem dX9_textAt_4 : decode cX9_textAt 4 = .ok (.iload_n 3, 1) := by decide +kernel
theorem dX9_textAt_5 : decode cX9_textAt 5 = .ok (.aload_n 0, 1) := by decide +kernel
theorem dX9_textAt_6 : decode cX9_textAt 6 = .ok (.getfield 118, 3) := by decide +kernel
theorem dX9_textAt_9 : decode cX9_textAt 9 = .ok (.if_icmp .ge 41, 3) := by decide +kernel
theorem dX9_textAt_12 : decode cX9_textAt 12 = .ok (.iload_n 1, 1) := by decide +kernel
theorem dX9_textAt_13 : decode cX9_textAt 13 = .ok (.ifCond .lt 37, 3) := by decide +kernel
theorem dX9_textAt_16 : decode cX9_textAt 16 = .ok (.aload_n 0, 1) := by decide +kernel
theorem dX9_textAt_17 : decode cX9_textAt 17 = .ok (.getfield 23, 3) := by decide +kernel
theorem dX9_textAt_20 : decode cX9_textAt 20 = .ok (.aload_n 0, 1) := by decide +kernel
theorem dX9_textAt_21 : decode cX9_textAt 21 = .ok (.getfield 29, 3) := by decide +kernel
theorem dX9_textAt_24 : decode cX9_textAt 24 = .ok (.iload_n 3, 1) := by decide +kernel
theorem dX9_textAt_25 : decode cX9_textAt 25 = .ok (.iaload, 1) := by decide +kernel
theorem dX9_textAt_26 : decode cX9_textAt 26 = .ok (.baload, 1) := by decide +kernel
theorem dX9_textAt_27 : decode cX9_textAt 27 = .ok (.ifCond .eq 17, 3) := by decide +kernel
theorem dX9_textAt_30 : decode cX9_textAt 30 = .ok (.iload_n 2, 1) := by decide +kernel
theorem dX9_textAt_31 : decode cX9_textAt 31 = .ok (.ifCond .ne 10, 3) := by decide +kernel
theorem dX9_textAt_34 : decode cX9_textAt 34 = .ok (.aload_n 0, 1) := by decide +kernel
theorem dX9_textAt_35 : decode cX9_textAt 35 = .ok (.getfield 29, 3) := by decide +kernel
theorem dX9_textAt_38 : decode cX9_textAt 38 = .ok (.iload_n 3, 1) := by decide +kernel
theorem dX9_textAt_39 : decode cX9_textAt 39 = .ok (.iaload, 1) := by decide +kernel
theorem dX9_textAt_40 : decode cX9_textAt 40 = .ok (.ireturn, 1) := by decide +kernel
theorem dX9_textAt_41 : decode cX9_textAt 41 = .ok (.iinc 2 (-1), 3) := by decide +kernel
theorem dX9_textAt_44 : decode cX9_textAt 44 = .ok (.iinc 3 1, 3) := by decide +kernel
theorem dX9_textAt_47 : decode cX9_textAt 47 = .ok (.goto (-43), 3) := by decide +kernel
theorem dX9_textAt_50 : decode cX9_textAt 50 = .ok (.iconst (-1), 1) := by decide +kernel
theorem dX9_textAt_51 : decode cX9_textAt 51 = .ok (.ireturn, 1) := by decide +kernel
set_option maxRecDepth 20000 in
theorem ggX9_length_X9_textLength : GoodIn wsX9_length wsX9_textLength := goodIn_r _ [6, 7, 8, 9, 10, 11, 12, 13, 14, 15, 16, 17, 18, 19, 20, 21, 22, 23, 24, 25, 26, 27, 28, 29, 30, 31, 32, 33, 34, 35, 36, 37, 38, 39, 40, 41, 42, 43, 44] (by decide +kernel) (by decide +kernel)
set_option maxRecDepth 20000 in
theorem gX9_length_X9_textLength : GoodIn wsX9_length (wsV RX9 135 RX9 yX9_textLength wsX9_textLength) := goodIn_app (goodIn_of _ (by decide +kernel)) ggX9_length_X9_textLength
theorem dX9_length_0 : decode cX9_length 0 = .ok (.aload_n 0, 1) := by decide +kernel
theorem dX9_length_1 : decode cX9_length 1 = .ok (.iconst 0, 1) := by decide +kernel
theorem dX9_length_2 : decode cX9_length 2 = .ok (.putfield 89, 3) := by decide +kernel
theorem dX9_length_5 : decode cX9_length 5 = .ok (.aload_n 0, 1) := by decide +kernel
theorem dX9_length_6 : decode cX9_length 6 = .ok (.invokevirtual 135, 3) := by decide +kernel
theorem dX9_length_9 : decode cX9_length 9 = .ok (.ireturn, 1) := by decide +kernel
set_option maxRecDepth 20000 in
theorem ggX9_wordAt_X9_textAt : GoodIn wsX9_wordAt wsX9_textAt := goodIn_r _ [5, 6, 7, 8, 14, 15, 16, 17, 18, 19, 20, 21, 22, 23, 24, 25, 26, 27, 28, 29, 30, 31, 32, 33, 34, 35, 36, 37, 38, 39, 40, 41, 42, 43, 44, 45, 46, 47, 48] (by decide +kernel) (by decide +kernel)
set_option maxRecDepth 20000 in
theorem gX9_wordAt_X9_textAt : GoodIn wsX9_wordAt (wsV RX9 139 RX9 yX9_textAt wsX9_textAt) := goodIn_app (goodIn_of _ (by decide +kernel)) ggX9_wordAt_X9_textAt
set_option maxRecDepth 20000 in
theorem ggX9_wordAt_X9_goesWell : GoodIn wsX9_wordAt wsX9_goesWell := goodIn_r _ [12, 13, 14, 15, 16, 17, 18, 19, 20, 21, 22, 23, 24, 25, 26, 27, 28, 29, 30, 31, 32, 33, 34, 35, 36, 37, 38, 39, 40, 41, 42, 43, 44, 45, 46, 47, 48] (by decide +kernel) (by decide +kernel)
set_option maxRecDepth 20000 in
theorem gX9_wordAt_X9_goesWell : GoodIn wsX9_wordAt (wsV RX9 107 RX9 yX9_goesWell wsX9_goesWell) := goodIn_app (goodIn_of _ (by decide +kernel)) ggX9_wordAt_X9_goesWell
theorem dX9_wordAt_0 : decode cX9_wordAt 0 = .ok (.aload_n 0, 1) := by decide +kernel
theorem dX9_wordAt_1 : decode cX9_wordAt 1 = .ok (.iload_n 1, 1) := by decide +kernel
theorem dX9_wordAt_2 : decode cX9_wordAt 2 = .ok (.invokevirtual 139, 3) := by decide +kernel
theorem dX9_wordAt_5 : decode cX9_wordAt 5 = .ok (.istore_n 2, 1) := by decide +kernel
theorem dX9_wordAt_6 : decode cX9_wordAt 6 = .ok (.aload_n 0, 1) := by decide +kernel
theorem dX9_wordAt_7 : decode cX9_wordAt 7 = .ok (.iload_n 2, 1) := by decide +kernel
theorem dX9_wordAt_8 : decode cX9_wordAt 8 = .ok (.iconst (-1), 1) := by decide +kernel
theorem dX9_wordAt_9 : decode cX9_wordAt 9 = .ok (.if_icmp .ne 7, 3) := by decide +kernel
theorem dX9_wordAt_12 : decode cX9_wordAt 12 = .ok (.iconst 1, 1) := by decide +kernel
theorem dX9_wordAt_13 : decode cX9_wordAt 13 = .ok (.goto 4, 3) := by decide +kernel
theorem dX9_wordAt_16 : decode cX9_wordAt 16 = .ok (.iconst 0, 1) := by decide +kernel
theorem dX9_wordAt_17 : decode cX9_wordAt 17 = .ok (.invokevirtual 107, 3) := by decide +kernel
theorem dX9_wordAt_20 : decode cX9_wordAt 20 = .ok (.ifCond .eq 7, 3) := by decide +kernel
theorem dX9_wordAt_23 : decode cX9_wordAt 23 = .ok (.iload_n 2, 1) := by decide +kernel
theorem dX9_wordAt_24 : decode cX9_wordAt 24 = .ok (.goto 4, 3) := by decide +kernel
theorem dX9_wordAt_27 : decode cX9_wordAt 27 = .ok (.iconst 0, 1) := by decide +kernel
theorem dX9_wordAt_28 : decode cX9_wordAt 28 = .ok (.ireturn, 1) := by decide +kernel
set_option maxRecDepth 20000 in
theorem ggX9_word_X9_isWord : GoodIn wsX9_word wsX9_isWord := goodIn_r _ [7, 8, 9, 10, 6, 11, 17, 18, 19, 20, 21, 22, 23, 24, 25, 26, 27, 28, 29, 30, 31, 32, 33, 34, 35, 36, 37, 38, 39, 40, 41, 42, 43, 44, 45, 46, 47, 48, 49, 50, 51] (by decide +kernel) (by decide +kernel)
set_option maxRecDepth 20000 in
theorem gX9_word_X9_isWord : GoodIn wsX9_word (wsV RX9 142 RX9 yX9_isWord wsX9_isWord) := goodIn_app (goodIn_of _ (by decide +kernel)) ggX9_word_X9_isWord
set_option maxRecDepth 20000 in
theorem ggX9_word_X9_goesWell : GoodIn wsX9_word wsX9_goesWell := goodIn_r _ [15, 16, 17, 18, 19, 20, 21, 22, 23, 24, 25, 26, 27, 28, 29, 30, 31, 32, 33, 34, 35, 36, 37, 38, 39, 40, 41, 42, 43, 44, 45, 46, 47, 48, 49, 50, 51] (by decide +kernel) (by decide +kernel)
set_option maxRecDepth 20000 in
theorem gX9_word_X9_goesWell : GoodIn wsX9_word (wsV RX9 107 RX9 yX9_goesWell wsX9_goesWell) := goodIn_app (goodIn_of _ (by decide +kernel)) ggX9_word_X9_goesWell
theorem dX9_word_0 : decode cX9_word 0 = .ok (.aload_n 0, 1) := by decide +kernel
theorem dX9_word_1 : decode cX9_word 1 = .ok (.aload_n 0, 1) := by decide +kernel
theorem dX9_word_2 : decode cX9_word 2 = .ok (.iload_n 1, 1) := by decide +kernel
theorem dX9_word_3 : decode cX9_word 3 = .ok (.invokevirtual 142, 3) := by decide +kernel
theorem dX9_word_6 : decode cX9_word 6 = .ok (.ifCond .eq 7, 3) := by decide +kernel
theorem dX9_word_9 : decode cX9_word 9 = .ok (.iconst 0, 1) := by decide +kernel
theorem dX9_word_10 : decode cX9_word 10 = .ok (.goto 4, 3) := by decide +kernel
theorem dX9_word_13 : decode cX9_word 13 = .ok (.iconst 1, 1) := by decide +kernel
theorem dX9_word_14 : decode cX9_word 14 = .ok (.invokevirtual 107, 3) := by decide +kernel
theorem dX9_word_17 : decode cX9_word 17 = .ok (.ifCond .eq 23, 3) := by decide +kernel
theorem dX9_word_20 : decode cX9_word 20 = .ok (.sipush 1000, 3) := by decide +kernel
theorem dX9_word_23 : decode cX9_word 23 = .ok (.aload_n 0, 1) := by decide +kernel
theorem dX9_word_24 : decode cX9_word 24 = .ok (.getfield 13, 3) := by decide +kernel
theorem dX9_word_27 : decode cX9_word 27 = .ok (.iload_n 1, 1) := by decide +kernel
theorem dX9_word_28 : decode cX9_word 28 = .ok (.iaload, 1) := by decide +kernel
theorem dX9_word_29 : decode cX9_word 29 = .ok (.imul, 1) := by decide +kernel
theorem dX9_word_30 : decode cX9_word 30 = .ok (.aload_n 0, 1) := by decide +kernel
theorem dX9_word_31 : decode cX9_word 31 = .ok (.getfield 7, 3) := by decide +kernel
theorem dX9_word_34 : decode cX9_word 34 = .ok (.iload_n 1, 1) := by decide +kernel
theorem dX9_word_35 : decode cX9_word 35 = .ok (.iaload, 1) := by decide +kernel
theorem dX9_word_36 : decode cX9_word 36 = .ok (.iadd, 1) := by decide +kernel
theorem dX9_word_37 : decode cX9_word 37 = .ok (.goto 4, 3) := by decide +kernel
theorem dX9_word_40 : decode cX9_word 40 = .ok (.iconst 0, 1) := by decide +kernel
theorem dX9_word_41 : decode cX9_word 41 = .ok (.ireturn, 1) := by decide +kernel
set_option maxRecDepth 20000 in
theorem ggX9_placeOf_X9_isWord : GoodIn wsX9_placeOf wsX9_isWord := goodIn_r _ [6, 7, 8, 9, 5, 10, 26, 27, 28, 29, 30, 31, 32, 33, 34, 35, 36, 37, 38, 39, 40, 41, 42, 43, 44, 45, 46, 47, 48, 49, 50, 51, 52, 53, 54, 55, 56, 57, 58, 59, 60] (by decide +kernel) (by decide +kernel)
set_option maxRecDepth 20000 in
theorem gX9_placeOf_X9_isWord : GoodIn wsX9_placeOf (wsV RX9 142 RX9 yX9_isWord wsX9_isWord) := goodIn_app (goodIn_of _ (by decide +kernel)) ggX9_placeOf_X9_isWord
set_option maxRecDepth 20000 in
theorem ggX9_placeOf_X9_goesWell : GoodIn wsX9_placeOf wsX9_goesWell := goodIn_r _ [14, 15, 26, 27, 28, 29, 30, 31, 32, 33, 34, 35, 36, 37, 38, 39, 40, 41, 42, 43, 44, 45, 46, 47, 48, 49, 50, 51, 52, 53, 54, 55, 56, 57, 58, 59, 60] (by decide +kernel) (by decide +kernel)
set_option maxRecDepth 20000 in
theorem gX9_placeOf_X9_goesWell : GoodIn wsX9_placeOf (wsV RX9 107 RX9 yX9_goesWell wsX9_goesWell) := goodIn_app (goodIn_of _ (by decide +kernel)) ggX9_placeOf_X9_goesWell
set_option maxRecDepth 20000 in
theorem ggX9_placeOf_X9_indexOf : GoodIn wsX9_placeOf wsX9_indexOf := goodIn_r _ [19, 20, 21, 26, 27, 28, 29, 30, 31, 32, 33, 34, 35, 36, 37, 38, 39, 40, 41, 42, 43, 44, 45, 46, 47, 48, 49, 50, 51, 52, 53, 54, 55, 56, 57, 58, 59, 60] (by decide +kernel) (by decide +kernel)
set_option maxRecDepth 20000 in
theorem gX9_placeOf_X9_indexOf : GoodIn wsX9_placeOf (wsV RX9 121 RX9 yX9_indexOf wsX9_indexOf) := goodIn_app (goodIn_of _ (by decide +kernel)) ggX9_placeOf_X9_indexOf
set_option maxRecDepth 20000 in
theorem ggX9_placeOf_X9_countAhead : GoodIn wsX9_placeOf wsX9_countAhead := goodIn_r _ [25, 1, 21, 26, 27, 28, 29, 30, 31, 32, 33, 34, 35, 36, 37, 38, 39, 40, 41, 42, 43, 44, 45, 46, 47, 48, 49, 50, 51, 52, 53, 54, 55, 56, 57, 58, 59, 60] (by decide +kernel) (by decide +kernel)
set_option maxRecDepth 20000 in
theorem gX9_placeOf_X9_countAhead : GoodIn wsX9_placeOf (wsV RX9 145 RX9 yX9_countAhead wsX9_countAhead) := goodIn_app (goodIn_of _ (by decide +kernel)) ggX9_placeOf_X9_countAhead
theorem dX9_placeOf_0 : decode cX9_placeOf 0 = .ok (.aload_n 0, 1) := by decide +kernel
theorem dX9_placeOf_1 : decode cX9_placeOf 1 = .ok (.aload_n 0, 1) := by decide +kernel
theorem dX9_placeOf_2 : decode cX9_placeOf 2 = .ok (.iload_n 1, 1) := by decide +kernel
theorem dX9_placeOf_3 : decode cX9_placeOf 3 = .ok (.invokevirtual 142, 3) := by decide +kernel
theorem dX9_placeOf_6 : decode cX9_placeOf 6 = .ok (.ifCond .eq 7, 3) := by decide +kernel
theorem dX9_placeOf_9 : decode cX9_placeOf 9 = .ok (.iconst 0, 1) := by decide +kernel
theorem dX9_placeOf_10 : decode cX9_placeOf 10 = .ok (.goto 4, 3) := by decide +kernel
theorem dX9_placeOf_13 : decode cX9_placeOf 13 = .ok (.iconst 1, 1) := by decide +kernel
theorem dX9_placeOf_14 : decode cX9_placeOf 14 = .ok (.invokevirtual 107, 3) := by decide +kernel
theorem dX9_placeOf_17 : decode cX9_placeOf 17 = .ok (.ifCond .ne 5, 3) := by decide +kernel
theorem dX9_placeOf_20 : decode cX9_placeOf 20 = .ok (.iconst 0, 1) := by decide +kernel
theorem dX9_placeOf_21 : decode cX9_placeOf 21 = .ok (.ireturn, 1) := by decide +kernel
theorem dX9_placeOf_22 : decode cX9_placeOf 22 = .ok (.aload_n 0, 1) := by decide +kernel
theorem dX9_placeOf_23 : decode cX9_placeOf 23 = .ok (.getfield 23, 3) := by decide +kernel
theorem dX9_placeOf_26 : decode cX9_placeOf 26 = .ok (.iload_n 1, 1) := by decide +kernel
theorem dX9_placeOf_27 : decode cX9_placeOf 27 = .ok (.baload, 1) := by decide +kernel
theorem dX9_placeOf_28 : decode cX9_placeOf 28 = .ok (.ifCond .eq 15, 3) := by decide +kernel
theorem dX9_placeOf_31 : decode cX9_placeOf 31 = .ok (.aload_n 0, 1) := by decide +kernel
theorem dX9_placeOf_32 : decode cX9_placeOf 32 = .ok (.aload_n 0, 1) := by decide +kernel
theorem dX9_placeOf_33 : decode cX9_placeOf 33 = .ok (.iload_n 1, 1) := by decide +kernel
theorem dX9_placeOf_34 : decode cX9_placeOf 34 = .ok (.invokevirtual 121, 3) := by decide +kernel
theorem dX9_placeOf_37 : decode cX9_placeOf 37 = .ok (.invokevirtual 145, 3) := by decide +kernel
theorem dX9_placeOf_40 : decode cX9_placeOf 40 = .ok (.goto 4, 3) := by decide +kernel
theorem dX9_placeOf_43 : decode cX9_placeOf 43 = .ok (.iconst (-1), 1) := by decide +kernel
theorem dX9_placeOf_44 : decode cX9_placeOf 44 = .ok (.ireturn, 1) := by decide +kernel
theorem dX9_countAhead_0 : decode cX9_countAhead 0 = .ok (.iconst 0, 1) := by decide +kernel
theorem dX9_countAhead_1 : decode cX9_countAhead 1 = .ok (.istore_n 2, 1) := by decide +kernel
theorem dX9_countAhead_2 : decode cX9_countAhead 2 = .ok (.iconst 0, 1) := by decide +kernel
theorem dX9_countAhead_3 : decode cX9_countAhead 3 = .ok (.istore_n 3, 1) := by decide +kernel
theorem dX9_countAhead_4 : decode cX9_countAhead 4 = .ok (.iload_n 3, 1) := by decide +kernel
theorem dX9_countAhead_5 : decode cX9_countAhead 5 = .ok (.iload_n 1, 1) := by decide +kernel
theorem dX9_countAhead_6 : decode cX9_countAhead 6 = .ok (.if_icmp .ge 31, 3) := by decide +kernel
theorem dX9_countAhead_9 : decode cX9_countAhead 9 = .ok (.iload_n 2, 1) := by decide +kernel
theorem dX9_countAhead_10 : decode cX9_countAhead 10 = .ok (.aload_n 0, 1) := by decide +kernel
theorem dX9_countAhead_11 : decode cX9_countAhead 11 = .ok (.getfield 23, 3) := by decide +kernel
theorem dX9_countAhead_14 : decode cX9_countAhead 14 = .ok (.aload_n 0, 1) := by decide +kernel
theorem dX9_countAhead_15 : decode cX9_countAhead 15 = .ok (.getfield 29, 3) := by decide +kernel
theorem dX9_countAhead_18 : decode cX9_countAhead 18 = .ok (.iload_n 3, 1) := by decide +kernel
theorem dX9_countAhead_19 : decode cX9_countAhead 19 = .ok (.iaload, 1) := by decide +kernel
theorem dX9_countAhead_20 : decode cX9_countAhead 20 = .ok (.baload, 1) := by decide +kernel
theorem dX9_countAhead_21 : decode cX9_countAhead 21 = .ok (.ifCond .eq 7, 3) := by decide +kernel
theorem dX9_countAhead_24 : decode cX9_countAhead 24 = .ok (.iconst 1, 1) := by decide +kernel
theorem dX9_countAhead_25 : decode cX9_countAhead 25 = .ok (.goto 4, 3) := by decide +kernel
theorem dX9_countAhead_28 : decode cX9_countAhead 28 = .ok (.iconst 0, 1) := by decide +kernel
theorem dX9_countAhead_29 : decode cX9_countAhead 29 = .ok (.iadd, 1) := by decide +kernel
theorem dX9_countAhead_30 : decode cX9_countAhead 30 = .ok (.istore_n 2, 1) := by decide +kernel
theorem dX9_countAhead_31 : decode cX9_countAhead 31 = .ok (.iinc 3 1, 3) := by decide +kernel
theorem dX9_countAhead_34 : decode cX9_countAhead 34 = .ok (.goto (-30), 3) := by decide +kernel
theorem dX9_countAhead_37 : decode cX9_countAhead 37 = .ok (.iload_n 2, 1) := by decide +kernel
theorem dX9_countAhead_38 : decode cX9_countAhead 38 = .ok (.ireturn, 1) := by decide +kernel
set_option maxRecDepth 20000 in
theorem ggX9_share_X9_shareAnew : GoodIn wsX9_share wsX9_shareAnew := goodIn_r _ [5, 6, 7, 8, 9, 10, 4, 11, 12, 13, 14, 15, 16, 17, 18, 19, 20, 21, 22, 23, 24, 25, 26, 27, 28, 29, 30, 31, 32, 33, 34, 35, 36, 37, 38, 39, 40, 41, 42, 43, 44, 45, 46, 47, 48, 49, 50, 51, 52, 53, 54] (by decide +kernel) (by decide +kernel)
set_option maxRecDepth 20000 in
theorem gX9_share_X9_shareAnew : GoodIn wsX9_share (wsV RX9 148 RX9 yX9_shareAnew wsX9_shareAnew) := goodIn_app (goodIn_of _ (by decide +kernel)) ggX9_share_X9_shareAnew
theorem dX9_share_0 : decode cX9_share 0 = .ok (.aload_n 0, 1) := by decide +kernel
theorem dX9_share_1 : decode cX9_share 1 = .ok (.iload_n 1, 1) := by decide +kernel
theorem dX9_share_2 : decode cX9_share 2 = .ok (.invokevirtual 148, 3) := by decide +kernel
theorem dX9_share_5 : decode cX9_share 5 = .ok (.ireturn, 1) := by decide +kernel
set_option maxRecDepth 20000 in
theorem ggX9_shareAnew_X9_isWriter : GoodIn wsX9_shareAnew wsX9_isWriter := goodIn_r _ [7, 8, 9, 6, 10] (by decide +kernel) (by decide +kernel)
set_option maxRecDepth 20000 in
theorem gX9_shareAnew_X9_isWriter : GoodIn wsX9_shareAnew (va_wsS RX9 103 yX9_isWriter wsX9_isWriter) := goodIn_app (goodIn_of _ (by decide +kernel)) ggX9_shareAnew_X9_isWriter
set_option maxRecDepth 20000 in
theorem ggX9_shareAnew_X9_goesWell : GoodIn wsX9_shareAnew wsX9_goesWell := goodIn_r _ [14, 15, 16, 17, 18, 19, 20, 21, 22, 23, 24, 25, 26, 27, 28, 29, 30, 31, 32, 33, 34, 35, 36, 37, 38, 39, 40, 41, 42, 43, 44, 45, 46, 47, 48, 49, 50] (by decide +kernel) (by decide +kernel)
set_option maxRecDepth 20000 in
theorem gX9_shareAnew_X9_goesWell : GoodIn wsX9_shareAnew (wsV RX9 107 RX9 yX9_goesWell wsX9_goesWell) := goodIn_app (goodIn_of _ (by decide +kernel)) ggX9_shareAnew_X9_goesWell
theorem dX9_shareAnew_0 : decode cX9_shareAnew 0 = .ok (.aload_n 0, 1) := by decide +kernel
theorem dX9_shareAnew_1 : decode cX9_shareAnew 1 = .ok (.iload_n 1, 1) := by decide +kernel
theorem dX9_shareAnew_2 : decode cX9_shareAnew 2 = .ok (.invokestatic 103, 3) := by decide +kernel
theorem dX9_shareAnew_5 : decode cX9_shareAnew 5 = .ok (.ifCond .eq 7, 3) := by decide +kernel
theorem dX9_shareAnew_8 : decode cX9_shareAnew 8 = .ok (.iconst 0, 1) := by decide +kernel
theorem dX9_shareAnew_9 : decode cX9_shareAnew 9 = .ok (.goto 4, 3) := by decide +kernel
theorem dX9_shareAnew_12 : decode cX9_shareAnew 12 = .ok (.iconst 1, 1) := by decide +kernel
theorem dX9_shareAnew_13 : decode cX9_shareAnew 13 = .ok (.invokevirtual 107, 3) := by decide +kernel
theorem dX9_shareAnew_16 : decode cX9_shareAnew 16 = .ok (.ifCond .ne 5, 3) := by decide +kernel
theorem dX9_shareAnew_19 : decode cX9_shareAnew 19 = .ok (.iconst 0, 1) := by decide +kernel
theorem dX9_shareAnew_20 : decode cX9_shareAnew 20 = .ok (.ireturn, 1) := by decide +kernel
theorem dX9_shareAnew_21 : decode cX9_shareAnew 21 = .ok (.iconst 0, 1) := by decide +kernel
theorem dX9_shareAnew_22 : decode cX9_shareAnew 22 = .ok (.istore_n 2, 1) := by decide +kernel
theorem dX9_shareAnew_23 : decode cX9_shareAnew 23 = .ok (.iconst 0, 1) := by decide +kernel
theorem dX9_shareAnew_24 : decode cX9_shareAnew 24 = .ok (.istore_n 3, 1) := by decide +kernel
theorem dX9_shareAnew_25 : decode cX9_shareAnew 25 = .ok (.iload_n 3, 1) := by decide +kernel
theorem dX9_shareAnew_26 : decode cX9_shareAnew 26 = .ok (.aload_n 0, 1) := by decide +kernel
theorem dX9_shareAnew_27 : decode cX9_shareAnew 27 = .ok (.getfield 97, 3) := by decide +kernel
theorem dX9_shareAnew_30 : decode cX9_shareAnew 30 = .ok (.if_icmp .ge 36, 3) := by decide +kernel
theorem dX9_shareAnew_33 : decode cX9_shareAnew 33 = .ok (.iload_n 2, 1) := by decide +kernel
theorem dX9_shareAnew_34 : decode cX9_shareAnew 34 = .ok (.aload_n 0, 1) := by decide +kernel
theorem dX9_shareAnew_35 : decode cX9_shareAnew 35 = .ok (.getfield 23, 3) := by decide +kernel
theorem dX9_shareAnew_38 : decode cX9_shareAnew 38 = .ok (.iload_n 3, 1) := by decide +kernel
theorem dX9_shareAnew_39 : decode cX9_shareAnew 39 = .ok (.baload, 1) := by decide +kernel
theorem dX9_shareAnew_40 : decode cX9_shareAnew 40 = .ok (.ifCond .eq 17, 3) := by decide +kernel
theorem dX9_shareAnew_43 : decode cX9_shareAnew 43 = .ok (.aload_n 0, 1) := by decide +kernel
theorem dX9_shareAnew_44 : decode cX9_shareAnew 44 = .ok (.getfield 13, 3) := by decide +kernel
theorem dX9_shareAnew_47 : decode cX9_shareAnew 47 = .ok (.iload_n 3, 1) := by decide +kernel
theorem dX9_shareAnew_48 : decode cX9_shareAnew 48 = .ok (.iaload, 1) := by decide +kernel
theorem dX9_shareAnew_49 : decode cX9_shareAnew 49 = .ok (.iload_n 1, 1) := by decide +kernel
theorem dX9_shareAnew_50 : decode cX9_shareAnew 50 = .ok (.if_icmp .ne 7, 3) := by decide +kernel
theorem dX9_shareAnew_53 : decode cX9_shareAnew 53 = .ok (.iconst 1, 1) := by decide +kernel
theorem dX9_shareAnew_54 : decode cX9_shareAnew 54 = .ok (.goto 4, 3) := by decide +kernel
theorem dX9_shareAnew_57 : decode cX9_shareAnew 57 = .ok (.iconst 0, 1) := by decide +kernel
theorem dX9_shareAnew_58 : decode cX9_shareAnew 58 = .ok (.iadd, 1) := by decide +kernel
theorem dX9_shareAnew_59 : decode cX9_shareAnew 59 = .ok (.istore_n 2, 1) := by decide +kernel
theorem dX9_shareAnew_60 : decode cX9_shareAnew 60 = .ok (.iinc 3 1, 3) := by decide +kernel
theorem dX9_shareAnew_63 : decode cX9_shareAnew 63 = .ok (.goto (-38), 3) := by decide +kernel
theorem dX9_shareAnew_66 : decode cX9_shareAnew 66 = .ok (.iload_n 2, 1) := by decide +kernel
theorem dX9_shareAnew_67 : decode cX9_shareAnew 67 = .ok (.ireturn, 1) := by decide +kernel
set_option maxRecDepth 20000 in
theorem ggX9_setRate_X9_isReviewer : GoodIn wsX9_setRate wsX9_isReviewer := goodIn_r _ [5, 6, 7, 4, 8] (by decide +kernel) (by decide +kernel)
set_option maxRecDepth 20000 in
theorem gX9_setRate_X9_isReviewer : GoodIn wsX9_setRate (va_wsS RX9 151 yX9_isReviewer wsX9_isReviewer) := goodIn_app (goodIn_of _ (by decide +kernel)) ggX9_setRate_X9_isReviewer
set_option maxRecDepth 20000 in
theorem ggX9_setRate_X9_in : GoodIn wsX9_setRate wsX9_in := goodIn_r _ [8] (by decide +kernel) (by decide +kernel)
set_option maxRecDepth 20000 in
theorem gX9_setRate_X9_in : GoodIn wsX9_setRate (va_wsS RX9 93 yX9_in wsX9_in) := goodIn_app (goodIn_of _ (by decide +kernel)) ggX9_setRate_X9_in
set_option maxRecDepth 20000 in
theorem ggX9_setRate_X9_goesWell : GoodIn wsX9_setRate wsX9_goesWell := goodIn_r _ [12, 13, 14, 15, 16, 17, 18, 19, 20, 21, 22, 23, 24, 25, 26, 27, 28, 29, 30, 31, 32, 33, 34, 35, 36, 37, 38, 39, 40, 41, 42, 43, 44, 45, 46, 47, 48] (by decide +kernel) (by decide +kernel)
set_option maxRecDepth 20000 in
theorem gX9_setRate_X9_goesWell : GoodIn wsX9_setRate (wsV RX9 107 RX9 yX9_goesWell wsX9_goesWell) := goodIn_app (goodIn_of _ (by decide +kernel)) ggX9_setRate_X9_goesWell
theorem dX9_setRate_0 : decode cX9_setRate 0 = .ok (.iload_n 1, 1) := by decide +kernel
theorem dX9_setRate_1 : decode cX9_setRate 1 = .ok (.invokestatic 151, 3) := by decide +kernel
theorem dX9_setRate_4 : decode cX9_setRate 4 = .ok (.istore_n 3, 1) := by decide +kernel
theorem dX9_setRate_5 : decode cX9_setRate 5 = .ok (.aload_n 0, 1) := by decide +kernel
theorem dX9_setRate_6 : decode cX9_setRate 6 = .ok (.iload_n 3, 1) := by decide +kernel
theorem dX9_setRate_7 : decode cX9_setRate 7 = .ok (.ifCond .ne 7, 3) := by decide +kernel
theorem dX9_setRate_10 : decode cX9_setRate 10 = .ok (.iconst 1, 1) := by decide +kernel
theorem dX9_setRate_11 : decode cX9_setRate 11 = .ok (.goto 18, 3) := by decide +kernel
theorem dX9_setRate_14 : decode cX9_setRate 14 = .ok (.iload_n 2, 1) := by decide +kernel
theorem dX9_setRate_15 : decode cX9_setRate 15 = .ok (.iconst 0, 1) := by decide +kernel
theorem dX9_setRate_16 : decode cX9_setRate 16 = .ok (.bipush 100, 2) := by decide +kernel
theorem dX9_setRate_18 : decode cX9_setRate 18 = .ok (.invokestatic 93, 3) := by decide +kernel
theorem dX9_setRate_21 : decode cX9_setRate 21 = .ok (.ifCond .eq 7, 3) := by decide +kernel
theorem dX9_setRate_24 : decode cX9_setRate 24 = .ok (.iconst 0, 1) := by decide +kernel
theorem dX9_setRate_25 : decode cX9_setRate 25 = .ok (.goto 4, 3) := by decide +kernel
theorem dX9_setRate_28 : decode cX9_setRate 28 = .ok (.iconst 2, 1) := by decide +kernel
theorem dX9_setRate_29 : decode cX9_setRate 29 = .ok (.invokevirtual 107, 3) := by decide +kernel
theorem dX9_setRate_32 : decode cX9_setRate 32 = .ok (.ifCond .ne 5, 3) := by decide +kernel
theorem dX9_setRate_35 : decode cX9_setRate 35 = .ok (.iconst 0, 1) := by decide +kernel
theorem dX9_setRate_36 : decode cX9_setRate 36 = .ok (.ireturn, 1) := by decide +kernel
theorem dX9_setRate_37 : decode cX9_setRate 37 = .ok (.aload_n 0, 1) := by decide +kernel
theorem dX9_setRate_38 : decode cX9_setRate 38 = .ok (.getfield 47, 3) := by decide +kernel
theorem dX9_setRate_41 : decode cX9_setRate 41 = .ok (.iload_n 1, 1) := by decide +kernel
theorem dX9_setRate_42 : decode cX9_setRate 42 = .ok (.iaload, 1) := by decide +kernel
theorem dX9_setRate_43 : decode cX9_setRate 43 = .ok (.istore 4, 2) := by decide +kernel
theorem dX9_setRate_45 : decode cX9_setRate 45 = .ok (.aload_n 0, 1) := by decide +kernel
theorem dX9_setRate_46 : decode cX9_setRate 46 = .ok (.getfield 47, 3) := by decide +kernel
theorem dX9_setRate_49 : decode cX9_setRate 49 = .ok (.iload_n 1, 1) := by decide +kernel
theorem dX9_setRate_50 : decode cX9_setRate 50 = .ok (.iload_n 2, 1) := by decide +kernel
theorem dX9_setRate_51 : decode cX9_setRate 51 = .ok (.iastore, 1) := by decide +kernel
theorem dX9_setRate_52 : decode cX9_setRate 52 = .ok (.iload 4, 2) := by decide +kernel
theorem dX9_setRate_54 : decode cX9_setRate 54 = .ok (.ireturn, 1) := by decide +kernel
set_option maxRecDepth 20000 in
theorem ggX9_areFree_X9_textAt : GoodIn wsX9_areFree wsX9_textAt := goodIn_r _ [6, 7, 8, 9, 10, 11, 12, 13, 14, 15, 16, 17, 18, 19, 20, 21, 22, 23, 24, 25, 26, 27, 28, 29, 30, 31, 32, 33, 34, 35, 36, 37, 38, 39, 40, 41, 42, 43, 44] (by decide +kernel) (by decide +kernel)
set_option maxRecDepth 20000 in
theorem gX9_areFree_X9_textAt : GoodIn wsX9_areFree (wsV RX9 139 RX9 yX9_textAt wsX9_textAt) := goodIn_app (goodIn_of _ (by decide +kernel)) ggX9_areFree_X9_textAt
theorem dX9_areFree_0 : decode cX9_areFree 0 = .ok (.iconst 1, 1) := by decide +kernel
theorem dX9_areFree_1 : decode cX9_areFree 1 = .ok (.istore_n 3, 1) := by decide +kernel
theorem dX9_areFree_2 : decode cX9_areFree 2 = .ok (.iload_n 1, 1) := by decide +kernel
theorem dX9_areFree_3 : decode cX9_areFree 3 = .ok (.istore 4, 2) := by decide +kernel
theorem dX9_areFree_5 : decode cX9_areFree 5 = .ok (.iload 4, 2) := by decide +kernel
theorem dX9_areFree_7 : decode cX9_areFree 7 = .ok (.iload_n 2, 1) := by decide +kernel
theorem dX9_areFree_8 : decode cX9_areFree 8 = .ok (.if_icmp .gt 34, 3) := by decide +kernel
theorem dX9_areFree_11 : decode cX9_areFree 11 = .ok (.iload_n 3, 1) := by decide +kernel
theorem dX9_areFree_12 : decode cX9_areFree 12 = .ok (.ifCond .eq 22, 3) := by decide +kernel
theorem dX9_areFree_15 : decode cX9_areFree 15 = .ok (.aload_n 0, 1) := by decide +kernel
theorem dX9_areFree_16 : decode cX9_areFree 16 = .ok (.getfield 26, 3) := by decide +kernel
theorem dX9_areFree_19 : decode cX9_areFree 19 = .ok (.aload_n 0, 1) := by decide +kernel
theorem dX9_areFree_20 : decode cX9_areFree 20 = .ok (.iload 4, 2) := by decide +kernel
theorem dX9_areFree_22 : decode cX9_areFree 22 = .ok (.invokevirtual 139, 3) := by decide +kernel
theorem dX9_areFree_25 : decode cX9_areFree 25 = .ok (.iaload, 1) := by decide +kernel
theorem dX9_areFree_26 : decode cX9_areFree 26 = .ok (.iconst (-1), 1) := by decide +kernel
theorem dX9_areFree_27 : decode cX9_areFree 27 = .ok (.if_icmp .ne 7, 3) := by decide +kernel
theorem dX9_areFree_30 : decode cX9_areFree 30 = .ok (.iconst 1, 1) := by decide +kernel
theorem dX9_areFree_31 : decode cX9_areFree 31 = .ok (.goto 4, 3) := by decide +kernel
theorem dX9_areFree_34 : decode cX9_areFree 34 = .ok (.iconst 0, 1) := by decide +kernel
theorem dX9_areFree_35 : decode cX9_areFree 35 = .ok (.istore_n 3, 1) := by decide +kernel
theorem dX9_areFree_36 : decode cX9_areFree 36 = .ok (.iinc 4 1, 3) := by decide +kernel
theorem dX9_areFree_39 : decode cX9_areFree 39 = .ok (.goto (-34), 3) := by decide +kernel
theorem dX9_areFree_42 : decode cX9_areFree 42 = .ok (.iload_n 3, 1) := by decide +kernel
theorem dX9_areFree_43 : decode cX9_areFree 43 = .ok (.ireturn, 1) := by decide +kernel
set_option maxRecDepth 20000 in
theorem ggX9_order_X9_isReviewer : GoodIn wsX9_order wsX9_isReviewer := goodIn_r _ [11, 12, 13, 10, 14] (by decide +kernel) (by decide +kernel)
set_option maxRecDepth 20000 in
theorem gX9_order_X9_isReviewer : GoodIn wsX9_order (va_wsS RX9 151 yX9_isReviewer wsX9_isReviewer) := goodIn_app (goodIn_of _ (by decide +kernel)) ggX9_order_X9_isReviewer
set_option maxRecDepth 20000 in
theorem ggX9_order_X9_textAt : GoodIn wsX9_order wsX9_textAt := goodIn_r _ [18, 19, 20, 21, 31, 32, 33, 34, 35, 36, 37, 38, 39, 40, 41, 42, 43, 44, 45, 46, 47, 48, 49, 50, 51, 52, 53, 54, 55, 56, 57, 58, 59, 60, 61, 62, 63, 64, 65] (by decide +kernel) (by decide +kernel)
set_option maxRecDepth 20000 in
theorem gX9_order_X9_textAt : GoodIn wsX9_order (wsV RX9 139 RX9 yX9_textAt wsX9_textAt) := goodIn_app (goodIn_of _ (by decide +kernel)) ggX9_order_X9_textAt
set_option maxRecDepth 20000 in
theorem ggX9_order_X9_areFree : GoodIn wsX9_order wsX9_areFree := goodIn_r _ [25, 2, 15, 16, 17, 10, 18, 19, 20, 21, 31, 32, 33, 34, 35, 36, 37, 38, 39, 40, 41, 42, 43, 44, 45, 46, 47, 48, 49, 50, 51, 52, 53, 54, 55, 56, 57, 58, 59, 60, 61, 62, 63, 64, 65] (by decide +kernel) (by decide +kernel)
set_option maxRecDepth 20000 in
theorem gX9_order_X9_areFree : GoodIn wsX9_order (wsV RX9 154 RX9 yX9_areFree wsX9_areFree) := goodIn_app (goodIn_of _ (by decide +kernel)) ggX9_order_X9_areFree
set_option maxRecDepth 20000 in
theorem ggX9_order_X9_goesWell : GoodIn wsX9_order wsX9_goesWell := goodIn_r _ [29, 30, 31, 32, 33, 34, 35, 36, 37, 38, 39, 40, 41, 42, 43, 44, 45, 46, 47, 48, 49, 50, 51, 52, 53, 54, 55, 56, 57, 58, 59, 60, 61, 62, 63, 64, 65] (by decide +kernel) (by decide +kernel)
set_option maxRecDepth 20000 in
theorem gX9_order_X9_goesWell : GoodIn wsX9_order (wsV RX9 107 RX9 yX9_goesWell wsX9_goesWell) := goodIn_app (goodIn_of _ (by decide +kernel)) ggX9_order_X9_goesWell
theorem dX9_order_0 : decode cX9_order 0 = .ok (.iload_n 1, 1) := by decide +kernel
theorem dX9_order_1 : decode cX9_order 1 = .ok (.invokestatic 151, 3) := by decide +kernel
theorem dX9_order_4 : decode cX9_order 4 = .ok (.ifCond .eq 25, 3) := by decide +kernel
theorem dX9_order_7 : decode cX9_order 7 = .ok (.aload_n 0, 1) := by decide +kernel
theorem dX9_order_8 : decode cX9_order 8 = .ok (.iload_n 2, 1) := by decide +kernel
theorem dX9_order_9 : decode cX9_order 9 = .ok (.invokevirtual 139, 3) := by decide +kernel
theorem dX9_order_12 : decode cX9_order 12 = .ok (.iconst (-1), 1) := by decide +kernel
theorem dX9_order_13 : decode cX9_order 13 = .ok (.if_icmp .eq 16, 3) := by decide +kernel
theorem dX9_order_16 : decode cX9_order 16 = .ok (.aload_n 0, 1) := by decide +kernel
theorem dX9_order_17 : decode cX9_order 17 = .ok (.iload_n 3, 1) := by decide +kernel
theorem dX9_order_18 : decode cX9_order 18 = .ok (.invokevirtual 139, 3) := by decide +kernel
theorem dX9_order_21 : decode cX9_order 21 = .ok (.iconst (-1), 1) := by decide +kernel
theorem dX9_order_22 : decode cX9_order 22 = .ok (.if_icmp .eq 7, 3) := by decide +kernel
theorem dX9_order_25 : decode cX9_order 25 = .ok (.iconst 1, 1) := by decide +kernel
theorem dX9_order_26 : decode cX9_order 26 = .ok (.goto 4, 3) := by decide +kernel
theorem dX9_order_29 : decode cX9_order 29 = .ok (.iconst 0, 1) := by decide +kernel
theorem dX9_order_30 : decode cX9_order 30 = .ok (.istore 4, 2) := by decide +kernel
theorem dX9_order_32 : decode cX9_order 32 = .ok (.iload 4, 2) := by decide +kernel
theorem dX9_order_34 : decode cX9_order 34 = .ok (.ifCond .eq 30, 3) := by decide +kernel
theorem dX9_order_37 : decode cX9_order 37 = .ok (.iload_n 2, 1) := by decide +kernel
theorem dX9_order_38 : decode cX9_order 38 = .ok (.iload_n 3, 1) := by decide +kernel
theorem dX9_order_39 : decode cX9_order 39 = .ok (.if_icmp .gt 25, 3) := by decide +kernel
theorem dX9_order_42 : decode cX9_order 42 = .ok (.aload_n 0, 1) := by decide +kernel
theorem dX9_order_43 : decode cX9_order 43 = .ok (.getfield 100, 3) := by decide +kernel
theorem dX9_order_46 : decode cX9_order 46 = .ok (.bipush 30, 2) := by decide +kernel
theorem dX9_order_48 : decode cX9_order 48 = .ok (.if_icmp .ge 16, 3) := by decide +kernel
theorem dX9_order_51 : decode cX9_order 51 = .ok (.aload_n 0, 1) := by decide +kernel
theorem dX9_order_52 : decode cX9_order 52 = .ok (.iload_n 2, 1) := by decide +kernel
theorem dX9_order_53 : decode cX9_order 53 = .ok (.iload_n 3, 1) := by decide +kernel
theorem dX9_order_54 : decode cX9_order 54 = .ok (.invokevirtual 154, 3) := by decide +kernel
theorem dX9_order_57 : decode cX9_order 57 = .ok (.ifCond .eq 7, 3) := by decide +kernel
theorem dX9_order_60 : decode cX9_order 60 = .ok (.iconst 1, 1) := by decide +kernel
theorem dX9_order_61 : decode cX9_order 61 = .ok (.goto 4, 3) := by decide +kernel
theorem dX9_order_64 : decode cX9_order 64 = .ok (.iconst 0, 1) := by decide +kernel
theorem dX9_order_65 : decode cX9_order 65 = .ok (.istore 5, 2) := by decide +kernel
theorem dX9_order_67 : decode cX9_order 67 = .ok (.aload_n 0, 1) := by decide +kernel
theorem dX9_order_68 : decode cX9_order 68 = .ok (.iload 4, 2) := by decide +kernel
theorem dX9_order_70 : decode cX9_order 70 = .ok (.ifCond .ne 7, 3) := by decide +kernel
theorem dX9_order_73 : decode cX9_order 73 = .ok (.iconst 1, 1) := by decide +kernel
theorem dX9_order_74 : decode cX9_order 74 = .ok (.goto 22, 3) := by decide +kernel
theorem dX9_order_77 : decode cX9_order 77 = .ok (.iload_n 3, 1) := by decide +kernel
theorem dX9_order_78 : decode cX9_order 78 = .ok (.iload_n 2, 1) := by decide +kernel
theorem dX9_order_79 : decode cX9_order 79 = .ok (.if_icmp .ge 7, 3) := by decide +kernel
theorem dX9_order_82 : decode cX9_order 82 = .ok (.iconst 2, 1) := by decide +kernel
theorem dX9_order_83 : decode cX9_order 83 = .ok (.goto 13, 3) := by decide +kernel
theorem dX9_order_86 : decode cX9_order 86 = .ok (.iload 5, 2) := by decide +kernel
theorem dX9_order_88 : decode cX9_order 88 = .ok (.ifCond .eq 7, 3) := by decide +kernel
theorem dX9_order_91 : decode cX9_order 91 = .ok (.iconst 0, 1) := by decide +kernel
theorem dX9_order_92 : decode cX9_order 92 = .ok (.goto 4, 3) := by decide +kernel
theorem dX9_order_95 : decode cX9_order 95 = .ok (.iconst 3, 1) := by decide +kernel
theorem dX9_order_96 : decode cX9_order 96 = .ok (.invokevirtual 107, 3) := by decide +kernel
theorem dX9_order_99 : decode cX9_order 99 = .ok (.ifCond .ne 5, 3) := by decide +kernel
theorem dX9_order_102 : decode cX9_order 102 = .ok (.iconst 0, 1) := by decide +kernel
theorem dX9_order_103 : decode cX9_order 103 = .ok (.ireturn, 1) := by decide +kernel
theorem dX9_order_104 : decode cX9_order 104 = .ok (.iload_n 2, 1) := by decide +kernel
theorem dX9_order_105 : decode cX9_order 105 = .ok (.istore 6, 2) := by decide +kernel
theorem dX9_order_107 : decode cX9_order 107 = .ok (.iload 6, 2) := by decide +kernel
theorem dX9_order_109 : decode cX9_order 109 = .ok (.iload_n 3, 1) := by decide +kernel
theorem dX9_order_110 : decode cX9_order 110 = .ok (.if_icmp .gt 24, 3) := by decide +kernel
theorem dX9_order_113 : decode cX9_order 113 = .ok (.aload_n 0, 1) := by decide +kernel
theorem dX9_order_114 : decode cX9_order 114 = .ok (.getfield 26, 3) := by decide +kernel
theorem dX9_order_117 : decode cX9_order 117 = .ok (.aload_n 0, 1) := by decide +kernel
theorem dX9_order_118 : decode cX9_order 118 = .ok (.iload 6, 2) := by decide +kernel
theorem dX9_order_120 : decode cX9_order 120 = .ok (.invokevirtual 139, 3) := by decide +kernel
theorem dX9_order_123 : decode cX9_order 123 = .ok (.aload_n 0, 1) := by decide +kernel
theorem dX9_order_124 : decode cX9_order 124 = .ok (.getfield 100, 3) := by decide +kernel
theorem dX9_order_127 : decode cX9_order 127 = .ok (.iastore, 1) := by decide +kernel
theorem dX9_order_128 : decode cX9_order 128 = .ok (.iinc 6 1, 3) := by decide +kernel
theorem dX9_order_131 : decode cX9_order 131 = .ok (.goto (-24), 3) := by decide +kernel
theorem dX9_order_134 : decode cX9_order 134 = .ok (.aload_n 0, 1) := by decide +kernel
theorem dX9_order_135 : decode cX9_order 135 = .ok (.getfield 53, 3) := by decide +kernel
theorem dX9_order_138 : decode cX9_order 138 = .ok (.aload_n 0, 1) := by decide +kernel
theorem dX9_order_139 : decode cX9_order 139 = .ok (.getfield 100, 3) := by decide +kernel
theorem dX9_order_142 : decode cX9_order 142 = .ok (.iload_n 1, 1) := by decide +kernel
theorem dX9_order_143 : decode cX9_order 143 = .ok (.iastore, 1) := by decide +kernel
theorem dX9_order_144 : decode cX9_order 144 = .ok (.aload_n 0, 1) := by decide +kernel
theorem dX9_order_145 : decode cX9_order 145 = .ok (.getfield 56, 3) := by decide +kernel
theorem dX9_order_148 : decode cX9_order 148 = .ok (.aload_n 0, 1) := by decide +kernel
theorem dX9_order_149 : decode cX9_order 149 = .ok (.getfield 100, 3) := by decide +kernel
theorem dX9_order_152 : decode cX9_order 152 = .ok (.iconst 0, 1) := by decide +kernel
theorem dX9_order_153 : decode cX9_order 153 = .ok (.iastore, 1) := by decide +kernel
theorem dX9_order_154 : decode cX9_order 154 = .ok (.aload_n 0, 1) := by decide +kernel
theorem dX9_order_155 : decode cX9_order 155 = .ok (.getfield 59, 3) := by decide +kernel
theorem dX9_order_158 : decode cX9_order 158 = .ok (.aload_n 0, 1) := by decide +kernel
theorem dX9_order_159 : decode cX9_order 159 = .ok (.getfield 100, 3) := by decide +kernel
theorem dX9_order_162 : decode cX9_order 162 = .ok (.iload_n 3, 1) := by decide +kernel
theorem dX9_order_163 : decode cX9_order 163 = .ok (.iload_n 2, 1) := by decide +kernel
theorem dX9_order_164 : decode cX9_order 164 = .ok (.isub, 1) := by decide +kernel
theorem dX9_order_165 : decode cX9_order 165 = .ok (.iconst 1, 1) := by decide +kernel
theorem dX9_order_166 : decode cX9_order 166 = .ok (.iadd, 1) := by decide +kernel
theorem dX9_order_167 : decode cX9_order 167 = .ok (.iastore, 1) := by decide +kernel
theorem dX9_order_168 : decode cX9_order 168 = .ok (.aload_n 0, 1) := by decide +kernel
theorem dX9_order_169 : decode cX9_order 169 = .ok (.getfield 62, 3) := by decide +kernel
theorem dX9_order_172 : decode cX9_order 172 = .ok (.aload_n 0, 1) := by decide +kernel
theorem dX9_order_173 : decode cX9_order 173 = .ok (.getfield 100, 3) := by decide +kernel
theorem dX9_order_176 : decode cX9_order 176 = .ok (.aload_n 0, 1) := by decide +kernel
theorem dX9_order_177 : decode cX9_order 177 = .ok (.getfield 59, 3) := by decide +kernel
theorem dX9_order_180 : decode cX9_order 180 = .ok (.aload_n 0, 1) := by decide +kernel
theorem dX9_order_181 : decode cX9_order 181 = .ok (.getfield 100, 3) := by decide +kernel
theorem dX9_order_184 : decode cX9_order 184 = .ok (.iaload, 1) := by decide +kernel
theorem dX9_order_185 : decode cX9_order 185 = .ok (.aload_n 0, 1) := by decide +kernel
theorem dX9_order_186 : decode cX9_order 186 = .ok (.getfield 47, 3) := by decide +kernel
theorem dX9_order_189 : decode cX9_order 189 = .ok (.iload_n 1, 1) := by decide +kernel
theorem dX9_order_190 : decode cX9_order 190 = .ok (.iaload, 1) := by decide +kernel
theorem dX9_order_191 : decode cX9_order 191 = .ok (.imul, 1) := by decide +kernel
theorem dX9_order_192 : decode cX9_order 192 = .ok (.iastore, 1) := by decide +kernel
theorem dX9_order_193 : decode cX9_order 193 = .ok (.aload_n 0, 1) := by decide +kernel
theorem dX9_order_194 : decode cX9_order 194 = .ok (.dup, 1) := by decide +kernel
theorem dX9_order_195 : decode cX9_order 195 = .ok (.getfield 100, 3) := by decide +kernel
theorem dX9_order_198 : decode cX9_order 198 = .ok (.iconst 1, 1) := by decide +kernel
theorem dX9_order_199 : decode cX9_order 199 = .ok (.iadd, 1) := by decide +kernel
theorem dX9_order_200 : decode cX9_order 200 = .ok (.putfield 100, 3) := by decide +kernel
theorem dX9_order_203 : decode cX9_order 203 = .ok (.aload_n 0, 1) := by decide +kernel
theorem dX9_order_204 : decode cX9_order 204 = .ok (.getfield 100, 3) := by decide +kernel
theorem dX9_order_207 : decode cX9_order 207 = .ok (.iconst 1, 1) := by decide +kernel
theorem dX9_order_208 : decode cX9_order 208 = .ok (.isub, 1) := by decide +kernel
theorem dX9_order_209 : decode cX9_order 209 = .ok (.ireturn, 1) := by decide +kernel
set_option maxRecDepth 20000 in
theorem ggX9_finish_X9_isReview : GoodIn wsX9_finish wsX9_isReview := goodIn_r _ [12, 13, 14, 15, 11, 16, 22, 23, 24, 25, 26, 27, 28, 29, 30, 31, 32, 33, 34, 35, 36, 37, 38, 39, 40, 41, 42, 43, 44, 45, 46, 47, 48, 49, 50, 51, 52, 53, 54, 55, 56] (by decide +kernel) (by decide +kernel)
set_option maxRecDepth 20000 in
theorem gX9_finish_X9_isReview : GoodIn wsX9_finish (wsV RX9 157 RX9 yX9_isReview wsX9_isReview) := goodIn_app (goodIn_of _ (by decide +kernel)) ggX9_finish_X9_isReview
set_option maxRecDepth 20000 in
theorem ggX9_finish_X9_in : GoodIn wsX9_finish wsX9_in := goodIn_r _ [16] (by decide +kernel) (by decide +kernel)
set_option maxRecDepth 20000 in
theorem gX9_finish_X9_in : GoodIn wsX9_finish (va_wsS RX9 93 yX9_in wsX9_in) := goodIn_app (goodIn_of _ (by decide +kernel)) ggX9_finish_X9_in
set_option maxRecDepth 20000 in
theorem ggX9_finish_X9_goesWell : GoodIn wsX9_finish wsX9_goesWell := goodIn_r _ [20, 21, 22, 23, 24, 25, 26, 27, 28, 29, 30, 31, 32, 33, 34, 35, 36, 37, 38, 39, 40, 41, 42, 43, 44, 45, 46, 47, 48, 49, 50, 51, 52, 53, 54, 55, 56] (by decide +kernel) (by decide +kernel)
set_option maxRecDepth 20000 in
theorem gX9_finish_X9_goesWell : GoodIn wsX9_finish (wsV RX9 107 RX9 yX9_goesWell wsX9_goesWell) := goodIn_app (goodIn_of _ (by decide +kernel)) ggX9_finish_X9_goesWell
theorem dX9_finish_0 : decode cX9_finish 0 = .ok (.aload_n 0, 1) := by decide +kernel
theorem dX9_finish_1 : decode cX9_finish 1 = .ok (.iload_n 1, 1) := by decide +kernel
theorem dX9_finish_2 : decode cX9_finish 2 = .ok (.invokevirtual 157, 3) := by decide +kernel
theorem dX9_finish_5 : decode cX9_finish 5 = .ok (.istore_n 3, 1) := by decide +kernel
theorem dX9_finish_6 : decode cX9_finish 6 = .ok (.aload_n 0, 1) := by decide +kernel
theorem dX9_finish_7 : decode cX9_finish 7 = .ok (.iload_n 3, 1) := by decide +kernel
theorem dX9_finish_8 : decode cX9_finish 8 = .ok (.ifCond .ne 7, 3) := by decide +kernel
theorem dX9_finish_11 : decode cX9_finish 11 = .ok (.iconst 1, 1) := by decide +kernel
theorem dX9_finish_12 : decode cX9_finish 12 = .ok (.goto 31, 3) := by decide +kernel
theorem dX9_finish_15 : decode cX9_finish 15 = .ok (.iload_n 2, 1) := by decide +kernel
theorem dX9_finish_16 : decode cX9_finish 16 = .ok (.iconst 0, 1) := by decide +kernel
theorem dX9_finish_17 : decode cX9_finish 17 = .ok (.bipush 9, 2) := by decide +kernel
theorem dX9_finish_19 : decode cX9_finish 19 = .ok (.invokestatic 93, 3) := by decide +kernel
theorem dX9_finish_22 : decode cX9_finish 22 = .ok (.ifCond .ne 7, 3) := by decide +kernel
theorem dX9_finish_25 : decode cX9_finish 25 = .ok (.iconst 2, 1) := by decide +kernel
theorem dX9_finish_26 : decode cX9_finish 26 = .ok (.goto 17, 3) := by decide +kernel
theorem dX9_finish_29 : decode cX9_finish 29 = .ok (.aload_n 0, 1) := by decide +kernel
theorem dX9_finish_30 : decode cX9_finish 30 = .ok (.getfield 56, 3) := by decide +kernel
theorem dX9_finish_33 : decode cX9_finish 33 = .ok (.iload_n 1, 1) := by decide +kernel
theorem dX9_finish_34 : decode cX9_finish 34 = .ok (.iaload, 1) := by decide +kernel
theorem dX9_finish_35 : decode cX9_finish 35 = .ok (.ifCond .eq 7, 3) := by decide +kernel
theorem dX9_finish_38 : decode cX9_finish 38 = .ok (.iconst 3, 1) := by decide +kernel
theorem dX9_finish_39 : decode cX9_finish 39 = .ok (.goto 4, 3) := by decide +kernel
theorem dX9_finish_42 : decode cX9_finish 42 = .ok (.iconst 0, 1) := by decide +kernel
theorem dX9_finish_43 : decode cX9_finish 43 = .ok (.invokevirtual 107, 3) := by decide +kernel
theorem dX9_finish_46 : decode cX9_finish 46 = .ok (.ifCond .ne 5, 3) := by decide +kernel
theorem dX9_finish_49 : decode cX9_finish 49 = .ok (.iconst 0, 1) := by decide +kernel
theorem dX9_finish_50 : decode cX9_finish 50 = .ok (.ireturn, 1) := by decide +kernel
theorem dX9_finish_51 : decode cX9_finish 51 = .ok (.aload_n 0, 1) := by decide +kernel
theorem dX9_finish_52 : decode cX9_finish 52 = .ok (.getfield 56, 3) := by decide +kernel
theorem dX9_finish_55 : decode cX9_finish 55 = .ok (.iload_n 1, 1) := by decide +kernel
theorem dX9_finish_56 : decode cX9_finish 56 = .ok (.iconst 1, 1) := by decide +kernel
theorem dX9_finish_57 : decode cX9_finish 57 = .ok (.iastore, 1) := by decide +kernel
theorem dX9_finish_58 : decode cX9_finish 58 = .ok (.aload_n 0, 1) := by decide +kernel
theorem dX9_finish_59 : decode cX9_finish 59 = .ok (.getfield 65, 3) := by decide +kernel
theorem dX9_finish_62 : decode cX9_finish 62 = .ok (.iload_n 1, 1) := by decide +kernel
theorem dX9_finish_63 : decode cX9_finish 63 = .ok (.iload_n 2, 1) := by decide +kernel
theorem dX9_finish_64 : decode cX9_finish 64 = .ok (.iastore, 1) := by decide +kernel
theorem dX9_finish_65 : decode cX9_finish 65 = .ok (.aload_n 0, 1) := by decide +kernel
theorem dX9_finish_66 : decode cX9_finish 66 = .ok (.getfield 68, 3) := by decide +kernel
theorem dX9_finish_69 : decode cX9_finish 69 = .ok (.iload_n 1, 1) := by decide +kernel
theorem dX9_finish_70 : decode cX9_finish 70 = .ok (.aload_n 0, 1) := by decide +kernel
theorem dX9_finish_71 : decode cX9_finish 71 = .ok (.getfield 160, 3) := by decide +kernel
theorem dX9_finish_74 : decode cX9_finish 74 = .ok (.iastore, 1) := by decide +kernel
theorem dX9_finish_75 : decode cX9_finish 75 = .ok (.aload_n 0, 1) := by decide +kernel
theorem dX9_finish_76 : decode cX9_finish 76 = .ok (.dup, 1) := by decide +kernel
theorem dX9_finish_77 : decode cX9_finish 77 = .ok (.getfield 160, 3) := by decide +kernel
theorem dX9_finish_80 : decode cX9_finish 80 = .ok (.iconst 1, 1) := by decide +kernel
theorem dX9_finish_81 : decode cX9_finish 81 = .ok (.iadd, 1) := by decide +kernel
theorem dX9_finish_82 : decode cX9_finish 82 = .ok (.putfield 160, 3) := by decide +kernel
theorem dX9_finish_85 : decode cX9_finish 85 = .ok (.aload_n 0, 1) := by decide +kernel
theorem dX9_finish_86 : decode cX9_finish 86 = .ok (.getfield 50, 3) := by decide +kernel
theorem dX9_finish_89 : decode cX9_finish 89 = .ok (.aload_n 0, 1) := by decide +kernel
theorem dX9_finish_90 : decode cX9_finish 90 = .ok (.getfield 53, 3) := by decide +kernel
theorem dX9_finish_93 : decode cX9_finish 93 = .ok (.iload_n 1, 1) := by decide +kernel
theorem dX9_finish_94 : decode cX9_finish 94 = .ok (.iaload, 1) := by decide +kernel
theorem dX9_finish_95 : decode cX9_finish 95 = .ok (.dup2, 1) := by decide +kernel
theorem dX9_finish_96 : decode cX9_finish 96 = .ok (.iaload, 1) := by decide +kernel
theorem dX9_finish_97 : decode cX9_finish 97 = .ok (.aload_n 0, 1) := by decide +kernel
theorem dX9_finish_98 : decode cX9_finish 98 = .ok (.getfield 62, 3) := by decide +kernel
theorem dX9_finish_101 : decode cX9_finish 101 = .ok (.iload_n 1, 1) := by decide +kernel
theorem dX9_finish_102 : decode cX9_finish 102 = .ok (.iaload, 1) := by decide +kernel
theorem dX9_finish_103 : decode cX9_finish 103 = .ok (.iadd, 1) := by decide +kernel
theorem dX9_finish_104 : decode cX9_finish 104 = .ok (.iastore, 1) := by decide +kernel
theorem dX9_finish_105 : decode cX9_finish 105 = .ok (.aload_n 0, 1) := by decide +kernel
theorem dX9_finish_106 : decode cX9_finish 106 = .ok (.getfield 50, 3) := by decide +kernel
theorem dX9_finish_109 : decode cX9_finish 109 = .ok (.aload_n 0, 1) := by decide +kernel
theorem dX9_finish_110 : decode cX9_finish 110 = .ok (.getfield 53, 3) := by decide +kernel
theorem dX9_finish_113 : decode cX9_finish 113 = .ok (.iload_n 1, 1) := by decide +kernel
theorem dX9_finish_114 : decode cX9_finish 114 = .ok (.iaload, 1) := by decide +kernel
theorem dX9_finish_115 : decode cX9_finish 115 = .ok (.iaload, 1) := by decide +kernel
theorem dX9_finish_116 : decode cX9_finish 116 = .ok (.ireturn, 1) := by decide +kernel
theorem dX9_thaw_0 : decode cX9_thaw 0 = .ok (.iconst 0, 1) := by decide +kernel
theorem dX9_thaw_1 : decode cX9_thaw 1 = .ok (.istore_n 2, 1) := by decide +kernel
theorem dX9_thaw_2 : decode cX9_thaw 2 = .ok (.iload_n 2, 1) := by decide +kernel
theorem dX9_thaw_3 : decode cX9_thaw 3 = .ok (.aload_n 0, 1) := by decide +kernel
theorem dX9_thaw_4 : decode cX9_thaw 4 = .ok (.getfield 97, 3) := by decide +kernel
theorem dX9_thaw_7 : decode cX9_thaw 7 = .ok (.if_icmp .ge 35, 3) := by decide +kernel
theorem dX9_thaw_10 : decode cX9_thaw 10 = .ok (.aload_n 0, 1) := by decide +kernel
theorem dX9_thaw_11 : decode cX9_thaw 11 = .ok (.getfield 26, 3) := by decide +kernel
theorem dX9_thaw_14 : decode cX9_thaw 14 = .ok (.iload_n 2, 1) := by decide +kernel
theorem dX9_thaw_15 : decode cX9_thaw 15 = .ok (.aload_n 0, 1) := by decide +kernel
theorem dX9_thaw_16 : decode cX9_thaw 16 = .ok (.getfield 26, 3) := by decide +kernel
theorem dX9_thaw_19 : decode cX9_thaw 19 = .ok (.iload_n 2, 1) := by decide +kernel
theorem dX9_thaw_20 : decode cX9_thaw 20 = .ok (.iaload, 1) := by decide +kernel
theorem dX9_thaw_21 : decode cX9_thaw 21 = .ok (.iload_n 1, 1) := by decide +kernel
theorem dX9_thaw_22 : decode cX9_thaw 22 = .ok (.if_icmp .ne 7, 3) := by decide +kernel
theorem dX9_thaw_25 : decode cX9_thaw 25 = .ok (.iconst (-1), 1) := by decide +kernel
theorem dX9_thaw_26 : decode cX9_thaw 26 = .ok (.goto 9, 3) := by decide +kernel
theorem dX9_thaw_29 : decode cX9_thaw 29 = .ok (.aload_n 0, 1) := by decide +kernel
theorem dX9_thaw_30 : decode cX9_thaw 30 = .ok (.getfield 26, 3) := by decide +kernel
theorem dX9_thaw_33 : decode cX9_thaw 33 = .ok (.iload_n 2, 1) := by decide +kernel
theorem dX9_thaw_34 : decode cX9_thaw 34 = .ok (.iaload, 1) := by decide +kernel
theorem dX9_thaw_35 : decode cX9_thaw 35 = .ok (.iastore, 1) := by decide +kernel
theorem dX9_thaw_36 : decode cX9_thaw 36 = .ok (.iinc 2 1, 3) := by decide +kernel
theorem dX9_thaw_39 : decode cX9_thaw 39 = .ok (.goto (-37), 3) := by decide +kernel
theorem dX9_thaw_42 : decode cX9_thaw 42 = .ok (.return_, 1) := by decide +kernel
set_option maxRecDepth 20000 in
theorem ggX9_cancel_X9_isReview : GoodIn wsX9_cancel wsX9_isReview := goodIn_r _ [7, 8, 9, 10, 6, 11, 23, 24, 25, 26, 27, 28, 29, 30, 31, 32, 33, 34, 35, 36, 37, 38, 39, 40, 41, 42, 43, 44, 45, 46, 47, 48, 49, 50, 51, 52, 53, 54, 55, 56, 57] (by decide +kernel) (by decide +kernel)
set_option maxRecDepth 20000 in
theorem gX9_cancel_X9_isReview : GoodIn wsX9_cancel (wsV RX9 157 RX9 yX9_isReview wsX9_isReview) := goodIn_app (goodIn_of _ (by decide +kernel)) ggX9_cancel_X9_isReview
set_option maxRecDepth 20000 in
theorem ggX9_cancel_X9_goesWell : GoodIn wsX9_cancel wsX9_goesWell := goodIn_r _ [15, 16, 23, 24, 25, 26, 27, 28, 29, 30, 31, 32, 33, 34, 35, 36, 37, 38, 39, 40, 41, 42, 43, 44, 45, 46, 47, 48, 49, 50, 51, 52, 53, 54, 55, 56, 57] (by decide +kernel) (by decide +kernel)
set_option maxRecDepth 20000 in
theorem gX9_cancel_X9_goesWell : GoodIn wsX9_cancel (wsV RX9 107 RX9 yX9_goesWell wsX9_goesWell) := goodIn_app (goodIn_of _ (by decide +kernel)) ggX9_cancel_X9_goesWell
set_option maxRecDepth 20000 in
theorem ggX9_cancel_X9_thaw : GoodIn wsX9_cancel wsX9_thaw := goodIn_r _ [20, 21, 22, 23, 24, 25, 26, 27, 28, 29, 30, 31, 32, 33, 34, 35, 36, 37, 38, 39, 40, 41, 42, 43, 44, 45, 46, 47, 48, 49, 50, 51, 52, 53, 54, 55, 56, 57] (by decide +kernel) (by decide +kernel)
set_option maxRecDepth 20000 in
theorem gX9_cancel_X9_thaw : GoodIn wsX9_cancel (wsV RX9 163 RX9 yX9_thaw wsX9_thaw) := goodIn_app (goodIn_of _ (by decide +kernel)) ggX9_cancel_X9_thaw
theorem dX9_cancel_0 : decode cX9_cancel 0 = .ok (.aload_n 0, 1) := by decide +kernel
theorem dX9_cancel_1 : decode cX9_cancel 1 = .ok (.iload_n 1, 1) := by decide +kernel
theorem dX9_cancel_2 : decode cX9_cancel 2 = .ok (.invokevirtual 157, 3) := by decide +kernel
theorem dX9_cancel_5 : decode cX9_cancel 5 = .ok (.istore_n 2, 1) := by decide +kernel
theorem dX9_cancel_6 : decode cX9_cancel 6 = .ok (.aload_n 0, 1) := by decide +kernel
theorem dX9_cancel_7 : decode cX9_cancel 7 = .ok (.iload_n 2, 1) := by decide +kernel
theorem dX9_cancel_8 : decode cX9_cancel 8 = .ok (.ifCond .ne 7, 3) := by decide +kernel
theorem dX9_cancel_11 : decode cX9_cancel 11 = .ok (.iconst 1, 1) := by decide +kernel
theorem dX9_cancel_12 : decode cX9_cancel 12 = .ok (.goto 17, 3) := by decide +kernel
theorem dX9_cancel_15 : decode cX9_cancel 15 = .ok (.aload_n 0, 1) := by decide +kernel
theorem dX9_cancel_16 : decode cX9_cancel 16 = .ok (.getfield 56, 3) := by decide +kernel
theorem dX9_cancel_19 : decode cX9_cancel 19 = .ok (.iload_n 1, 1) := by decide +kernel
theorem dX9_cancel_20 : decode cX9_cancel 20 = .ok (.iaload, 1) := by decide +kernel
theorem dX9_cancel_21 : decode cX9_cancel 21 = .ok (.ifCond .eq 7, 3) := by decide +kernel
theorem dX9_cancel_24 : decode cX9_cancel 24 = .ok (.iconst 2, 1) := by decide +kernel
theorem dX9_cancel_25 : decode cX9_cancel 25 = .ok (.goto 4, 3) := by decide +kernel
theorem dX9_cancel_28 : decode cX9_cancel 28 = .ok (.iconst 0, 1) := by decide +kernel
theorem dX9_cancel_29 : decode cX9_cancel 29 = .ok (.invokevirtual 107, 3) := by decide +kernel
theorem dX9_cancel_32 : decode cX9_cancel 32 = .ok (.ifCond .ne 5, 3) := by decide +kernel
theorem dX9_cancel_35 : decode cX9_cancel 35 = .ok (.iconst 0, 1) := by decide +kernel
theorem dX9_cancel_36 : decode cX9_cancel 36 = .ok (.ireturn, 1) := by decide +kernel
theorem dX9_cancel_37 : decode cX9_cancel 37 = .ok (.aload_n 0, 1) := by decide +kernel
theorem dX9_cancel_38 : decode cX9_cancel 38 = .ok (.getfield 56, 3) := by decide +kernel
theorem dX9_cancel_41 : decode cX9_cancel 41 = .ok (.iload_n 1, 1) := by decide +kernel
theorem dX9_cancel_42 : decode cX9_cancel 42 = .ok (.iconst 2, 1) := by decide +kernel
theorem dX9_cancel_43 : decode cX9_cancel 43 = .ok (.iastore, 1) := by decide +kernel
theorem dX9_cancel_44 : decode cX9_cancel 44 = .ok (.aload_n 0, 1) := by decide +kernel
theorem dX9_cancel_45 : decode cX9_cancel 45 = .ok (.iload_n 1, 1) := by decide +kernel
theorem dX9_cancel_46 : decode cX9_cancel 46 = .ok (.invokevirtual 163, 3) := by decide +kernel
theorem dX9_cancel_49 : decode cX9_cancel 49 = .ok (.aload_n 0, 1) := by decide +kernel
theorem dX9_cancel_50 : decode cX9_cancel 50 = .ok (.getfield 59, 3) := by decide +kernel
theorem dX9_cancel_53 : decode cX9_cancel 53 = .ok (.iload_n 1, 1) := by decide +kernel
theorem dX9_cancel_54 : decode cX9_cancel 54 = .ok (.iaload, 1) := by decide +kernel
theorem dX9_cancel_55 : decode cX9_cancel 55 = .ok (.ireturn, 1) := by decide +kernel
set_option maxRecDepth 20000 in
theorem ggX9_stateOf_X9_isReview : GoodIn wsX9_stateOf wsX9_isReview := goodIn_r _ [6, 7, 8, 9, 5, 10, 16, 17, 18, 19, 20, 21, 22, 23, 24, 25, 26, 27, 28, 29, 30, 31, 32, 33, 34, 35, 36, 37, 38, 39, 40, 41, 42, 43, 44, 45, 46, 47, 48, 49, 50] (by decide +kernel) (by decide +kernel)
set_option maxRecDepth 20000 in
theorem gX9_stateOf_X9_isReview : GoodIn wsX9_stateOf (wsV RX9 157 RX9 yX9_isReview wsX9_isReview) := goodIn_app (goodIn_of _ (by decide +kernel)) ggX9_stateOf_X9_isReview
set_option maxRecDepth 20000 in
theorem ggX9_stateOf_X9_goesWell : GoodIn wsX9_stateOf wsX9_goesWell := goodIn_r _ [14, 15, 16, 17, 18, 19, 20, 21, 22, 23, 24, 25, 26, 27, 28, 29, 30, 31, 32, 33, 34, 35, 36, 37, 38, 39, 40, 41, 42, 43, 44, 45, 46, 47, 48, 49, 50] (by decide +kernel) (by decide +kernel)
set_option maxRecDepth 20000 in
theorem gX9_stateOf_X9_goesWell : GoodIn wsX9_stateOf (wsV RX9 107 RX9 yX9_goesWell wsX9_goesWell) := goodIn_app (goodIn_of _ (by decide +kernel)) ggX9_stateOf_X9_goesWell
theorem dX9_stateOf_0 : decode cX9_stateOf 0 = .ok (.aload_n 0, 1) := by decide +kernel
theorem dX9_stateOf_1 : decode cX9_stateOf 1 = .ok (.aload_n 0, 1) := by decide +kernel
theorem dX9_stateOf_2 : decode cX9_stateOf 2 = .ok (.iload_n 1, 1) := by decide +kernel
theorem dX9_stateOf_3 : decode cX9_stateOf 3 = .ok (.invokevirtual 157, 3) := by decide +kernel
theorem dX9_stateOf_6 : decode cX9_stateOf 6 = .ok (.ifCond .eq 7, 3) := by decide +kernel
theorem dX9_stateOf_9 : decode cX9_stateOf 9 = .ok (.iconst 0, 1) := by decide +kernel
theorem dX9_stateOf_10 : decode cX9_stateOf 10 = .ok (.goto 4, 3) := by decide +kernel
theorem dX9_stateOf_13 : decode cX9_stateOf 13 = .ok (.iconst 1, 1) := by decide +kernel
theorem dX9_stateOf_14 : decode cX9_stateOf 14 = .ok (.invokevirtual 107, 3) := by decide +kernel
theorem dX9_stateOf_17 : decode cX9_stateOf 17 = .ok (.ifCond .eq 12, 3) := by decide +kernel
theorem dX9_stateOf_20 : decode cX9_stateOf 20 = .ok (.aload_n 0, 1) := by decide +kernel
theorem dX9_stateOf_21 : decode cX9_stateOf 21 = .ok (.getfield 56, 3) := by decide +kernel
theorem dX9_stateOf_24 : decode cX9_stateOf 24 = .ok (.iload_n 1, 1) := by decide +kernel
theorem dX9_stateOf_25 : decode cX9_stateOf 25 = .ok (.iaload, 1) := by decide +kernel
theorem dX9_stateOf_26 : decode cX9_stateOf 26 = .ok (.goto 4, 3) := by decide +kernel
theorem dX9_stateOf_29 : decode cX9_stateOf 29 = .ok (.iconst 0, 1) := by decide +kernel
theorem dX9_stateOf_30 : decode cX9_stateOf 30 = .ok (.ireturn, 1) := by decide +kernel
set_option maxRecDepth 20000 in
theorem ggX9_frozenBy_X9_isWord : GoodIn wsX9_frozenBy wsX9_isWord := goodIn_r _ [6, 7, 8, 9, 5, 10, 16, 17, 18, 19, 20, 21, 22, 23, 24, 25, 26, 27, 28, 29, 30, 31, 32, 33, 34, 35, 36, 37, 38, 39, 40, 41, 42, 43, 44, 45, 46, 47, 48, 49, 50] (by decide +kernel) (by decide +kernel)
set_option maxRecDepth 20000 in
theorem gX9_frozenBy_X9_isWord : GoodIn wsX9_frozenBy (wsV RX9 142 RX9 yX9_isWord wsX9_isWord) := goodIn_app (goodIn_of _ (by decide +kernel)) ggX9_frozenBy_X9_isWord
set_option maxRecDepth 20000 in
theorem ggX9_frozenBy_X9_goesWell : GoodIn wsX9_frozenBy wsX9_goesWell := goodIn_r _ [14, 15, 16, 17, 18, 19, 20, 21, 22, 23, 24, 25, 26, 27, 28, 29, 30, 31, 32, 33, 34, 35, 36, 37, 38, 39, 40, 41, 42, 43, 44, 45, 46, 47, 48, 49, 50] (by decide +kernel) (by decide +kernel)
set_option maxRecDepth 20000 in
theorem gX9_frozenBy_X9_goesWell : GoodIn wsX9_frozenBy (wsV RX9 107 RX9 yX9_goesWell wsX9_goesWell) := goodIn_app (goodIn_of _ (by decide +kernel)) ggX9_frozenBy_X9_goesWell
theorem dX9_frozenBy_0 : decode cX9_frozenBy 0 = .ok (.aload_n 0, 1) := by decide +kernel
theorem dX9_frozenBy_1 : decode cX9_frozenBy 1 = .ok (.aload_n 0, 1) := by decide +kernel
theorem dX9_frozenBy_2 : decode cX9_frozenBy 2 = .ok (.iload_n 1, 1) := by decide +kernel
theorem dX9_frozenBy_3 : decode cX9_frozenBy 3 = .ok (.invokevirtual 142, 3) := by decide +kernel
theorem dX9_frozenBy_6 : decode cX9_frozenBy 6 = .ok (.ifCond .eq 7, 3) := by decide +kernel
theorem dX9_frozenBy_9 : decode cX9_frozenBy 9 = .ok (.iconst 0, 1) := by decide +kernel
theorem dX9_frozenBy_10 : decode cX9_frozenBy 10 = .ok (.goto 4, 3) := by decide +kernel
theorem dX9_frozenBy_13 : decode cX9_frozenBy 13 = .ok (.iconst 1, 1) := by decide +kernel
theorem dX9_frozenBy_14 : decode cX9_frozenBy 14 = .ok (.invokevirtual 107, 3) := by decide +kernel
theorem dX9_frozenBy_17 : decode cX9_frozenBy 17 = .ok (.ifCond .eq 12, 3) := by decide +kernel
theorem dX9_frozenBy_20 : decode cX9_frozenBy 20 = .ok (.aload_n 0, 1) := by decide +kernel
theorem dX9_frozenBy_21 : decode cX9_frozenBy 21 = .ok (.getfield 26, 3) := by decide +kernel
theorem dX9_frozenBy_24 : decode cX9_frozenBy 24 = .ok (.iload_n 1, 1) := by decide +kernel
theorem dX9_frozenBy_25 : decode cX9_frozenBy 25 = .ok (.iaload, 1) := by decide +kernel
theorem dX9_frozenBy_26 : decode cX9_frozenBy 26 = .ok (.goto 4, 3) := by decide +kernel
theorem dX9_frozenBy_29 : decode cX9_frozenBy 29 = .ok (.iconst 0, 1) := by decide +kernel
theorem dX9_frozenBy_30 : decode cX9_frozenBy 30 = .ok (.ireturn, 1) := by decide +kernel
set_option maxRecDepth 20000 in
theorem ggX9_earned_X9_isReviewer : GoodIn wsX9_earned wsX9_isReviewer := goodIn_r _ [5, 6, 7, 4, 8] (by decide +kernel) (by decide +kernel)
set_option maxRecDepth 20000 in
theorem gX9_earned_X9_isReviewer : GoodIn wsX9_earned (va_wsS RX9 151 yX9_isReviewer wsX9_isReviewer) := goodIn_app (goodIn_of _ (by decide +kernel)) ggX9_earned_X9_isReviewer
set_option maxRecDepth 20000 in
theorem ggX9_earned_X9_goesWell : GoodIn wsX9_earned wsX9_goesWell := goodIn_r _ [12, 13, 14, 15, 16, 17, 18, 19, 20, 21, 22, 23, 24, 25, 26, 27, 28, 29, 30, 31, 32, 33, 34, 35, 36, 37, 38, 39, 40, 41, 42, 43, 44, 45, 46, 47, 48] (by decide +kernel) (by decide +kernel)
set_option maxRecDepth 20000 in
theorem gX9_earned_X9_goesWell : GoodIn wsX9_earned (wsV RX9 107 RX9 yX9_goesWell wsX9_goesWell) := goodIn_app (goodIn_of _ (by decide +kernel)) ggX9_earned_X9_goesWell
theorem dX9_earned_0 : decode cX9_earned 0 = .ok (.aload_n 0, 1) := by decide +kernel
theorem dX9_earned_1 : decode cX9_earned 1 = .ok (.iload_n 1, 1) := by decide +kernel
theorem dX9_earned_2 : decode cX9_earned 2 = .ok (.invokestatic 151, 3) := by decide +kernel
theorem dX9_earned_5 : decode cX9_earned 5 = .ok (.ifCond .eq 7, 3) := by decide +kernel
theorem dX9_earned_8 : decode cX9_earned 8 = .ok (.iconst 0, 1) := by decide +kernel
theorem dX9_earned_9 : decode cX9_earned 9 = .ok (.goto 4, 3) := by decide +kernel
theorem dX9_earned_12 : decode cX9_earned 12 = .ok (.iconst 1, 1) := by decide +kernel
theorem dX9_earned_13 : decode cX9_earned 13 = .ok (.invokevirtual 107, 3) := by decide +kernel
theorem dX9_earned_16 : decode cX9_earned 16 = .ok (.ifCond .eq 12, 3) := by decide +kernel
theorem dX9_earned_19 : decode cX9_earned 19 = .ok (.aload_n 0, 1) := by decide +kernel
theorem dX9_earned_20 : decode cX9_earned 20 = .ok (.getfield 50, 3) := by decide +kernel
theorem dX9_earned_23 : decode cX9_earned 23 = .ok (.iload_n 1, 1) := by decide +kernel
theorem dX9_earned_24 : decode cX9_earned 24 = .ok (.iaload, 1) := by decide +kernel
theorem dX9_earned_25 : decode cX9_earned 25 = .ok (.goto 4, 3) := by decide +kernel
theorem dX9_earned_28 : decode cX9_earned 28 = .ok (.iconst 0, 1) := by decide +kernel
theorem dX9_earned_29 : decode cX9_earned 29 = .ok (.ireturn, 1) := by decide +kernel
set_option maxRecDepth 20000 in
theorem ggX9_addIssue_X9_in : GoodIn wsX9_addIssue wsX9_in := goodIn_r _ [9] (by decide +kernel) (by decide +kernel)
set_option maxRecDepth 20000 in
theorem gX9_addIssue_X9_in : GoodIn wsX9_addIssue (va_wsS RX9 93 yX9_in wsX9_in) := goodIn_app (goodIn_of _ (by decide +kernel)) ggX9_addIssue_X9_in
set_option maxRecDepth 20000 in
theorem ggX9_addIssue_X9_goesWell : GoodIn wsX9_addIssue wsX9_goesWell := goodIn_r _ [13, 14, 15, 16, 17, 18, 19, 20, 21, 22, 23, 24, 25, 26, 27, 28, 29, 30, 31, 32, 33, 34, 35, 36, 37, 38, 39, 40, 41, 42, 43, 44, 45, 46, 47, 48, 49] (by decide +kernel) (by decide +kernel)
set_option maxRecDepth 20000 in
theorem gX9_addIssue_X9_goesWell : GoodIn wsX9_addIssue (wsV RX9 107 RX9 yX9_goesWell wsX9_goesWell) := goodIn_app (goodIn_of _ (by decide +kernel)) ggX9_addIssue_X9_goesWell
theorem dX9_addIssue_0 : decode cX9_addIssue 0 = .ok (.iload_n 1, 1) := by decide +kernel
theorem dX9_addIssue_1 : decode cX9_addIssue 1 = .ok (.aload_n 0, 1) := by decide +kernel
theorem dX9_addIssue_2 : decode cX9_addIssue 2 = .ok (.getfield 167, 3) := by decide +kernel
theorem dX9_addIssue_5 : decode cX9_addIssue 5 = .ok (.iconst 1, 1) := by decide +kernel
theorem dX9_addIssue_6 : decode cX9_addIssue 6 = .ok (.iadd, 1) := by decide +kernel
theorem dX9_addIssue_7 : decode cX9_addIssue 7 = .ok (.sipush 1000, 3) := by decide +kernel
theorem dX9_addIssue_10 : decode cX9_addIssue 10 = .ok (.invokestatic 93, 3) := by decide +kernel
theorem dX9_addIssue_13 : decode cX9_addIssue 13 = .ok (.ifCond .eq 18, 3) := by decide +kernel
theorem dX9_addIssue_16 : decode cX9_addIssue 16 = .ok (.iload_n 2, 1) := by decide +kernel
theorem dX9_addIssue_17 : decode cX9_addIssue 17 = .ok (.iconst 1, 1) := by decide +kernel
theorem dX9_addIssue_18 : decode cX9_addIssue 18 = .ok (.sipush 200, 3) := by decide +kernel
theorem dX9_addIssue_21 : decode cX9_addIssue 21 = .ok (.invokestatic 93, 3) := by decide +kernel
theorem dX9_addIssue_24 : decode cX9_addIssue 24 = .ok (.ifCond .eq 7, 3) := by decide +kernel
theorem dX9_addIssue_27 : decode cX9_addIssue 27 = .ok (.iconst 1, 1) := by decide +kernel
theorem dX9_addIssue_28 : decode cX9_addIssue 28 = .ok (.goto 4, 3) := by decide +kernel
theorem dX9_addIssue_31 : decode cX9_addIssue 31 = .ok (.iconst 0, 1) := by decide +kernel
theorem dX9_addIssue_32 : decode cX9_addIssue 32 = .ok (.istore_n 3, 1) := by decide +kernel
theorem dX9_addIssue_33 : decode cX9_addIssue 33 = .ok (.iconst 0, 1) := by decide +kernel
theorem dX9_addIssue_34 : decode cX9_addIssue 34 = .ok (.istore 4, 2) := by decide +kernel
theorem dX9_addIssue_36 : decode cX9_addIssue 36 = .ok (.iconst 0, 1) := by decide +kernel
theorem dX9_addIssue_37 : decode cX9_addIssue 37 = .ok (.istore 5, 2) := by decide +kernel
theorem dX9_addIssue_39 : decode cX9_addIssue 39 = .ok (.iload 5, 2) := by decide +kernel
theorem dX9_addIssue_41 : decode cX9_addIssue 41 = .ok (.aload_n 0, 1) := by decide +kernel
theorem dX9_addIssue_42 : decode cX9_addIssue 42 = .ok (.getfield 170, 3) := by decide +kernel
theorem dX9_addIssue_45 : decode cX9_addIssue 45 = .ok (.if_icmp .ge 32, 3) := by decide +kernel
theorem dX9_addIssue_48 : decode cX9_addIssue 48 = .ok (.iload 4, 2) := by decide +kernel
theorem dX9_addIssue_50 : decode cX9_addIssue 50 = .ok (.ifCond .ne 14, 3) := by decide +kernel
theorem dX9_addIssue_53 : decode cX9_addIssue 53 = .ok (.aload_n 0, 1) := by decide +kernel
theorem dX9_addIssue_54 : decode cX9_addIssue 54 = .ok (.getfield 71, 3) := by decide +kernel
theorem dX9_addIssue_57 : decode cX9_addIssue 57 = .ok (.iload 5, 2) := by decide +kernel
theorem dX9_addIssue_59 : decode cX9_addIssue 59 = .ok (.iaload, 1) := by decide +kernel
theorem dX9_addIssue_60 : decode cX9_addIssue 60 = .ok (.iload_n 1, 1) := by decide +kernel
theorem dX9_addIssue_61 : decode cX9_addIssue 61 = .ok (.if_icmp .ne 7, 3) := by decide +kernel
theorem dX9_addIssue_64 : decode cX9_addIssue 64 = .ok (.iconst 1, 1) := by decide +kernel
theorem dX9_addIssue_65 : decode cX9_addIssue 65 = .ok (.goto 4, 3) := by decide +kernel
theorem dX9_addIssue_68 : decode cX9_addIssue 68 = .ok (.iconst 0, 1) := by decide +kernel
theorem dX9_addIssue_69 : decode cX9_addIssue 69 = .ok (.istore 4, 2) := by decide +kernel
theorem dX9_addIssue_71 : decode cX9_addIssue 71 = .ok (.iinc 5 1, 3) := by decide +kernel
theorem dX9_addIssue_74 : decode cX9_addIssue 74 = .ok (.goto (-35), 3) := by decide +kernel
theorem dX9_addIssue_77 : decode cX9_addIssue 77 = .ok (.aload_n 0, 1) := by decide +kernel
theorem dX9_addIssue_78 : decode cX9_addIssue 78 = .ok (.iload_n 3, 1) := by decide +kernel
theorem dX9_addIssue_79 : decode cX9_addIssue 79 = .ok (.ifCond .ne 7, 3) := by decide +kernel
theorem dX9_addIssue_82 : decode cX9_addIssue 82 = .ok (.iconst 1, 1) := by decide +kernel
theorem dX9_addIssue_83 : decode cX9_addIssue 83 = .ok (.goto 22, 3) := by decide +kernel
theorem dX9_addIssue_86 : decode cX9_addIssue 86 = .ok (.aload_n 0, 1) := by decide +kernel
theorem dX9_addIssue_87 : decode cX9_addIssue 87 = .ok (.getfield 170, 3) := by decide +kernel
theorem dX9_addIssue_90 : decode cX9_addIssue 90 = .ok (.bipush 12, 2) := by decide +kernel
theorem dX9_addIssue_92 : decode cX9_addIssue 92 = .ok (.if_icmp .eq 8, 3) := by decide +kernel
theorem dX9_addIssue_95 : decode cX9_addIssue 95 = .ok (.iload 4, 2) := by decide +kernel
theorem dX9_addIssue_97 : decode cX9_addIssue 97 = .ok (.ifCond .eq 7, 3) := by decide +kernel
theorem dX9_addIssue_100 : decode cX9_addIssue 100 = .ok (.iconst 2, 1) := by decide +kernel
theorem dX9_addIssue_101 : decode cX9_addIssue 101 = .ok (.goto 4, 3) := by decide +kernel
theorem dX9_addIssue_104 : decode cX9_addIssue 104 = .ok (.iconst 0, 1) := by decide +kernel
theorem dX9_addIssue_105 : decode cX9_addIssue 105 = .ok (.invokevirtual 107, 3) := by decide +kernel
theorem dX9_addIssue_108 : decode cX9_addIssue 108 = .ok (.ifCond .ne 5, 3) := by decide +kernel
theorem dX9_addIssue_111 : decode cX9_addIssue 111 = .ok (.iconst 0, 1) := by decide +kernel
theorem dX9_addIssue_112 : decode cX9_addIssue 112 = .ok (.ireturn, 1) := by decide +kernel
theorem dX9_addIssue_113 : decode cX9_addIssue 113 = .ok (.aload_n 0, 1) := by decide +kernel
theorem dX9_addIssue_114 : decode cX9_addIssue 114 = .ok (.getfield 71, 3) := by decide +kernel
theorem dX9_addIssue_117 : decode cX9_addIssue 117 = .ok (.aload_n 0, 1) := by decide +kernel
theorem dX9_addIssue_118 : decode cX9_addIssue 118 = .ok (.getfield 170, 3) := by decide +kernel
theorem dX9_addIssue_121 : decode cX9_addIssue 121 = .ok (.iload_n 1, 1) := by decide +kernel
theorem dX9_addIssue_122 : decode cX9_addIssue 122 = .ok (.iastore, 1) := by decide +kernel
theorem dX9_addIssue_123 : decode cX9_addIssue 123 = .ok (.aload_n 0, 1) := by decide +kernel
theorem dX9_addIssue_124 : decode cX9_addIssue 124 = .ok (.getfield 74, 3) := by decide +kernel
theorem dX9_addIssue_127 : decode cX9_addIssue 127 = .ok (.aload_n 0, 1) := by decide +kernel
theorem dX9_addIssue_128 : decode cX9_addIssue 128 = .ok (.getfield 170, 3) := by decide +kernel
theorem dX9_addIssue_131 : decode cX9_addIssue 131 = .ok (.iload_n 2, 1) := by decide +kernel
theorem dX9_addIssue_132 : decode cX9_addIssue 132 = .ok (.iastore, 1) := by decide +kernel
theorem dX9_addIssue_133 : decode cX9_addIssue 133 = .ok (.aload_n 0, 1) := by decide +kernel
theorem dX9_addIssue_134 : decode cX9_addIssue 134 = .ok (.getfield 77, 3) := by decide +kernel
theorem dX9_addIssue_137 : decode cX9_addIssue 137 = .ok (.aload_n 0, 1) := by decide +kernel
theorem dX9_addIssue_138 : decode cX9_addIssue 138 = .ok (.getfield 170, 3) := by decide +kernel
theorem dX9_addIssue_141 : decode cX9_addIssue 141 = .ok (.iconst (-1), 1) := by decide +kernel
theorem dX9_addIssue_142 : decode cX9_addIssue 142 = .ok (.iastore, 1) := by decide +kernel
theorem dX9_addIssue_143 : decode cX9_addIssue 143 = .ok (.aload_n 0, 1) := by decide +kernel
theorem dX9_addIssue_144 : decode cX9_addIssue 144 = .ok (.dup, 1) := by decide +kernel
theorem dX9_addIssue_145 : decode cX9_addIssue 145 = .ok (.getfield 170, 3) := by decide +kernel
theorem dX9_addIssue_148 : decode cX9_addIssue 148 = .ok (.iconst 1, 1) := by decide +kernel
theorem dX9_addIssue_149 : decode cX9_addIssue 149 = .ok (.iadd, 1) := by decide +kernel
theorem dX9_addIssue_150 : decode cX9_addIssue 150 = .ok (.putfield 170, 3) := by decide +kernel
theorem dX9_addIssue_153 : decode cX9_addIssue 153 = .ok (.aload_n 0, 1) := by decide +kernel
theorem dX9_addIssue_154 : decode cX9_addIssue 154 = .ok (.getfield 170, 3) := by decide +kernel
theorem dX9_addIssue_157 : decode cX9_addIssue 157 = .ok (.iconst 1, 1) := by decide +kernel
theorem dX9_addIssue_158 : decode cX9_addIssue 158 = .ok (.isub, 1) := by decide +kernel
theorem dX9_addIssue_159 : decode cX9_addIssue 159 = .ok (.ireturn, 1) := by decide +kernel
theorem dX9_isAhead_0 : decode cX9_isAhead 0 = .ok (.aload_n 0, 1) := by decide +kernel
theorem dX9_isAhead_1 : decode cX9_isAhead 1 = .ok (.getfield 65, 3) := by decide +kernel
theorem dX9_isAhead_4 : decode cX9_isAhead 4 = .ok (.iload_n 1, 1) := by decide +kernel
theorem dX9_isAhead_5 : decode cX9_isAhead 5 = .ok (.iaload, 1) := by decide +kernel
theorem dX9_isAhead_6 : decode cX9_isAhead 6 = .ok (.aload_n 0, 1) := by decide +kernel
theorem dX9_isAhead_7 : decode cX9_isAhead 7 = .ok (.getfield 65, 3) := by decide +kernel
theorem dX9_isAhead_10 : decode cX9_isAhead 10 = .ok (.iload_n 2, 1) := by decide +kernel
theorem dX9_isAhead_11 : decode cX9_isAhead 11 = .ok (.iaload, 1) := by decide +kernel
theorem dX9_isAhead_12 : decode cX9_isAhead 12 = .ok (.if_icmp .eq 26, 3) := by decide +kernel
theorem dX9_isAhead_15 : decode cX9_isAhead 15 = .ok (.aload_n 0, 1) := by decide +kernel
theorem dX9_isAhead_16 : decode cX9_isAhead 16 = .ok (.getfield 65, 3) := by decide +kernel
theorem dX9_isAhead_19 : decode cX9_isAhead 19 = .ok (.iload_n 1, 1) := by decide +kernel
theorem dX9_isAhead_20 : decode cX9_isAhead 20 = .ok (.iaload, 1) := by decide +kernel
theorem dX9_isAhead_21 : decode cX9_isAhead 21 = .ok (.aload_n 0, 1) := by decide +kernel
theorem dX9_isAhead_22 : decode cX9_isAhead 22 = .ok (.getfield 65, 3) := by decide +kernel
theorem dX9_isAhead_25 : decode cX9_isAhead 25 = .ok (.iload_n 2, 1) := by decide +kernel
theorem dX9_isAhead_26 : decode cX9_isAhead 26 = .ok (.iaload, 1) := by decide +kernel
theorem dX9_isAhead_27 : decode cX9_isAhead 27 = .ok (.if_icmp .le 7, 3) := by decide +kernel
theorem dX9_isAhead_30 : decode cX9_isAhead 30 = .ok (.iconst 1, 1) := by decide +kernel
theorem dX9_isAhead_31 : decode cX9_isAhead 31 = .ok (.goto 27, 3) := by decide +kernel
theorem dX9_isAhead_34 : decode cX9_isAhead 34 = .ok (.iconst 0, 1) := by decide +kernel
theorem dX9_isAhead_35 : decode cX9_isAhead 35 = .ok (.goto 23, 3) := by decide +kernel
theorem dX9_isAhead_38 : decode cX9_isAhead 38 = .ok (.aload_n 0, 1) := by decide +kernel
theorem dX9_isAhead_39 : decode cX9_isAhead 39 = .ok (.getfield 68, 3) := by decide +kernel
theorem dX9_isAhead_42 : decode cX9_isAhead 42 = .ok (.iload_n 1, 1) := by decide +kernel
theorem dX9_isAhead_43 : decode cX9_isAhead 43 = .ok (.iaload, 1) := by decide +kernel
theorem dX9_isAhead_44 : decode cX9_isAhead 44 = .ok (.aload_n 0, 1) := by decide +kernel
theorem dX9_isAhead_45 : decode cX9_isAhead 45 = .ok (.getfield 68, 3) := by decide +kernel
theorem dX9_isAhead_48 : decode cX9_isAhead 48 = .ok (.iload_n 2, 1) := by decide +kernel
theorem dX9_isAhead_49 : decode cX9_isAhead 49 = .ok (.iaload, 1) := by decide +kernel
theorem dX9_isAhead_50 : decode cX9_isAhead 50 = .ok (.if_icmp .ge 7, 3) := by decide +kernel
theorem dX9_isAhead_53 : decode cX9_isAhead 53 = .ok (.iconst 1, 1) := by decide +kernel
theorem dX9_isAhead_54 : decode cX9_isAhead 54 = .ok (.goto 4, 3) := by decide +kernel
theorem dX9_isAhead_57 : decode cX9_isAhead 57 = .ok (.iconst 0, 1) := by decide +kernel
theorem dX9_isAhead_58 : decode cX9_isAhead 58 = .ok (.ireturn, 1) := by decide +kernel
set_option maxRecDepth 20000 in
theorem ggX9_waitingAt_X9_isAhead : GoodIn wsX9_waitingAt wsX9_isAhead := goodIn_r _ [7, 8, 9, 10, 11, 12, 13, 14, 15, 16, 17, 18, 19, 20, 21, 22, 23, 24, 25, 26, 27, 28, 29, 30, 31, 32, 33, 34, 35, 36, 37, 38, 39, 40, 41, 42, 43, 44] (by decide +kernel) (by decide +kernel)
set_option maxRecDepth 20000 in
theorem gX9_waitingAt_X9_isAhead : GoodIn wsX9_waitingAt (wsV RX9 173 RX9 yX9_isAhead wsX9_isAhead) := goodIn_app (goodIn_of _ (by decide +kernel)) ggX9_waitingAt_X9_isAhead
theorem dX9_waitingAt_0 : decode cX9_waitingAt 0 = .ok (.iconst (-1), 1) := by decide +kernel
theorem dX9_waitingAt_1 : decode cX9_waitingAt 1 = .ok (.istore_n 2, 1) := by decide +kernel
theorem dX9_waitingAt_2 : decode cX9_waitingAt 2 = .ok (.iconst 0, 1) := by decide +kernel
theorem dX9_waitingAt_3 : decode cX9_waitingAt 3 = .ok (.istore_n 3, 1) := by decide +kernel
theorem dX9_waitingAt_4 : decode cX9_waitingAt 4 = .ok (.iload_n 3, 1) := by decide +kernel
theorem dX9_waitingAt_5 : decode cX9_waitingAt 5 = .ok (.aload_n 0, 1) := by decide +kernel
theorem dX9_waitingAt_6 : decode cX9_waitingAt 6 = .ok (.getfield 100, 3) := by decide +kernel
theorem dX9_waitingAt_9 : decode cX9_waitingAt 9 = .ok (.if_icmp .ge 83, 3) := by decide +kernel
theorem dX9_waitingAt_12 : decode cX9_waitingAt 12 = .ok (.iconst 0, 1) := by decide +kernel
theorem dX9_waitingAt_13 : decode cX9_waitingAt 13 = .ok (.istore 4, 2) := by decide +kernel
theorem dX9_waitingAt_15 : decode cX9_waitingAt 15 = .ok (.iconst 0, 1) := by decide +kernel
theorem dX9_waitingAt_16 : decode cX9_waitingAt 16 = .ok (.istore 5, 2) := by decide +kernel
theorem dX9_waitingAt_18 : decode cX9_waitingAt 18 = .ok (.iload 5, 2) := by decide +kernel
theorem dX9_waitingAt_20 : decode cX9_waitingAt 20 = .ok (.aload_n 0, 1) := by decide +kernel
theorem dX9_waitingAt_21 : decode cX9_waitingAt 21 = .ok (.getfield 100, 3) := by decide +kernel
theorem dX9_waitingAt_24 : decode cX9_waitingAt 24 = .ok (.if_icmp .ge 40, 3) := by decide +kernel
theorem dX9_waitingAt_27 : decode cX9_waitingAt 27 = .ok (.iload 4, 2) := by decide +kernel
theorem dX9_waitingAt_29 : decode cX9_waitingAt 29 = .ok (.aload_n 0, 1) := by decide +kernel
theorem dX9_waitingAt_30 : decode cX9_waitingAt 30 = .ok (.getfield 56, 3) := by decide +kernel
theorem dX9_waitingAt_33 : decode cX9_waitingAt 33 = .ok (.iload 5, 2) := by decide +kernel
theorem dX9_waitingAt_35 : decode cX9_waitingAt 35 = .ok (.iaload, 1) := by decide +kernel
theorem dX9_waitingAt_36 : decode cX9_waitingAt 36 = .ok (.iconst 1, 1) := by decide +kernel
theorem dX9_waitingAt_37 : decode cX9_waitingAt 37 = .ok (.if_icmp .ne 17, 3) := by decide +kernel
theorem dX9_waitingAt_40 : decode cX9_waitingAt 40 = .ok (.aload_n 0, 1) := by decide +kernel
theorem dX9_waitingAt_41 : decode cX9_waitingAt 41 = .ok (.iload 5, 2) := by decide +kernel
theorem dX9_waitingAt_43 : decode cX9_waitingAt 43 = .ok (.iload_n 3, 1) := by decide +kernel
theorem dX9_waitingAt_44 : decode cX9_waitingAt 44 = .ok (.invokevirtual 173, 3) := by decide +kernel
theorem dX9_waitingAt_47 : decode cX9_waitingAt 47 = .ok (.ifCond .eq 7, 3) := by decide +kernel
theorem dX9_waitingAt_50 : decode cX9_waitingAt 50 = .ok (.iconst 1, 1) := by decide +kernel
theorem dX9_waitingAt_51 : decode cX9_waitingAt 51 = .ok (.goto 4, 3) := by decide +kernel
theorem dX9_waitingAt_54 : decode cX9_waitingAt 54 = .ok (.iconst 0, 1) := by decide +kernel
theorem dX9_waitingAt_55 : decode cX9_waitingAt 55 = .ok (.iadd, 1) := by decide +kernel
theorem dX9_waitingAt_56 : decode cX9_waitingAt 56 = .ok (.istore 4, 2) := by decide +kernel
theorem dX9_waitingAt_58 : decode cX9_waitingAt 58 = .ok (.iinc 5 1, 3) := by decide +kernel
theorem dX9_waitingAt_61 : decode cX9_waitingAt 61 = .ok (.goto (-43), 3) := by decide +kernel
theorem dX9_waitingAt_64 : decode cX9_waitingAt 64 = .ok (.aload_n 0, 1) := by decide +kernel
theorem dX9_waitingAt_65 : decode cX9_waitingAt 65 = .ok (.getfield 56, 3) := by decide +kernel
theorem dX9_waitingAt_68 : decode cX9_waitingAt 68 = .ok (.iload_n 3, 1) := by decide +kernel
theorem dX9_waitingAt_69 : decode cX9_waitingAt 69 = .ok (.iaload, 1) := by decide +kernel
theorem dX9_waitingAt_70 : decode cX9_waitingAt 70 = .ok (.iconst 1, 1) := by decide +kernel
theorem dX9_waitingAt_71 : decode cX9_waitingAt 71 = .ok (.if_icmp .ne 13, 3) := by decide +kernel
theorem dX9_waitingAt_74 : decode cX9_waitingAt 74 = .ok (.iload 4, 2) := by decide +kernel
theorem dX9_waitingAt_76 : decode cX9_waitingAt 76 = .ok (.iload_n 1, 1) := by decide +kernel
theorem dX9_waitingAt_77 : decode cX9_waitingAt 77 = .ok (.if_icmp .ne 7, 3) := by decide +kernel
theorem dX9_waitingAt_80 : decode cX9_waitingAt 80 = .ok (.iload_n 3, 1) := by decide +kernel
theorem dX9_waitingAt_81 : decode cX9_waitingAt 81 = .ok (.goto 4, 3) := by decide +kernel
theorem dX9_waitingAt_84 : decode cX9_waitingAt 84 = .ok (.iload_n 2, 1) := by decide +kernel
theorem dX9_waitingAt_85 : decode cX9_waitingAt 85 = .ok (.istore_n 2, 1) := by decide +kernel
theorem dX9_waitingAt_86 : decode cX9_waitingAt 86 = .ok (.iinc 3 1, 3) := by decide +kernel
theorem dX9_waitingAt_89 : decode cX9_waitingAt 89 = .ok (.goto (-85), 3) := by decide +kernel
theorem dX9_waitingAt_92 : decode cX9_waitingAt 92 = .ok (.iload_n 2, 1) := by decide +kernel
theorem dX9_waitingAt_93 : decode cX9_waitingAt 93 = .ok (.ireturn, 1) := by decide +kernel
set_option maxRecDepth 20000 in
theorem ggX9_waiting_X9_goesWell : GoodIn wsX9_waiting wsX9_goesWell := goodIn_r _ [5, 6, 19, 20, 21, 22, 23, 24, 25, 26, 27, 28, 29, 30, 31, 32, 33, 34, 35, 36, 37, 38, 39, 40, 41, 42, 43, 44, 45, 46, 47, 48, 49, 50, 51, 52, 53] (by decide +kernel) (by decide +kernel)
set_option maxRecDepth 20000 in
theorem gX9_waiting_X9_goesWell : GoodIn wsX9_waiting (wsV RX9 107 RX9 yX9_goesWell wsX9_goesWell) := goodIn_app (goodIn_of _ (by decide +kernel)) ggX9_waiting_X9_goesWell
set_option maxRecDepth 20000 in
theorem ggX9_waiting_X9_waitingAt : GoodIn wsX9_waiting wsX9_waitingAt := goodIn_r _ [10, 11, 12, 13, 14, 15, 4, 16, 17, 18, 19, 20, 21, 22, 23, 24, 25, 26, 27, 28, 29, 30, 31, 32, 33, 34, 35, 36, 37, 38, 39, 40, 41, 42, 43, 44, 45, 46, 47, 48, 49, 50, 51, 52, 53] (by decide +kernel) (by decide +kernel)
set_option maxRecDepth 20000 in
theorem gX9_waiting_X9_waitingAt : GoodIn wsX9_waiting (wsV RX9 176 RX9 yX9_waitingAt wsX9_waitingAt) := goodIn_app (goodIn_of _ (by decide +kernel)) ggX9_waiting_X9_waitingAt
theorem dX9_waiting_0 : decode cX9_waiting 0 = .ok (.aload_n 0, 1) := by decide +kernel
theorem dX9_waiting_1 : decode cX9_waiting 1 = .ok (.iload_n 1, 1) := by decide +kernel
theorem dX9_waiting_2 : decode cX9_waiting 2 = .ok (.ifCond .lt 7, 3) := by decide +kernel
theorem dX9_waiting_5 : decode cX9_waiting 5 = .ok (.iconst 0, 1) := by decide +kernel
theorem dX9_waiting_6 : decode cX9_waiting 6 = .ok (.goto 4, 3) := by decide +kernel
theorem dX9_waiting_9 : decode cX9_waiting 9 = .ok (.iconst 1, 1) := by decide +kernel
theorem dX9_waiting_10 : decode cX9_waiting 10 = .ok (.invokevirtual 107, 3) := by decide +kernel
theorem dX9_waiting_13 : decode cX9_waiting 13 = .ok (.ifCond .eq 11, 3) := by decide +kernel
theorem dX9_waiting_16 : decode cX9_waiting 16 = .ok (.aload_n 0, 1) := by decide +kernel
theorem dX9_waiting_17 : decode cX9_waiting 17 = .ok (.iload_n 1, 1) := by decide +kernel
theorem dX9_waiting_18 : decode cX9_waiting 18 = .ok (.invokevirtual 176, 3) := by decide +kernel
theorem dX9_waiting_21 : decode cX9_waiting 21 = .ok (.goto 4, 3) := by decide +kernel
theorem dX9_waiting_24 : decode cX9_waiting 24 = .ok (.iconst 0, 1) := by decide +kernel
theorem dX9_waiting_25 : decode cX9_waiting 25 = .ok (.ireturn, 1) := by decide +kernel
set_option maxRecDepth 20000 in
theorem ggX9_print_X9_waitingAt : GoodIn wsX9_print wsX9_waitingAt := goodIn_r _ [13, 14, 4, 15, 16, 17, 12, 18, 19, 20, 25, 26, 27, 28, 29, 30, 31, 32, 33, 34, 35, 36, 37, 38, 39, 40, 41, 42, 43, 44, 45, 46, 47, 48, 49, 50, 51, 52, 53, 54, 55, 56, 57, 58, 59] (by decide +kernel) (by decide +kernel)
set_option maxRecDepth 20000 in
theorem gX9_print_X9_waitingAt : GoodIn wsX9_print (wsV RX9 176 RX9 yX9_waitingAt wsX9_waitingAt) := goodIn_app (goodIn_of _ (by decide +kernel)) ggX9_print_X9_waitingAt
set_option maxRecDepth 20000 in
theorem ggX9_print_X9_thaw : GoodIn wsX9_print wsX9_thaw := goodIn_r _ [24, 5, 8, 25, 26, 27, 28, 29, 30, 31, 32, 33, 34, 35, 36, 37, 38, 39, 40, 41, 42, 43, 44, 45, 46, 47, 48, 49, 50, 51, 52, 53, 54, 55, 56, 57, 58, 59] (by decide +kernel) (by decide +kernel)
set_option maxRecDepth 20000 in
theorem gX9_print_X9_thaw : GoodIn wsX9_print (wsV RX9 163 RX9 yX9_thaw wsX9_thaw) := goodIn_app (goodIn_of _ (by decide +kernel)) ggX9_print_X9_thaw
theorem dX9_print_0 : decode cX9_print 0 = .ok (.aload_n 0, 1) := by decide +kernel
theorem dX9_print_1 : decode cX9_print 1 = .ok (.getfield 77, 3) := by decide +kernel
theorem dX9_print_4 : decode cX9_print 4 = .ok (.iload_n 1, 1) := by decide +kernel
theorem dX9_print_5 : decode cX9_print 5 = .ok (.iconst 0, 1) := by decide +kernel
theorem dX9_print_6 : decode cX9_print 6 = .ok (.iastore, 1) := by decide +kernel
theorem dX9_print_7 : decode cX9_print 7 = .ok (.aload_n 0, 1) := by decide +kernel
theorem dX9_print_8 : decode cX9_print 8 = .ok (.iconst 0, 1) := by decide +kernel
theorem dX9_print_9 : decode cX9_print 9 = .ok (.invokevirtual 176, 3) := by decide +kernel
theorem dX9_print_12 : decode cX9_print 12 = .ok (.istore_n 2, 1) := by decide +kernel
theorem dX9_print_13 : decode cX9_print 13 = .ok (.iload_n 2, 1) := by decide +kernel
theorem dX9_print_14 : decode cX9_print 14 = .ok (.iconst (-1), 1) := by decide +kernel
theorem dX9_print_15 : decode cX9_print 15 = .ok (.if_icmp .eq 106, 3) := by decide +kernel
theorem dX9_print_18 : decode cX9_print 18 = .ok (.aload_n 0, 1) := by decide +kernel
theorem dX9_print_19 : decode cX9_print 19 = .ok (.getfield 77, 3) := by decide +kernel
theorem dX9_print_22 : decode cX9_print 22 = .ok (.iload_n 1, 1) := by decide +kernel
theorem dX9_print_23 : decode cX9_print 23 = .ok (.iaload, 1) := by decide +kernel
theorem dX9_print_24 : decode cX9_print 24 = .ok (.aload_n 0, 1) := by decide +kernel
theorem dX9_print_25 : decode cX9_print 25 = .ok (.getfield 59, 3) := by decide +kernel
theorem dX9_print_28 : decode cX9_print 28 = .ok (.iload_n 2, 1) := by decide +kernel
theorem dX9_print_29 : decode cX9_print 29 = .ok (.iaload, 1) := by decide +kernel
theorem dX9_print_30 : decode cX9_print 30 = .ok (.iadd, 1) := by decide +kernel
theorem dX9_print_31 : decode cX9_print 31 = .ok (.aload_n 0, 1) := by decide +kernel
theorem dX9_print_32 : decode cX9_print 32 = .ok (.getfield 74, 3) := by decide +kernel
theorem dX9_print_35 : decode cX9_print 35 = .ok (.iload_n 1, 1) := by decide +kernel
theorem dX9_print_36 : decode cX9_print 36 = .ok (.iaload, 1) := by decide +kernel
theorem dX9_print_37 : decode cX9_print 37 = .ok (.if_icmp .gt 84, 3) := by decide +kernel
theorem dX9_print_40 : decode cX9_print 40 = .ok (.aload_n 0, 1) := by decide +kernel
theorem dX9_print_41 : decode cX9_print 41 = .ok (.getfield 77, 3) := by decide +kernel
theorem dX9_print_44 : decode cX9_print 44 = .ok (.iload_n 1, 1) := by decide +kernel
theorem dX9_print_45 : decode cX9_print 45 = .ok (.dup2, 1) := by decide +kernel
theorem dX9_print_46 : decode cX9_print 46 = .ok (.iaload, 1) := by decide +kernel
theorem dX9_print_47 : decode cX9_print 47 = .ok (.aload_n 0, 1) := by decide +kernel
theorem dX9_print_48 : decode cX9_print 48 = .ok (.getfield 59, 3) := by decide +kernel
theorem dX9_print_51 : decode cX9_print 51 = .ok (.iload_n 2, 1) := by decide +kernel
theorem dX9_print_52 : decode cX9_print 52 = .ok (.iaload, 1) := by decide +kernel
theorem dX9_print_53 : decode cX9_print 53 = .ok (.iadd, 1) := by decide +kernel
theorem dX9_print_54 : decode cX9_print 54 = .ok (.iastore, 1) := by decide +kernel
theorem dX9_print_55 : decode cX9_print 55 = .ok (.aload_n 0, 1) := by decide +kernel
theorem dX9_print_56 : decode cX9_print 56 = .ok (.getfield 56, 3) := by decide +kernel
theorem dX9_print_59 : decode cX9_print 59 = .ok (.iload_n 2, 1) := by decide +kernel
theorem dX9_print_60 : decode cX9_print 60 = .ok (.iconst 3, 1) := by decide +kernel
theorem dX9_print_61 : decode cX9_print 61 = .ok (.iastore, 1) := by decide +kernel
theorem dX9_print_62 : decode cX9_print 62 = .ok (.iconst 0, 1) := by decide +kernel
theorem dX9_print_63 : decode cX9_print 63 = .ok (.istore_n 3, 1) := by decide +kernel
theorem dX9_print_64 : decode cX9_print 64 = .ok (.iload_n 3, 1) := by decide +kernel
theorem dX9_print_65 : decode cX9_print 65 = .ok (.aload_n 0, 1) := by decide +kernel
theorem dX9_print_66 : decode cX9_print 66 = .ok (.getfield 97, 3) := by decide +kernel
theorem dX9_print_69 : decode cX9_print 69 = .ok (.if_icmp .ge 38, 3) := by decide +kernel
theorem dX9_print_72 : decode cX9_print 72 = .ok (.aload_n 0, 1) := by decide +kernel
theorem dX9_print_73 : decode cX9_print 73 = .ok (.getfield 44, 3) := by decide +kernel
theorem dX9_print_76 : decode cX9_print 76 = .ok (.aload_n 0, 1) := by decide +kernel
theorem dX9_print_77 : decode cX9_print 77 = .ok (.getfield 13, 3) := by decide +kernel
theorem dX9_print_80 : decode cX9_print 80 = .ok (.iload_n 3, 1) := by decide +kernel
theorem dX9_print_81 : decode cX9_print 81 = .ok (.iaload, 1) := by decide +kernel
theorem dX9_print_82 : decode cX9_print 82 = .ok (.dup2, 1) := by decide +kernel
theorem dX9_print_83 : decode cX9_print 83 = .ok (.iaload, 1) := by decide +kernel
theorem dX9_print_84 : decode cX9_print 84 = .ok (.aload_n 0, 1) := by decide +kernel
theorem dX9_print_85 : decode cX9_print 85 = .ok (.getfield 26, 3) := by decide +kernel
theorem dX9_print_88 : decode cX9_print 88 = .ok (.iload_n 3, 1) := by decide +kernel
theorem dX9_print_89 : decode cX9_print 89 = .ok (.iaload, 1) := by decide +kernel
theorem dX9_print_90 : decode cX9_print 90 = .ok (.iload_n 2, 1) := by decide +kernel
theorem dX9_print_91 : decode cX9_print 91 = .ok (.if_icmp .ne 7, 3) := by decide +kernel
theorem dX9_print_94 : decode cX9_print 94 = .ok (.iconst 5, 1) := by decide +kernel
theorem dX9_print_95 : decode cX9_print 95 = .ok (.goto 4, 3) := by decide +kernel
theorem dX9_print_98 : decode cX9_print 98 = .ok (.iconst 0, 1) := by decide +kernel
theorem dX9_print_99 : decode cX9_print 99 = .ok (.iadd, 1) := by decide +kernel
theorem dX9_print_100 : decode cX9_print 100 = .ok (.iastore, 1) := by decide +kernel
theorem dX9_print_101 : decode cX9_print 101 = .ok (.iinc 3 1, 3) := by decide +kernel
theorem dX9_print_104 : decode cX9_print 104 = .ok (.goto (-40), 3) := by decide +kernel
theorem dX9_print_107 : decode cX9_print 107 = .ok (.aload_n 0, 1) := by decide +kernel
theorem dX9_print_108 : decode cX9_print 108 = .ok (.iload_n 2, 1) := by decide +kernel
theorem dX9_print_109 : decode cX9_print 109 = .ok (.invokevirtual 163, 3) := by decide +kernel
theorem dX9_print_112 : decode cX9_print 112 = .ok (.aload_n 0, 1) := by decide +kernel
theorem dX9_print_113 : decode cX9_print 113 = .ok (.iconst 0, 1) := by decide +kernel
theorem dX9_print_114 : decode cX9_print 114 = .ok (.invokevirtual 176, 3) := by decide +kernel
theorem dX9_print_117 : decode cX9_print 117 = .ok (.istore_n 2, 1) := by decide +kernel
theorem dX9_print_118 : decode cX9_print 118 = .ok (.goto (-105), 3) := by decide +kernel
theorem dX9_print_121 : decode cX9_print 121 = .ok (.return_, 1) := by decide +kernel
set_option maxRecDepth 20000 in
theorem ggX9_pass_X9_in : GoodIn wsX9_pass wsX9_in := goodIn_r _ [8] (by decide +kernel) (by decide +kernel)
set_option maxRecDepth 20000 in
theorem gX9_pass_X9_in : GoodIn wsX9_pass (va_wsS RX9 93 yX9_in wsX9_in) := goodIn_app (goodIn_of _ (by decide +kernel)) ggX9_pass_X9_in
set_option maxRecDepth 20000 in
theorem ggX9_pass_X9_goesWell : GoodIn wsX9_pass wsX9_goesWell := goodIn_r _ [12, 13, 40, 41, 42, 43, 44, 45, 46, 47, 48, 49, 50, 51, 52, 53, 54, 55, 56, 57, 58, 59, 60, 61, 62, 63, 64, 65, 66, 67, 68, 69, 70, 71, 72, 73, 74] (by decide +kernel) (by decide +kernel)
set_option maxRecDepth 20000 in
theorem gX9_pass_X9_goesWell : GoodIn wsX9_pass (wsV RX9 107 RX9 yX9_goesWell wsX9_goesWell) := goodIn_app (goodIn_of _ (by decide +kernel)) ggX9_pass_X9_goesWell
set_option maxRecDepth 20000 in
theorem ggX9_pass_X9_print : GoodIn wsX9_pass wsX9_print := goodIn_r _ [17, 4, 18, 19, 20, 21, 22, 23, 24, 25, 26, 27, 7, 28, 29, 30, 31, 32, 33, 34, 35, 36, 37, 38, 39, 40, 41, 42, 43, 44, 45, 46, 47, 48, 49, 50, 51, 52, 53, 54, 55, 56, 57, 58, 59, 60, 61, 62, 63, 64, 65, 66, 67, 68, 69, 70, 71, 72, 73, 74] (by decide +kernel) (by decide +kernel)
set_option maxRecDepth 20000 in
theorem gX9_pass_X9_print : GoodIn wsX9_pass (wsV RX9 179 RX9 yX9_print wsX9_print) := goodIn_app (goodIn_of _ (by decide +kernel)) ggX9_pass_X9_print
theorem dX9_pass_0 : decode cX9_pass 0 = .ok (.iload_n 1, 1) := by decide +kernel
theorem dX9_pass_1 : decode cX9_pass 1 = .ok (.iconst 1, 1) := by decide +kernel
theorem dX9_pass_2 : decode cX9_pass 2 = .ok (.bipush 100, 2) := by decide +kernel
theorem dX9_pass_4 : decode cX9_pass 4 = .ok (.invokestatic 93, 3) := by decide +kernel
theorem dX9_pass_7 : decode cX9_pass 7 = .ok (.istore_n 2, 1) := by decide +kernel
theorem dX9_pass_8 : decode cX9_pass 8 = .ok (.aload_n 0, 1) := by decide +kernel
theorem dX9_pass_9 : decode cX9_pass 9 = .ok (.iload_n 2, 1) := by decide +kernel
theorem dX9_pass_10 : decode cX9_pass 10 = .ok (.ifCond .ne 7, 3) := by decide +kernel
theorem dX9_pass_13 : decode cX9_pass 13 = .ok (.iconst 1, 1) := by decide +kernel
theorem dX9_pass_14 : decode cX9_pass 14 = .ok (.goto 20, 3) := by decide +kernel
theorem dX9_pass_17 : decode cX9_pass 17 = .ok (.aload_n 0, 1) := by decide +kernel
theorem dX9_pass_18 : decode cX9_pass 18 = .ok (.getfield 167, 3) := by decide +kernel
theorem dX9_pass_21 : decode cX9_pass 21 = .ok (.iload_n 1, 1) := by decide +kernel
theorem dX9_pass_22 : decode cX9_pass 22 = .ok (.iadd, 1) := by decide +kernel
theorem dX9_pass_23 : decode cX9_pass 23 = .ok (.sipush 1000, 3) := by decide +kernel
theorem dX9_pass_26 : decode cX9_pass 26 = .ok (.if_icmp .le 7, 3) := by decide +kernel
theorem dX9_pass_29 : decode cX9_pass 29 = .ok (.iconst 2, 1) := by decide +kernel
theorem dX9_pass_30 : decode cX9_pass 30 = .ok (.goto 4, 3) := by decide +kernel
theorem dX9_pass_33 : decode cX9_pass 33 = .ok (.iconst 0, 1) := by decide +kernel
theorem dX9_pass_34 : decode cX9_pass 34 = .ok (.invokevirtual 107, 3) := by decide +kernel
theorem dX9_pass_37 : decode cX9_pass 37 = .ok (.ifCond .ne 5, 3) := by decide +kernel
theorem dX9_pass_40 : decode cX9_pass 40 = .ok (.iconst 0, 1) := by decide +kernel
theorem dX9_pass_41 : decode cX9_pass 41 = .ok (.ireturn, 1) := by decide +kernel
theorem dX9_pass_42 : decode cX9_pass 42 = .ok (.iconst 0, 1) := by decide +kernel
theorem dX9_pass_43 : decode cX9_pass 43 = .ok (.istore_n 3, 1) := by decide +kernel
theorem dX9_pass_44 : decode cX9_pass 44 = .ok (.iconst 0, 1) := by decide +kernel
theorem dX9_pass_45 : decode cX9_pass 45 = .ok (.istore 4, 2) := by decide +kernel
theorem dX9_pass_47 : decode cX9_pass 47 = .ok (.iload 4, 2) := by decide +kernel
theorem dX9_pass_49 : decode cX9_pass 49 = .ok (.iload_n 1, 1) := by decide +kernel
theorem dX9_pass_50 : decode cX9_pass 50 = .ok (.if_icmp .ge 67, 3) := by decide +kernel
theorem dX9_pass_53 : decode cX9_pass 53 = .ok (.aload_n 0, 1) := by decide +kernel
theorem dX9_pass_54 : decode cX9_pass 54 = .ok (.dup, 1) := by decide +kernel
theorem dX9_pass_55 : decode cX9_pass 55 = .ok (.getfield 167, 3) := by decide +kernel
theorem dX9_pass_58 : decode cX9_pass 58 = .ok (.iconst 1, 1) := by decide +kernel
theorem dX9_pass_59 : decode cX9_pass 59 = .ok (.iadd, 1) := by decide +kernel
theorem dX9_pass_60 : decode cX9_pass 60 = .ok (.putfield 167, 3) := by decide +kernel
theorem dX9_pass_63 : decode cX9_pass 63 = .ok (.iconst 0, 1) := by decide +kernel
theorem dX9_pass_64 : decode cX9_pass 64 = .ok (.istore 5, 2) := by decide +kernel
theorem dX9_pass_66 : decode cX9_pass 66 = .ok (.iload 5, 2) := by decide +kernel
theorem dX9_pass_68 : decode cX9_pass 68 = .ok (.aload_n 0, 1) := by decide +kernel
theorem dX9_pass_69 : decode cX9_pass 69 = .ok (.getfield 170, 3) := by decide +kernel
theorem dX9_pass_72 : decode cX9_pass 72 = .ok (.if_icmp .ge 39, 3) := by decide +kernel
theorem dX9_pass_75 : decode cX9_pass 75 = .ok (.aload_n 0, 1) := by decide +kernel
theorem dX9_pass_76 : decode cX9_pass 76 = .ok (.getfield 71, 3) := by decide +kernel
theorem dX9_pass_79 : decode cX9_pass 79 = .ok (.iload 5, 2) := by decide +kernel
theorem dX9_pass_81 : decode cX9_pass 81 = .ok (.iaload, 1) := by decide +kernel
theorem dX9_pass_82 : decode cX9_pass 82 = .ok (.aload_n 0, 1) := by decide +kernel
theorem dX9_pass_83 : decode cX9_pass 83 = .ok (.getfield 167, 3) := by decide +kernel
theorem dX9_pass_86 : decode cX9_pass 86 = .ok (.if_icmp .ne 19, 3) := by decide +kernel
theorem dX9_pass_89 : decode cX9_pass 89 = .ok (.aload_n 0, 1) := by decide +kernel
theorem dX9_pass_90 : decode cX9_pass 90 = .ok (.iload 5, 2) := by decide +kernel
theorem dX9_pass_92 : decode cX9_pass 92 = .ok (.invokevirtual 179, 3) := by decide +kernel
theorem dX9_pass_95 : decode cX9_pass 95 = .ok (.iload_n 3, 1) := by decide +kernel
theorem dX9_pass_96 : decode cX9_pass 96 = .ok (.aload_n 0, 1) := by decide +kernel
theorem dX9_pass_97 : decode cX9_pass 97 = .ok (.getfield 77, 3) := by decide +kernel
theorem dX9_pass_100 : decode cX9_pass 100 = .ok (.iload 5, 2) := by decide +kernel
theorem dX9_pass_102 : decode cX9_pass 102 = .ok (.iaload, 1) := by decide +kernel
theorem dX9_pass_103 : decode cX9_pass 103 = .ok (.iadd, 1) := by decide +kernel
theorem dX9_pass_104 : decode cX9_pass 104 = .ok (.istore_n 3, 1) := by decide +kernel
theorem dX9_pass_105 : decode cX9_pass 105 = .ok (.iinc 5 1, 3) := by decide +kernel
theorem dX9_pass_108 : decode cX9_pass 108 = .ok (.goto (-42), 3) := by decide +kernel
theorem dX9_pass_111 : decode cX9_pass 111 = .ok (.iinc 4 1, 3) := by decide +kernel
theorem dX9_pass_114 : decode cX9_pass 114 = .ok (.goto (-67), 3) := by decide +kernel
theorem dX9_pass_117 : decode cX9_pass 117 = .ok (.iload_n 3, 1) := by decide +kernel
theorem dX9_pass_118 : decode cX9_pass 118 = .ok (.ireturn, 1) := by decide +kernel
theorem dX9_today_0 : decode cX9_today 0 = .ok (.aload_n 0, 1) := by decide +kernel
theorem dX9_today_1 : decode cX9_today 1 = .ok (.iconst 0, 1) := by decide +kernel
theorem dX9_today_2 : decode cX9_today 2 = .ok (.putfield 89, 3) := by decide +kernel
theorem dX9_today_5 : decode cX9_today 5 = .ok (.aload_n 0, 1) := by decide +kernel
theorem dX9_today_6 : decode cX9_today 6 = .ok (.getfield 167, 3) := by decide +kernel
theorem dX9_today_9 : decode cX9_today 9 = .ok (.ireturn, 1) := by decide +kernel
set_option maxRecDepth 20000 in
theorem ggX9_printed_X9_in : GoodIn wsX9_printed wsX9_in := goodIn_r _ [6] (by decide +kernel) (by decide +kernel)
set_option maxRecDepth 20000 in
theorem gX9_printed_X9_in : GoodIn wsX9_printed (va_wsS RX9 93 yX9_in wsX9_in) := goodIn_app (goodIn_of _ (by decide +kernel)) ggX9_printed_X9_in
set_option maxRecDepth 20000 in
theorem ggX9_printed_X9_goesWell : GoodIn wsX9_printed wsX9_goesWell := goodIn_r _ [10, 11, 12, 13, 14, 15, 16, 17, 18, 19, 20, 21, 22, 23, 24, 25, 26, 27, 28, 29, 30, 31, 32, 33, 34, 35, 36, 37, 38, 39, 40, 41, 42, 43, 44, 45, 46] (by decide +kernel) (by decide +kernel)
set_option maxRecDepth 20000 in
theorem gX9_printed_X9_goesWell : GoodIn wsX9_printed (wsV RX9 107 RX9 yX9_goesWell wsX9_goesWell) := goodIn_app (goodIn_of _ (by decide +kernel)) ggX9_printed_X9_goesWell
theorem dX9_printed_0 : decode cX9_printed 0 = .ok (.aload_n 0, 1) := by decide +kernel
theorem dX9_printed_1 : decode cX9_printed 1 = .ok (.iload_n 1, 1) := by decide +kernel
theorem dX9_printed_2 : decode cX9_printed 2 = .ok (.iconst 0, 1) := by decide +kernel
theorem dX9_printed_3 : decode cX9_printed 3 = .ok (.aload_n 0, 1) := by decide +kernel
theorem dX9_printed_4 : decode cX9_printed 4 = .ok (.getfield 170, 3) := by decide +kernel
theorem dX9_printed_7 : decode cX9_printed 7 = .ok (.iconst 1, 1) := by decide +kernel
theorem dX9_printed_8 : decode cX9_printed 8 = .ok (.isub, 1) := by decide +kernel
theorem dX9_printed_9 : decode cX9_printed 9 = .ok (.invokestatic 93, 3) := by decide +kernel
theorem dX9_printed_12 : decode cX9_printed 12 = .ok (.ifCond .eq 7, 3) := by decide +kernel
theorem dX9_printed_15 : decode cX9_printed 15 = .ok (.iconst 0, 1) := by decide +kernel
theorem dX9_printed_16 : decode cX9_printed 16 = .ok (.goto 4, 3) := by decide +kernel
theorem dX9_printed_19 : decode cX9_printed 19 = .ok (.iconst 1, 1) := by decide +kernel
theorem dX9_printed_20 : decode cX9_printed 20 = .ok (.invokevirtual 107, 3) := by decide +kernel
theorem dX9_printed_23 : decode cX9_printed 23 = .ok (.ifCond .eq 12, 3) := by decide +kernel
theorem dX9_printed_26 : decode cX9_printed 26 = .ok (.aload_n 0, 1) := by decide +kernel
theorem dX9_printed_27 : decode cX9_printed 27 = .ok (.getfield 77, 3) := by decide +kernel
theorem dX9_printed_30 : decode cX9_printed 30 = .ok (.iload_n 1, 1) := by decide +kernel
theorem dX9_printed_31 : decode cX9_printed 31 = .ok (.iaload, 1) := by decide +kernel
theorem dX9_printed_32 : decode cX9_printed 32 = .ok (.goto 4, 3) := by decide +kernel
theorem dX9_printed_35 : decode cX9_printed 35 = .ok (.iconst 0, 1) := by decide +kernel
theorem dX9_printed_36 : decode cX9_printed 36 = .ok (.ireturn, 1) := by decide +kernel
set_option maxRecDepth 20000 in
theorem ggX9_royalties_X9_isWriter : GoodIn wsX9_royalties wsX9_isWriter := goodIn_r _ [5, 6, 7, 4, 8] (by decide +kernel) (by decide +kernel)
set_option maxRecDepth 20000 in
theorem gX9_royalties_X9_isWriter : GoodIn wsX9_royalties (va_wsS RX9 103 yX9_isWriter wsX9_isWriter) := goodIn_app (goodIn_of _ (by decide +kernel)) ggX9_royalties_X9_isWriter
set_option maxRecDepth 20000 in
theorem ggX9_royalties_X9_goesWell : GoodIn wsX9_royalties wsX9_goesWell := goodIn_r _ [12, 13, 14, 15, 16, 17, 18, 19, 20, 21, 22, 23, 24, 25, 26, 27, 28, 29, 30, 31, 32, 33, 34, 35, 36, 37, 38, 39, 40, 41, 42, 43, 44, 45, 46, 47, 48] (by decide +kernel) (by decide +kernel)
set_option maxRecDepth 20000 in
theorem gX9_royalties_X9_goesWell : GoodIn wsX9_royalties (wsV RX9 107 RX9 yX9_goesWell wsX9_goesWell) := goodIn_app (goodIn_of _ (by decide +kernel)) ggX9_royalties_X9_goesWell
theorem dX9_royalties_0 : decode cX9_royalties 0 = .ok (.aload_n 0, 1) := by decide +kernel
theorem dX9_royalties_1 : decode cX9_royalties 1 = .ok (.iload_n 1, 1) := by decide +kernel
theorem dX9_royalties_2 : decode cX9_royalties 2 = .ok (.invokestatic 103, 3) := by decide +kernel
theorem dX9_royalties_5 : decode cX9_royalties 5 = .ok (.ifCond .eq 7, 3) := by decide +kernel
theorem dX9_royalties_8 : decode cX9_royalties 8 = .ok (.iconst 0, 1) := by decide +kernel
theorem dX9_royalties_9 : decode cX9_royalties 9 = .ok (.goto 4, 3) := by decide +kernel
theorem dX9_royalties_12 : decode cX9_royalties 12 = .ok (.iconst 1, 1) := by decide +kernel
theorem dX9_royalties_13 : decode cX9_royalties 13 = .ok (.invokevirtual 107, 3) := by decide +kernel
theorem dX9_royalties_16 : decode cX9_royalties 16 = .ok (.ifCond .eq 12, 3) := by decide +kernel
theorem dX9_royalties_19 : decode cX9_royalties 19 = .ok (.aload_n 0, 1) := by decide +kernel
theorem dX9_royalties_20 : decode cX9_royalties 20 = .ok (.getfield 44, 3) := by decide +kernel
theorem dX9_royalties_23 : decode cX9_royalties 23 = .ok (.iload_n 1, 1) := by decide +kernel
theorem dX9_royalties_24 : decode cX9_royalties 24 = .ok (.iaload, 1) := by decide +kernel
theorem dX9_royalties_25 : decode cX9_royalties 25 = .ok (.goto 4, 3) := by decide +kernel
theorem dX9_royalties_28 : decode cX9_royalties 28 = .ok (.iconst 0, 1) := by decide +kernel
theorem dX9_royalties_29 : decode cX9_royalties 29 = .ok (.ireturn, 1) := by decide +kernel
set_option maxRecDepth 20000 in
theorem ggX9_comment_X9_textAt : GoodIn wsX9_comment wsX9_textAt := goodIn_r _ [8, 9, 10, 11, 17, 18, 19, 20, 21, 22, 23, 24, 25, 26, 27, 28, 29, 30, 31, 32, 33, 34, 35, 36, 37, 38, 39, 40, 41, 42, 43, 44, 45, 46, 47, 48, 49, 50, 51] (by decide +kernel) (by decide +kernel)
set_option maxRecDepth 20000 in
theorem gX9_comment_X9_textAt : GoodIn wsX9_comment (wsV RX9 139 RX9 yX9_textAt wsX9_textAt) := goodIn_app (goodIn_of _ (by decide +kernel)) ggX9_comment_X9_textAt
set_option maxRecDepth 20000 in
theorem ggX9_comment_X9_goesWell : GoodIn wsX9_comment wsX9_goesWell := goodIn_r _ [15, 16, 17, 18, 19, 20, 21, 22, 23, 24, 25, 26, 27, 28, 29, 30, 31, 32, 33, 34, 35, 36, 37, 38, 39, 40, 41, 42, 43, 44, 45, 46, 47, 48, 49, 50, 51] (by decide +kernel) (by decide +kernel)
set_option maxRecDepth 20000 in
theorem gX9_comment_X9_goesWell : GoodIn wsX9_comment (wsV RX9 107 RX9 yX9_goesWell wsX9_goesWell) := goodIn_app (goodIn_of _ (by decide +kernel)) ggX9_comment_X9_goesWell
theorem dX9_comment_0 : decode cX9_comment 0 = .ok (.aload_n 0, 1) := by decide +kernel
theorem dX9_comment_1 : decode cX9_comment 1 = .ok (.iload_n 1, 1) := by decide +kernel
theorem dX9_comment_2 : decode cX9_comment 2 = .ok (.invokevirtual 139, 3) := by decide +kernel
theorem dX9_comment_5 : decode cX9_comment 5 = .ok (.iconst (-1), 1) := by decide +kernel
theorem dX9_comment_6 : decode cX9_comment 6 = .ok (.if_icmp .eq 16, 3) := by decide +kernel
theorem dX9_comment_9 : decode cX9_comment 9 = .ok (.aload_n 0, 1) := by decide +kernel
theorem dX9_comment_10 : decode cX9_comment 10 = .ok (.iload_n 2, 1) := by decide +kernel
theorem dX9_comment_11 : decode cX9_comment 11 = .ok (.invokevirtual 139, 3) := by decide +kernel
theorem dX9_comment_14 : decode cX9_comment 14 = .ok (.iconst (-1), 1) := by decide +kernel
theorem dX9_comment_15 : decode cX9_comment 15 = .ok (.if_icmp .eq 7, 3) := by decide +kernel
theorem dX9_comment_18 : decode cX9_comment 18 = .ok (.iconst 1, 1) := by decide +kernel
theorem dX9_comment_19 : decode cX9_comment 19 = .ok (.goto 4, 3) := by decide +kernel
theorem dX9_comment_22 : decode cX9_comment 22 = .ok (.iconst 0, 1) := by decide +kernel
theorem dX9_comment_23 : decode cX9_comment 23 = .ok (.istore_n 3, 1) := by decide +kernel
theorem dX9_comment_24 : decode cX9_comment 24 = .ok (.aload_n 0, 1) := by decide +kernel
theorem dX9_comment_25 : decode cX9_comment 25 = .ok (.iload_n 3, 1) := by decide +kernel
theorem dX9_comment_26 : decode cX9_comment 26 = .ok (.ifCond .ne 7, 3) := by decide +kernel
theorem dX9_comment_29 : decode cX9_comment 29 = .ok (.iconst 1, 1) := by decide +kernel
theorem dX9_comment_30 : decode cX9_comment 30 = .ok (.goto 26, 3) := by decide +kernel
theorem dX9_comment_33 : decode cX9_comment 33 = .ok (.iload_n 2, 1) := by decide +kernel
theorem dX9_comment_34 : decode cX9_comment 34 = .ok (.iload_n 1, 1) := by decide +kernel
theorem dX9_comment_35 : decode cX9_comment 35 = .ok (.if_icmp .ge 7, 3) := by decide +kernel
theorem dX9_comment_38 : decode cX9_comment 38 = .ok (.iconst 2, 1) := by decide +kernel
theorem dX9_comment_39 : decode cX9_comment 39 = .ok (.goto 17, 3) := by decide +kernel
theorem dX9_comment_42 : decode cX9_comment 42 = .ok (.aload_n 0, 1) := by decide +kernel
theorem dX9_comment_43 : decode cX9_comment 43 = .ok (.getfield 182, 3) := by decide +kernel
theorem dX9_comment_46 : decode cX9_comment 46 = .ok (.bipush 40, 2) := by decide +kernel
theorem dX9_comment_48 : decode cX9_comment 48 = .ok (.if_icmp .ne 7, 3) := by decide +kernel
theorem dX9_comment_51 : decode cX9_comment 51 = .ok (.iconst 3, 1) := by decide +kernel
theorem dX9_comment_52 : decode cX9_comment 52 = .ok (.goto 4, 3) := by decide +kernel
theorem dX9_comment_55 : decode cX9_comment 55 = .ok (.iconst 0, 1) := by decide +kernel
theorem dX9_comment_56 : decode cX9_comment 56 = .ok (.invokevirtual 107, 3) := by decide +kernel
theorem dX9_comment_59 : decode cX9_comment 59 = .ok (.ifCond .ne 5, 3) := by decide +kernel
theorem dX9_comment_62 : decode cX9_comment 62 = .ok (.iconst 0, 1) := by decide +kernel
theorem dX9_comment_63 : decode cX9_comment 63 = .ok (.ireturn, 1) := by decide +kernel
theorem dX9_comment_64 : decode cX9_comment 64 = .ok (.aload_n 0, 1) := by decide +kernel
theorem dX9_comment_65 : decode cX9_comment 65 = .ok (.getfield 80, 3) := by decide +kernel
theorem dX9_comment_68 : decode cX9_comment 68 = .ok (.aload_n 0, 1) := by decide +kernel
theorem dX9_comment_69 : decode cX9_comment 69 = .ok (.getfield 182, 3) := by decide +kernel
theorem dX9_comment_72 : decode cX9_comment 72 = .ok (.aload_n 0, 1) := by decide +kernel
theorem dX9_comment_73 : decode cX9_comment 73 = .ok (.iload_n 1, 1) := by decide +kernel
theorem dX9_comment_74 : decode cX9_comment 74 = .ok (.invokevirtual 139, 3) := by decide +kernel
theorem dX9_comment_77 : decode cX9_comment 77 = .ok (.iastore, 1) := by decide +kernel
theorem dX9_comment_78 : decode cX9_comment 78 = .ok (.aload_n 0, 1) := by decide +kernel
theorem dX9_comment_79 : decode cX9_comment 79 = .ok (.getfield 83, 3) := by decide +kernel
theorem dX9_comment_82 : decode cX9_comment 82 = .ok (.aload_n 0, 1) := by decide +kernel
theorem dX9_comment_83 : decode cX9_comment 83 = .ok (.getfield 182, 3) := by decide +kernel
theorem dX9_comment_86 : decode cX9_comment 86 = .ok (.aload_n 0, 1) := by decide +kernel
theorem dX9_comment_87 : decode cX9_comment 87 = .ok (.iload_n 2, 1) := by decide +kernel
theorem dX9_comment_88 : decode cX9_comment 88 = .ok (.invokevirtual 139, 3) := by decide +kernel
theorem dX9_comment_91 : decode cX9_comment 91 = .ok (.iastore, 1) := by decide +kernel
theorem dX9_comment_92 : decode cX9_comment 92 = .ok (.aload_n 0, 1) := by decide +kernel
theorem dX9_comment_93 : decode cX9_comment 93 = .ok (.dup, 1) := by decide +kernel
theorem dX9_comment_94 : decode cX9_comment 94 = .ok (.getfield 182, 3) := by decide +kernel
theorem dX9_comment_97 : decode cX9_comment 97 = .ok (.iconst 1, 1) := by decide +kernel
theorem dX9_comment_98 : decode cX9_comment 98 = .ok (.iadd, 1) := by decide +kernel
theorem dX9_comment_99 : decode cX9_comment 99 = .ok (.putfield 182, 3) := by decide +kernel
theorem dX9_comment_102 : decode cX9_comment 102 = .ok (.aload_n 0, 1) := by decide +kernel
theorem dX9_comment_103 : decode cX9_comment 103 = .ok (.getfield 182, 3) := by decide +kernel
theorem dX9_comment_106 : decode cX9_comment 106 = .ok (.iconst 1, 1) := by decide +kernel
theorem dX9_comment_107 : decode cX9_comment 107 = .ok (.isub, 1) := by decide +kernel
theorem dX9_comment_108 : decode cX9_comment 108 = .ok (.ireturn, 1) := by decide +kernel
set_option maxRecDepth 20000 in
theorem ggX9_span_X9_in : GoodIn wsX9_span wsX9_in := goodIn_r _ [7] (by decide +kernel) (by decide +kernel)
set_option maxRecDepth 20000 in
theorem gX9_span_X9_in : GoodIn wsX9_span (va_wsS RX9 93 yX9_in wsX9_in) := goodIn_app (goodIn_of _ (by decide +kernel)) ggX9_span_X9_in
set_option maxRecDepth 20000 in
theorem ggX9_span_X9_goesWell : GoodIn wsX9_span wsX9_goesWell := goodIn_r _ [11, 12, 24, 25, 26, 27, 28, 29, 30, 31, 32, 33, 34, 35, 36, 37, 38, 39, 40, 41, 42, 43, 44, 45, 46, 47, 48, 49, 50, 51, 52, 53, 54, 55, 56, 57, 58] (by decide +kernel) (by decide +kernel)
set_option maxRecDepth 20000 in
theorem gX9_span_X9_goesWell : GoodIn wsX9_span (wsV RX9 107 RX9 yX9_goesWell wsX9_goesWell) := goodIn_app (goodIn_of _ (by decide +kernel)) ggX9_span_X9_goesWell
set_option maxRecDepth 20000 in
theorem ggX9_span_X9_indexOf : GoodIn wsX9_span wsX9_indexOf := goodIn_r _ [16, 17, 18, 24, 25, 26, 27, 28, 29, 30, 31, 32, 33, 34, 35, 36, 37, 38, 39, 40, 41, 42, 43, 44, 45, 46, 47, 48, 49, 50, 51, 52, 53, 54, 55, 56, 57, 58] (by decide +kernel) (by decide +kernel)
set_option maxRecDepth 20000 in
theorem gX9_span_X9_indexOf : GoodIn wsX9_span (wsV RX9 121 RX9 yX9_indexOf wsX9_indexOf) := goodIn_app (goodIn_of _ (by decide +kernel)) ggX9_span_X9_indexOf
set_option maxRecDepth 20000 in
theorem ggX9_span_X9_countAhead : GoodIn wsX9_span wsX9_countAhead := goodIn_r _ [22, 23, 18, 24, 25, 26, 27, 28, 29, 30, 31, 32, 33, 34, 35, 36, 37, 38, 39, 40, 41, 42, 43, 44, 45, 46, 47, 48, 49, 50, 51, 52, 53, 54, 55, 56, 57, 58] (by decide +kernel) (by decide +kernel)
set_option maxRecDepth 20000 in
theorem gX9_span_X9_countAhead : GoodIn wsX9_span (wsV RX9 145 RX9 yX9_countAhead wsX9_countAhead) := goodIn_app (goodIn_of _ (by decide +kernel)) ggX9_span_X9_countAhead
theorem dX9_span_0 : decode cX9_span 0 = .ok (.aload_n 0, 1) := by decide +kernel
theorem dX9_span_1 : decode cX9_span 1 = .ok (.iload_n 1, 1) := by decide +kernel
theorem dX9_span_2 : decode cX9_span 2 = .ok (.iconst 0, 1) := by decide +kernel
theorem dX9_span_3 : decode cX9_span 3 = .ok (.aload_n 0, 1) := by decide +kernel
theorem dX9_span_4 : decode cX9_span 4 = .ok (.getfield 182, 3) := by decide +kernel
theorem dX9_span_7 : decode cX9_span 7 = .ok (.iconst 1, 1) := by decide +kernel
theorem dX9_span_8 : decode cX9_span 8 = .ok (.isub, 1) := by decide +kernel
theorem dX9_span_9 : decode cX9_span 9 = .ok (.invokestatic 93, 3) := by decide +kernel
theorem dX9_span_12 : decode cX9_span 12 = .ok (.ifCond .eq 7, 3) := by decide +kernel
theorem dX9_span_15 : decode cX9_span 15 = .ok (.iconst 0, 1) := by decide +kernel
theorem dX9_span_16 : decode cX9_span 16 = .ok (.goto 4, 3) := by decide +kernel
theorem dX9_span_19 : decode cX9_span 19 = .ok (.iconst 1, 1) := by decide +kernel
theorem dX9_span_20 : decode cX9_span 20 = .ok (.invokevirtual 107, 3) := by decide +kernel
theorem dX9_span_23 : decode cX9_span 23 = .ok (.ifCond .ne 5, 3) := by decide +kernel
theorem dX9_span_26 : decode cX9_span 26 = .ok (.iconst 0, 1) := by decide +kernel
theorem dX9_span_27 : decode cX9_span 27 = .ok (.ireturn, 1) := by decide +kernel
theorem dX9_span_28 : decode cX9_span 28 = .ok (.aload_n 0, 1) := by decide +kernel
theorem dX9_span_29 : decode cX9_span 29 = .ok (.aload_n 0, 1) := by decide +kernel
theorem dX9_span_30 : decode cX9_span 30 = .ok (.getfield 80, 3) := by decide +kernel
theorem dX9_span_33 : decode cX9_span 33 = .ok (.iload_n 1, 1) := by decide +kernel
theorem dX9_span_34 : decode cX9_span 34 = .ok (.iaload, 1) := by decide +kernel
theorem dX9_span_35 : decode cX9_span 35 = .ok (.invokevirtual 121, 3) := by decide +kernel
theorem dX9_span_38 : decode cX9_span 38 = .ok (.istore_n 2, 1) := by decide +kernel
theorem dX9_span_39 : decode cX9_span 39 = .ok (.aload_n 0, 1) := by decide +kernel
theorem dX9_span_40 : decode cX9_span 40 = .ok (.aload_n 0, 1) := by decide +kernel
theorem dX9_span_41 : decode cX9_span 41 = .ok (.aload_n 0, 1) := by decide +kernel
theorem dX9_span_42 : decode cX9_span 42 = .ok (.getfield 83, 3) := by decide +kernel
theorem dX9_span_45 : decode cX9_span 45 = .ok (.iload_n 1, 1) := by decide +kernel
theorem dX9_span_46 : decode cX9_span 46 = .ok (.iaload, 1) := by decide +kernel
theorem dX9_span_47 : decode cX9_span 47 = .ok (.invokevirtual 121, 3) := by decide +kernel
theorem dX9_span_50 : decode cX9_span 50 = .ok (.iconst 1, 1) := by decide +kernel
theorem dX9_span_51 : decode cX9_span 51 = .ok (.iadd, 1) := by decide +kernel
theorem dX9_span_52 : decode cX9_span 52 = .ok (.invokevirtual 145, 3) := by decide +kernel
theorem dX9_span_55 : decode cX9_span 55 = .ok (.aload_n 0, 1) := by decide +kernel
theorem dX9_span_56 : decode cX9_span 56 = .ok (.iload_n 2, 1) := by decide +kernel
theorem dX9_span_57 : decode cX9_span 57 = .ok (.invokevirtual 145, 3) := by decide +kernel
theorem dX9_span_60 : decode cX9_span 60 = .ok (.isub, 1) := by decide +kernel
theorem dX9_span_61 : decode cX9_span 61 = .ok (.istore_n 3, 1) := by decide +kernel
theorem dX9_span_62 : decode cX9_span 62 = .ok (.iload_n 3, 1) := by decide +kernel
theorem dX9_span_63 : decode cX9_span 63 = .ok (.ifCond .ne 7, 3) := by decide +kernel
theorem dX9_span_66 : decode cX9_span 66 = .ok (.iconst (-1), 1) := by decide +kernel
theorem dX9_span_67 : decode cX9_span 67 = .ok (.goto 14, 3) := by decide +kernel
theorem dX9_span_70 : decode cX9_span 70 = .ok (.sipush 1000, 3) := by decide +kernel
theorem dX9_span_73 : decode cX9_span 73 = .ok (.aload_n 0, 1) := by decide +kernel
theorem dX9_span_74 : decode cX9_span 74 = .ok (.iload_n 2, 1) := by decide +kernel
theorem dX9_span_75 : decode cX9_span 75 = .ok (.invokevirtual 145, 3) := by decide +kernel
theorem dX9_span_78 : decode cX9_span 78 = .ok (.imul, 1) := by decide +kernel
theorem dX9_span_79 : decode cX9_span 79 = .ok (.iload_n 3, 1) := by decide +kernel
theorem dX9_span_80 : decode cX9_span 80 = .ok (.iadd, 1) := by decide +kernel
theorem dX9_span_81 : decode cX9_span 81 = .ok (.ireturn, 1) := by decide +kernel
set_option maxRecDepth 20000 in
theorem ggX9_keep_X9_goesWell : GoodIn wsX9_keep wsX9_goesWell := goodIn_r _ [8, 9, 10, 11, 12, 13, 14, 15, 16, 17, 18, 19, 20, 21, 22, 23, 24, 25, 26, 27, 28, 29, 30, 31, 32, 33, 34, 35, 36, 37, 38, 39, 40, 41, 42, 43, 44] (by decide +kernel) (by decide +kernel)
set_option maxRecDepth 20000 in
theorem gX9_keep_X9_goesWell : GoodIn wsX9_keep (wsV RX9 107 RX9 yX9_goesWell wsX9_goesWell) := goodIn_app (goodIn_of _ (by decide +kernel)) ggX9_keep_X9_goesWell
theorem dX9_keep_0 : decode cX9_keep 0 = .ok (.aload_n 0, 1) := by decide +kernel
theorem dX9_keep_1 : decode cX9_keep 1 = .ok (.aload_n 0, 1) := by decide +kernel
theorem dX9_keep_2 : decode cX9_keep 2 = .ok (.getfield 185, 3) := by decide +kernel
theorem dX9_keep_5 : decode cX9_keep 5 = .ok (.bipush 20, 2) := by decide +kernel
theorem dX9_keep_7 : decode cX9_keep 7 = .ok (.if_icmp .ne 7, 3) := by decide +kernel
theorem dX9_keep_10 : decode cX9_keep 10 = .ok (.iconst 1, 1) := by decide +kernel
theorem dX9_keep_11 : decode cX9_keep 11 = .ok (.goto 4, 3) := by decide +kernel
theorem dX9_keep_14 : decode cX9_keep 14 = .ok (.iconst 0, 1) := by decide +kernel
theorem dX9_keep_15 : decode cX9_keep 15 = .ok (.invokevirtual 107, 3) := by decide +kernel
theorem dX9_keep_18 : decode cX9_keep 18 = .ok (.ifCond .ne 5, 3) := by decide +kernel
theorem dX9_keep_21 : decode cX9_keep 21 = .ok (.iconst 0, 1) := by decide +kernel
theorem dX9_keep_22 : decode cX9_keep 22 = .ok (.ireturn, 1) := by decide +kernel
theorem dX9_keep_23 : decode cX9_keep 23 = .ok (.iconst 0, 1) := by decide +kernel
theorem dX9_keep_24 : decode cX9_keep 24 = .ok (.istore_n 1, 1) := by decide +kernel
theorem dX9_keep_25 : decode cX9_keep 25 = .ok (.iload_n 1, 1) := by decide +kernel
theorem dX9_keep_26 : decode cX9_keep 26 = .ok (.sipush 300, 3) := by decide +kernel
theorem dX9_keep_29 : decode cX9_keep 29 = .ok (.if_icmp .ge 30, 3) := by decide +kernel
theorem dX9_keep_32 : decode cX9_keep 32 = .ok (.aload_n 0, 1) := by decide +kernel
theorem dX9_keep_33 : decode cX9_keep 33 = .ok (.getfield 86, 3) := by decide +kernel
theorem dX9_keep_36 : decode cX9_keep 36 = .ok (.sipush 300, 3) := by decide +kernel
theorem dX9_keep_39 : decode cX9_keep 39 = .ok (.aload_n 0, 1) := by decide +kernel
theorem dX9_keep_40 : decode cX9_keep 40 = .ok (.getfield 185, 3) := by decide +kernel
theorem dX9_keep_43 : decode cX9_keep 43 = .ok (.imul, 1) := by decide +kernel
theorem dX9_keep_44 : decode cX9_keep 44 = .ok (.iload_n 1, 1) := by decide +kernel
theorem dX9_keep_45 : decode cX9_keep 45 = .ok (.iadd, 1) := by decide +kernel
theorem dX9_keep_46 : decode cX9_keep 46 = .ok (.aload_n 0, 1) := by decide +kernel
theorem dX9_keep_47 : decode cX9_keep 47 = .ok (.getfield 23, 3) := by decide +kernel
theorem dX9_keep_50 : decode cX9_keep 50 = .ok (.iload_n 1, 1) := by decide +kernel
theorem dX9_keep_51 : decode cX9_keep 51 = .ok (.baload, 1) := by decide +kernel
theorem dX9_keep_52 : decode cX9_keep 52 = .ok (.bastore, 1) := by decide +kernel
theorem dX9_keep_53 : decode cX9_keep 53 = .ok (.iinc 1 1, 3) := by decide +kernel
theorem dX9_keep_56 : decode cX9_keep 56 = .ok (.goto (-31), 3) := by decide +kernel
theorem dX9_keep_59 : decode cX9_keep 59 = .ok (.aload_n 0, 1) := by decide +kernel
theorem dX9_keep_60 : decode cX9_keep 60 = .ok (.dup, 1) := by decide +kernel
theorem dX9_keep_61 : decode cX9_keep 61 = .ok (.getfield 185, 3) := by decide +kernel
theorem dX9_keep_64 : decode cX9_keep 64 = .ok (.iconst 1, 1) := by decide +kernel
theorem dX9_keep_65 : decode cX9_keep 65 = .ok (.iadd, 1) := by decide +kernel
theorem dX9_keep_66 : decode cX9_keep 66 = .ok (.putfield 185, 3) := by decide +kernel
theorem dX9_keep_69 : decode cX9_keep 69 = .ok (.aload_n 0, 1) := by decide +kernel
theorem dX9_keep_70 : decode cX9_keep 70 = .ok (.getfield 185, 3) := by decide +kernel
theorem dX9_keep_73 : decode cX9_keep 73 = .ok (.iconst 1, 1) := by decide +kernel
theorem dX9_keep_74 : decode cX9_keep 74 = .ok (.isub, 1) := by decide +kernel
theorem dX9_keep_75 : decode cX9_keep 75 = .ok (.ireturn, 1) := by decide +kernel
set_option maxRecDepth 20000 in
theorem ggX9_compare_X9_in : GoodIn wsX9_compare wsX9_in := goodIn_r _ [6] (by decide +kernel) (by decide +kernel)
set_option maxRecDepth 20000 in
theorem gX9_compare_X9_in : GoodIn wsX9_compare (va_wsS RX9 93 yX9_in wsX9_in) := goodIn_app (goodIn_of _ (by decide +kernel)) ggX9_compare_X9_in
set_option maxRecDepth 20000 in
theorem ggX9_compare_X9_goesWell : GoodIn wsX9_compare wsX9_goesWell := goodIn_r _ [10, 11, 12, 13, 14, 15, 16, 17, 18, 19, 20, 21, 22, 23, 24, 25, 26, 27, 28, 29, 30, 31, 32, 33, 34, 35, 36, 37, 38, 39, 40, 41, 42, 43, 44, 45, 46] (by decide +kernel) (by decide +kernel)
set_option maxRecDepth 20000 in
theorem gX9_compare_X9_goesWell : GoodIn wsX9_compare (wsV RX9 107 RX9 yX9_goesWell wsX9_goesWell) := goodIn_app (goodIn_of _ (by decide +kernel)) ggX9_compare_X9_goesWell
theorem dX9_compare_0 : decode cX9_compare 0 = .ok (.aload_n 0, 1) := by decide +kernel
theorem dX9_compare_1 : decode cX9_compare 1 = .ok (.iload_n 1, 1) := by decide +kernel
theorem dX9_compare_2 : decode cX9_compare 2 = .ok (.iconst 0, 1) := by decide +kernel
theorem dX9_compare_3 : decode cX9_compare 3 = .ok (.aload_n 0, 1) := by decide +kernel
theorem dX9_compare_4 : decode cX9_compare 4 = .ok (.getfield 185, 3) := by decide +kernel
theorem dX9_compare_7 : decode cX9_compare 7 = .ok (.iconst 1, 1) := by decide +kernel
theorem dX9_compare_8 : decode cX9_compare 8 = .ok (.isub, 1) := by decide +kernel
theorem dX9_compare_9 : decode cX9_compare 9 = .ok (.invokestatic 93, 3) := by decide +kernel
theorem dX9_compare_12 : decode cX9_compare 12 = .ok (.ifCond .eq 21, 3) := by decide +kernel
theorem dX9_compare_15 : decode cX9_compare 15 = .ok (.iload_n 2, 1) := by decide +kernel
theorem dX9_compare_16 : decode cX9_compare 16 = .ok (.iconst 0, 1) := by decide +kernel
theorem dX9_compare_17 : decode cX9_compare 17 = .ok (.aload_n 0, 1) := by decide +kernel
theorem dX9_compare_18 : decode cX9_compare 18 = .ok (.getfield 185, 3) := by decide +kernel
theorem dX9_compare_21 : decode cX9_compare 21 = .ok (.iconst 1, 1) := by decide +kernel
theorem dX9_compare_22 : decode cX9_compare 22 = .ok (.isub, 1) := by decide +kernel
theorem dX9_compare_23 : decode cX9_compare 23 = .ok (.invokestatic 93, 3) := by decide +kernel
theorem dX9_compare_26 : decode cX9_compare 26 = .ok (.ifCond .eq 7, 3) := by decide +kernel
theorem dX9_compare_29 : decode cX9_compare 29 = .ok (.iconst 0, 1) := by decide +kernel
theorem dX9_compare_30 : decode cX9_compare 30 = .ok (.goto 4, 3) := by decide +kernel
theorem dX9_compare_33 : decode cX9_compare 33 = .ok (.iconst 1, 1) := by decide +kernel
theorem dX9_compare_34 : decode cX9_compare 34 = .ok (.invokevirtual 107, 3) := by decide +kernel
theorem dX9_compare_37 : decode cX9_compare 37 = .ok (.ifCond .ne 5, 3) := by decide +kernel
theorem dX9_compare_40 : decode cX9_compare 40 = .ok (.iconst 0, 1) := by decide +kernel
theorem dX9_compare_41 : decode cX9_compare 41 = .ok (.ireturn, 1) := by decide +kernel
theorem dX9_compare_42 : decode cX9_compare 42 = .ok (.iconst 0, 1) := by decide +kernel
theorem dX9_compare_43 : decode cX9_compare 43 = .ok (.istore_n 3, 1) := by decide +kernel
theorem dX9_compare_44 : decode cX9_compare 44 = .ok (.iconst 0, 1) := by decide +kernel
theorem dX9_compare_45 : decode cX9_compare 45 = .ok (.istore 4, 2) := by decide +kernel
theorem dX9_compare_47 : decode cX9_compare 47 = .ok (.iconst 0, 1) := by decide +kernel
theorem dX9_compare_48 : decode cX9_compare 48 = .ok (.istore 5, 2) := by decide +kernel
theorem dX9_compare_50 : decode cX9_compare 50 = .ok (.iload 5, 2) := by decide +kernel
theorem dX9_compare_52 : decode cX9_compare 52 = .ok (.sipush 300, 3) := by decide +kernel
theorem dX9_compare_55 : decode cX9_compare 55 = .ok (.if_icmp .ge 77, 3) := by decide +kernel
theorem dX9_compare_58 : decode cX9_compare 58 = .ok (.aload_n 0, 1) := by decide +kernel
theorem dX9_compare_59 : decode cX9_compare 59 = .ok (.getfield 86, 3) := by decide +kernel
theorem dX9_compare_62 : decode cX9_compare 62 = .ok (.sipush 300, 3) := by decide +kernel
theorem dX9_compare_65 : decode cX9_compare 65 = .ok (.iload_n 1, 1) := by decide +kernel
theorem dX9_compare_66 : decode cX9_compare 66 = .ok (.imul, 1) := by decide +kernel
theorem dX9_compare_67 : decode cX9_compare 67 = .ok (.iload 5, 2) := by decide +kernel
theorem dX9_compare_69 : decode cX9_compare 69 = .ok (.iadd, 1) := by decide +kernel
theorem dX9_compare_70 : decode cX9_compare 70 = .ok (.baload, 1) := by decide +kernel
theorem dX9_compare_71 : decode cX9_compare 71 = .ok (.istore 6, 2) := by decide +kernel
theorem dX9_compare_73 : decode cX9_compare 73 = .ok (.aload_n 0, 1) := by decide +kernel
theorem dX9_compare_74 : decode cX9_compare 74 = .ok (.getfield 86, 3) := by decide +kernel
theorem dX9_compare_77 : decode cX9_compare 77 = .ok (.sipush 300, 3) := by decide +kernel
theorem dX9_compare_80 : decode cX9_compare 80 = .ok (.iload_n 2, 1) := by decide +kernel
theorem dX9_compare_81 : decode cX9_compare 81 = .ok (.imul, 1) := by decide +kernel
theorem dX9_compare_82 : decode cX9_compare 82 = .ok (.iload 5, 2) := by decide +kernel
theorem dX9_compare_84 : decode cX9_compare 84 = .ok (.iadd, 1) := by decide +kernel
theorem dX9_compare_85 : decode cX9_compare 85 = .ok (.baload, 1) := by decide +kernel
theorem dX9_compare_86 : decode cX9_compare 86 = .ok (.istore 7, 2) := by decide +kernel
theorem dX9_compare_88 : decode cX9_compare 88 = .ok (.iload_n 3, 1) := by decide +kernel
theorem dX9_compare_89 : decode cX9_compare 89 = .ok (.iload 7, 2) := by decide +kernel
theorem dX9_compare_91 : decode cX9_compare 91 = .ok (.ifCond .eq 12, 3) := by decide +kernel
theorem dX9_compare_94 : decode cX9_compare 94 = .ok (.iload 6, 2) := by decide +kernel
theorem dX9_compare_96 : decode cX9_compare 96 = .ok (.ifCond .ne 7, 3) := by decide +kernel
theorem dX9_compare_99 : decode cX9_compare 99 = .ok (.iconst 1, 1) := by decide +kernel
theorem dX9_compare_100 : decode cX9_compare 100 = .ok (.goto 4, 3) := by decide +kernel
theorem dX9_compare_103 : decode cX9_compare 103 = .ok (.iconst 0, 1) := by decide +kernel
theorem dX9_compare_104 : decode cX9_compare 104 = .ok (.iadd, 1) := by decide +kernel
theorem dX9_compare_105 : decode cX9_compare 105 = .ok (.istore_n 3, 1) := by decide +kernel
theorem dX9_compare_106 : decode cX9_compare 106 = .ok (.iload 4, 2) := by decide +kernel
theorem dX9_compare_108 : decode cX9_compare 108 = .ok (.iload 6, 2) := by decide +kernel
theorem dX9_compare_110 : decode cX9_compare 110 = .ok (.ifCond .eq 12, 3) := by decide +kernel
theorem dX9_compare_113 : decode cX9_compare 113 = .ok (.iload 7, 2) := by decide +kernel
theorem dX9_compare_115 : decode cX9_compare 115 = .ok (.ifCond .ne 7, 3) := by decide +kernel
theorem dX9_compare_118 : decode cX9_compare 118 = .ok (.iconst 1, 1) := by decide +kernel
theorem dX9_compare_119 : decode cX9_compare 119 = .ok (.goto 4, 3) := by decide +kernel
theorem dX9_compare_122 : decode cX9_compare 122 = .ok (.iconst 0, 1) := by decide +kernel
theorem dX9_compare_123 : decode cX9_compare 123 = .ok (.iadd, 1) := by decide +kernel
theorem dX9_compare_124 : decode cX9_compare 124 = .ok (.istore 4, 2) := by decide +kernel
theorem dX9_compare_126 : decode cX9_compare 126 = .ok (.iinc 5 1, 3) := by decide +kernel
theorem dX9_compare_129 : decode cX9_compare 129 = .ok (.goto (-79), 3) := by decide +kernel
theorem dX9_compare_132 : decode cX9_compare 132 = .ok (.sipush 1000, 3) := by decide +kernel
theorem dX9_compare_135 : decode cX9_compare 135 = .ok (.iload_n 3, 1) := by decide +kernel
theorem dX9_compare_136 : decode cX9_compare 136 = .ok (.imul, 1) := by decide +kernel
theorem dX9_compare_137 : decode cX9_compare 137 = .ok (.iload 4, 2) := by decide +kernel
theorem dX9_compare_139 : decode cX9_compare 139 = .ok (.iadd, 1) := by decide +kernel
theorem dX9_compare_140 : decode cX9_compare 140 = .ok (.ireturn, 1) := by decide +kernel
