theorem dX8_fires_0 : decode cX8_fires 0 = .ok (.iconst 0, 1) := by decide +kernel
theorem dX8_fires_1 : decode cX8_fires 1 = .ok (.istore 5, 2) := by decide +kernel
theorem dX8_fires_3 : decode cX8_fires 3 = .ok (.iconst 0, 1) := by decide +kernel
theorem dX8_fires_4 : decode cX8_fires 4 = .ok (.istore 6, 2) := by decide +kernel
theorem dX8_fires_6 : decode cX8_fires 6 = .ok (.iload 6, 2) := by decide +kernel
theorem dX8_fires_8 : decode cX8_fires 8 = .ok (.aload_n 0, 1) := by decide +kernel
theorem dX8_fires_9 : decode cX8_fires 9 = .ok (.getfield 100, 3) := by decide +kernel
theorem dX8_fires_12 : decode cX8_fires 12 = .ok (.if_icmp .ge 127, 3) := by decide +kernel
theorem dX8_fires_15 : decode cX8_fires 15 = .ok (.aload_n 0, 1) := by decide +kernel
theorem dX8_fires_16 : decode cX8_fires 16 = .ok (.getfield 69, 3) := by decide +kernel
theorem dX8_fires_19 : decode cX8_fires 19 = .ok (.iload 6, 2) := by decide +kernel
theorem dX8_fires_21 : decode cX8_fires 21 = .ok (.iaload, 1) := by decide +kernel
theorem dX8_fires_22 : decode cX8_fires 22 = .ok (.iload_n 1, 1) := by decide +kernel
theorem dX8_fires_23 : decode cX8_fires 23 = .ok (.if_icmp .ne 65, 3) := by decide +kernel
theorem dX8_fires_26 : decode cX8_fires 26 = .ok (.aload_n 0, 1) := by decide +kernel
theorem dX8_fires_27 : decode cX8_fires 27 = .ok (.getfield 75, 3) := by decide +kernel
theorem dX8_fires_30 : decode cX8_fires 30 = .ok (.iload 6, 2) := by decide +kernel
theorem dX8_fires_32 : decode cX8_fires 32 = .ok (.iaload, 1) := by decide +kernel
theorem dX8_fires_33 : decode cX8_fires 33 = .ok (.iload_n 2, 1) := by decide +kernel
theorem dX8_fires_34 : decode cX8_fires 34 = .ok (.if_icmp .ne 54, 3) := by decide +kernel
theorem dX8_fires_37 : decode cX8_fires 37 = .ok (.aload_n 0, 1) := by decide +kernel
theorem dX8_fires_38 : decode cX8_fires 38 = .ok (.getfield 72, 3) := by decide +kernel
theorem dX8_fires_41 : decode cX8_fires 41 = .ok (.iload 6, 2) := by decide +kernel
theorem dX8_fires_43 : decode cX8_fires 43 = .ok (.iaload, 1) := by decide +kernel
theorem dX8_fires_44 : decode cX8_fires 44 = .ok (.istore 7, 2) := by decide +kernel
theorem dX8_fires_46 : decode cX8_fires 46 = .ok (.aload_n 0, 1) := by decide +kernel
theorem dX8_fires_47 : decode cX8_fires 47 = .ok (.getfield 66, 3) := by decide +kernel
theorem dX8_fires_50 : decode cX8_fires 50 = .ok (.bipush 8, 2) := by decide +kernel
theorem dX8_fires_52 : decode cX8_fires 52 = .ok (.iload 7, 2) := by decide +kernel
theorem dX8_fires_54 : decode cX8_fires 54 = .ok (.imul, 1) := by decide +kernel
theorem dX8_fires_55 : decode cX8_fires 55 = .ok (.aload_n 0, 1) := by decide +kernel
theorem dX8_fires_56 : decode cX8_fires 56 = .ok (.getfield 63, 3) := by decide +kernel
theorem dX8_fires_59 : decode cX8_fires 59 = .ok (.iload 7, 2) := by decide +kernel
theorem dX8_fires_61 : decode cX8_fires 61 = .ok (.iaload, 1) := by decide +kernel
theorem dX8_fires_62 : decode cX8_fires 62 = .ok (.bipush 8, 2) := by decide +kernel
theorem dX8_fires_64 : decode cX8_fires 64 = .ok (.irem, 1) := by decide +kernel
theorem dX8_fires_65 : decode cX8_fires 65 = .ok (.iadd, 1) := by decide +kernel
theorem dX8_fires_66 : decode cX8_fires 66 = .ok (.bipush 10, 2) := by decide +kernel
theorem dX8_fires_68 : decode cX8_fires 68 = .ok (.iload_n 3, 1) := by decide +kernel
theorem dX8_fires_69 : decode cX8_fires 69 = .ok (.imul, 1) := by decide +kernel
theorem dX8_fires_70 : decode cX8_fires 70 = .ok (.iload 4, 2) := by decide +kernel
theorem dX8_fires_72 : decode cX8_fires 72 = .ok (.iadd, 1) := by decide +kernel
theorem dX8_fires_73 : decode cX8_fires 73 = .ok (.iastore, 1) := by decide +kernel
theorem dX8_fires_74 : decode cX8_fires 74 = .ok (.aload_n 0, 1) := by decide +kernel
theorem dX8_fires_75 : decode cX8_fires 75 = .ok (.getfield 63, 3) := by decide +kernel
theorem dX8_fires_78 : decode cX8_fires 78 = .ok (.iload 7, 2) := by decide +kernel
theorem dX8_fires_80 : decode cX8_fires 80 = .ok (.dup2, 1) := by decide +kernel
theorem dX8_fires_81 : decode cX8_fires 81 = .ok (.iaload, 1) := by decide +kernel
theorem dX8_fires_82 : decode cX8_fires 82 = .ok (.iconst 1, 1) := by decide +kernel
theorem dX8_fires_83 : decode cX8_fires 83 = .ok (.iadd, 1) := by decide +kernel
theorem dX8_fires_84 : decode cX8_fires 84 = .ok (.iastore, 1) := by decide +kernel
theorem dX8_fires_85 : decode cX8_fires 85 = .ok (.goto 48, 3) := by decide +kernel
theorem dX8_fires_88 : decode cX8_fires 88 = .ok (.aload_n 0, 1) := by decide +kernel
theorem dX8_fires_89 : decode cX8_fires 89 = .ok (.getfield 69, 3) := by decide +kernel
theorem dX8_fires_92 : decode cX8_fires 92 = .ok (.iload 5, 2) := by decide +kernel
theorem dX8_fires_94 : decode cX8_fires 94 = .ok (.aload_n 0, 1) := by decide +kernel
theorem dX8_fires_95 : decode cX8_fires 95 = .ok (.getfield 69, 3) := by decide +kernel
theorem dX8_fires_98 : decode cX8_fires 98 = .ok (.iload 6, 2) := by decide +kernel
theorem dX8_fires_100 : decode cX8_fires 100 = .ok (.iaload, 1) := by decide +kernel
theorem dX8_fires_101 : decode cX8_fires 101 = .ok (.iastore, 1) := by decide +kernel
theorem dX8_fires_102 : decode cX8_fires 102 = .ok (.aload_n 0, 1) := by decide +kernel
theorem dX8_fires_103 : decode cX8_fires 103 = .ok (.getfield 72, 3) := by decide +kernel
theorem dX8_fires_106 : decode cX8_fires 106 = .ok (.iload 5, 2) := by decide +kernel
theorem dX8_fires_108 : decode cX8_fires 108 = .ok (.aload_n 0, 1) := by decide +kernel
theorem dX8_fires_109 : decode cX8_fires 109 = .ok (.getfield 72, 3) := by decide +kernel
theorem dX8_fires_112 : decode cX8_fires 112 = .ok (.iload 6, 2) := by decide +kernel
theorem dX8_fires_114 : decode cX8_fires 114 = .ok (.iaload, 1) := by decide +kernel
theorem dX8_fires_115 : decode cX8_fires 115 = .ok (.iastore, 1) := by decide +kernel
theorem dX8_fires_116 : decode cX8_fires 116 = .ok (.aload_n 0, 1) := by decide +kernel
theorem dX8_fires_117 : decode cX8_fires 117 = .ok (.getfield 75, 3) := by decide +kernel
theorem dX8_fires_120 : decode cX8_fires 120 = .ok (.iload 5, 2) := by decide +kernel
theorem dX8_fires_122 : decode cX8_fires 122 = .ok (.aload_n 0, 1) := by decide +kernel
theorem dX8_fires_123 : decode cX8_fires 123 = .ok (.getfield 75, 3) := by decide +kernel
theorem dX8_fires_126 : decode cX8_fires 126 = .ok (.iload 6, 2) := by decide +kernel
theorem dX8_fires_128 : decode cX8_fires 128 = .ok (.iaload, 1) := by decide +kernel
theorem dX8_fires_129 : decode cX8_fires 129 = .ok (.iastore, 1) := by decide +kernel
theorem dX8_fires_130 : decode cX8_fires 130 = .ok (.iinc 5 1, 3) := by decide +kernel
theorem dX8_fires_133 : decode cX8_fires 133 = .ok (.iinc 6 1, 3) := by decide +kernel
theorem dX8_fires_136 : decode cX8_fires 136 = .ok (.goto (-130), 3) := by decide +kernel
theorem dX8_fires_139 : decode cX8_fires 139 = .ok (.aload_n 0, 1) := by decide +kernel
theorem dX8_fires_140 : decode cX8_fires 140 = .ok (.iload 5, 2) := by decide +kernel
theorem dX8_fires_142 : decode cX8_fires 142 = .ok (.putfield 100, 3) := by decide +kernel
theorem dX8_fires_145 : decode cX8_fires 145 = .ok (.return_, 1) := by decide +kernel
set_option maxRecDepth 20000 in
theorem ggX8_applies_X8_find : GoodIn wsX8_applies wsX8_find := goodIn_r _ [15, 3, 4, 34, 35, 36, 37, 38, 39, 40, 41, 42, 43, 44, 45, 46, 47, 48, 49, 50, 51, 52, 53, 54, 55, 56, 57, 58, 59, 60, 61, 62] (by decide +kernel) (by decide +kernel)
set_option maxRecDepth 20000 in
theorem gX8_applies_X8_find : GoodIn wsX8_applies (wsV RX8 118 RX8 yX8_find wsX8_find) := goodIn_app (goodIn_of _ (by decide +kernel)) ggX8_applies_X8_find
set_option maxRecDepth 20000 in
theorem ggX8_applies_X8_fires : GoodIn wsX8_applies wsX8_fires := goodIn_r _ [19, 20, 21, 22, 23, 24, 25, 34, 35, 36, 37, 38, 39, 40, 41, 42, 43, 44, 45, 46, 47, 48, 49, 50, 51, 52, 53, 54, 55, 56, 57, 58, 59, 60, 61, 62] (by decide +kernel) (by decide +kernel)
set_option maxRecDepth 20000 in
theorem gX8_applies_X8_fires : GoodIn wsX8_applies (wsV RX8 122 RX8 yX8_fires wsX8_fires) := goodIn_app (goodIn_of _ (by decide +kernel)) ggX8_applies_X8_fires
set_option maxRecDepth 20000 in
theorem ggX8_applies_X8_removes : GoodIn wsX8_applies wsX8_removes := goodIn_r _ [29, 3, 4, 5, 7, 8, 34, 35, 36, 37, 38, 39, 40, 41, 42, 43, 44, 45, 46, 47, 48, 49, 50, 51, 52, 53, 54, 55, 56, 57, 58, 59, 60, 61, 62] (by decide +kernel) (by decide +kernel)
set_option maxRecDepth 20000 in
theorem gX8_applies_X8_removes : GoodIn wsX8_applies (wsV RX8 126 RX8 yX8_removes wsX8_removes) := goodIn_app (goodIn_of _ (by decide +kernel)) ggX8_applies_X8_removes
set_option maxRecDepth 20000 in
theorem ggX8_applies_X8_firstOf : GoodIn wsX8_applies wsX8_firstOf := goodIn_r _ [33, 3, 8, 4, 34, 35, 36, 37, 38, 39, 40, 41, 42, 43, 44, 45, 46, 47, 48, 49, 50, 51, 52, 53, 54, 55, 56, 57, 58, 59, 60, 61, 62] (by decide +kernel) (by decide +kernel)
set_option maxRecDepth 20000 in
theorem gX8_applies_X8_firstOf : GoodIn wsX8_applies (wsV RX8 130 RX8 yX8_firstOf wsX8_firstOf) := goodIn_app (goodIn_of _ (by decide +kernel)) ggX8_applies_X8_firstOf
theorem dX8_applies_0 : decode cX8_applies 0 = .ok (.aload_n 0, 1) := by decide +kernel
theorem dX8_applies_1 : decode cX8_applies 1 = .ok (.getfield 36, 3) := by decide +kernel
theorem dX8_applies_4 : decode cX8_applies 4 = .ok (.iload_n 2, 1) := by decide +kernel
theorem dX8_applies_5 : decode cX8_applies 5 = .ok (.iaload, 1) := by decide +kernel
theorem dX8_applies_6 : decode cX8_applies 6 = .ok (.istore_n 3, 1) := by decide +kernel
theorem dX8_applies_7 : decode cX8_applies 7 = .ok (.aload_n 0, 1) := by decide +kernel
theorem dX8_applies_8 : decode cX8_applies 8 = .ok (.iload_n 1, 1) := by decide +kernel
theorem dX8_applies_9 : decode cX8_applies 9 = .ok (.iload_n 3, 1) := by decide +kernel
theorem dX8_applies_10 : decode cX8_applies 10 = .ok (.invokevirtual 118, 3) := by decide +kernel
theorem dX8_applies_13 : decode cX8_applies 13 = .ok (.istore 4, 2) := by decide +kernel
theorem dX8_applies_15 : decode cX8_applies 15 = .ok (.aload_n 0, 1) := by decide +kernel
theorem dX8_applies_16 : decode cX8_applies 16 = .ok (.getfield 33, 3) := by decide +kernel
theorem dX8_applies_19 : decode cX8_applies 19 = .ok (.iload_n 2, 1) := by decide +kernel
theorem dX8_applies_20 : decode cX8_applies 20 = .ok (.iaload, 1) := by decide +kernel
theorem dX8_applies_21 : decode cX8_applies 21 = .ok (.tableswitch 171 0 2 #[27, 108, 148], 27) := by decide +kernel
theorem dX8_applies_48 : decode cX8_applies 48 = .ok (.bipush 12, 2) := by decide +kernel
theorem dX8_applies_50 : decode cX8_applies 50 = .ok (.iload_n 1, 1) := by decide +kernel
theorem dX8_applies_51 : decode cX8_applies 51 = .ok (.imul, 1) := by decide +kernel
theorem dX8_applies_52 : decode cX8_applies 52 = .ok (.aload_n 0, 1) := by decide +kernel
theorem dX8_applies_53 : decode cX8_applies 53 = .ok (.getfield 45, 3) := by decide +kernel
theorem dX8_applies_56 : decode cX8_applies 56 = .ok (.iload_n 1, 1) := by decide +kernel
theorem dX8_applies_57 : decode cX8_applies 57 = .ok (.iaload, 1) := by decide +kernel
theorem dX8_applies_58 : decode cX8_applies 58 = .ok (.iadd, 1) := by decide +kernel
theorem dX8_applies_59 : decode cX8_applies 59 = .ok (.istore 5, 2) := by decide +kernel
theorem dX8_applies_61 : decode cX8_applies 61 = .ok (.aload_n 0, 1) := by decide +kernel
theorem dX8_applies_62 : decode cX8_applies 62 = .ok (.getfield 48, 3) := by decide +kernel
theorem dX8_applies_65 : decode cX8_applies 65 = .ok (.iload 5, 2) := by decide +kernel
theorem dX8_applies_67 : decode cX8_applies 67 = .ok (.iload_n 3, 1) := by decide +kernel
theorem dX8_applies_68 : decode cX8_applies 68 = .ok (.iastore, 1) := by decide +kernel
theorem dX8_applies_69 : decode cX8_applies 69 = .ok (.aload_n 0, 1) := by decide +kernel
theorem dX8_applies_70 : decode cX8_applies 70 = .ok (.getfield 51, 3) := by decide +kernel
theorem dX8_applies_73 : decode cX8_applies 73 = .ok (.iload 5, 2) := by decide +kernel
theorem dX8_applies_75 : decode cX8_applies 75 = .ok (.aload_n 0, 1) := by decide +kernel
theorem dX8_applies_76 : decode cX8_applies 76 = .ok (.getfield 39, 3) := by decide +kernel
theorem dX8_applies_79 : decode cX8_applies 79 = .ok (.iload_n 2, 1) := by decide +kernel
theorem dX8_applies_80 : decode cX8_applies 80 = .ok (.iaload, 1) := by decide +kernel
theorem dX8_applies_81 : decode cX8_applies 81 = .ok (.iastore, 1) := by decide +kernel
theorem dX8_applies_82 : decode cX8_applies 82 = .ok (.aload_n 0, 1) := by decide +kernel
theorem dX8_applies_83 : decode cX8_applies 83 = .ok (.getfield 54, 3) := by decide +kernel
theorem dX8_applies_86 : decode cX8_applies 86 = .ok (.iload 5, 2) := by decide +kernel
theorem dX8_applies_88 : decode cX8_applies 88 = .ok (.iconst 0, 1) := by decide +kernel
theorem dX8_applies_89 : decode cX8_applies 89 = .ok (.iastore, 1) := by decide +kernel
theorem dX8_applies_90 : decode cX8_applies 90 = .ok (.aload_n 0, 1) := by decide +kernel
theorem dX8_applies_91 : decode cX8_applies 91 = .ok (.getfield 57, 3) := by decide +kernel
theorem dX8_applies_94 : decode cX8_applies 94 = .ok (.iload 5, 2) := by decide +kernel
theorem dX8_applies_96 : decode cX8_applies 96 = .ok (.aload_n 0, 1) := by decide +kernel
theorem dX8_applies_97 : decode cX8_applies 97 = .ok (.getfield 42, 3) := by decide +kernel
theorem dX8_applies_100 : decode cX8_applies 100 = .ok (.iload_n 2, 1) := by decide +kernel
theorem dX8_applies_101 : decode cX8_applies 101 = .ok (.iaload, 1) := by decide +kernel
theorem dX8_applies_102 : decode cX8_applies 102 = .ok (.iastore, 1) := by decide +kernel
theorem dX8_applies_103 : decode cX8_applies 103 = .ok (.aload_n 0, 1) := by decide +kernel
theorem dX8_applies_104 : decode cX8_applies 104 = .ok (.getfield 45, 3) := by decide +kernel
theorem dX8_applies_107 : decode cX8_applies 107 = .ok (.iload_n 1, 1) := by decide +kernel
theorem dX8_applies_108 : decode cX8_applies 108 = .ok (.dup2, 1) := by decide +kernel
theorem dX8_applies_109 : decode cX8_applies 109 = .ok (.iaload, 1) := by decide +kernel
theorem dX8_applies_110 : decode cX8_applies 110 = .ok (.iconst 1, 1) := by decide +kernel
theorem dX8_applies_111 : decode cX8_applies 111 = .ok (.iadd, 1) := by decide +kernel
theorem dX8_applies_112 : decode cX8_applies 112 = .ok (.iastore, 1) := by decide +kernel
theorem dX8_applies_113 : decode cX8_applies 113 = .ok (.aload_n 0, 1) := by decide +kernel
theorem dX8_applies_114 : decode cX8_applies 114 = .ok (.iload_n 1, 1) := by decide +kernel
theorem dX8_applies_115 : decode cX8_applies 115 = .ok (.iload_n 3, 1) := by decide +kernel
theorem dX8_applies_116 : decode cX8_applies 116 = .ok (.aload_n 0, 1) := by decide +kernel
theorem dX8_applies_117 : decode cX8_applies 117 = .ok (.getfield 30, 3) := by decide +kernel
theorem dX8_applies_120 : decode cX8_applies 120 = .ok (.iload_n 2, 1) := by decide +kernel
theorem dX8_applies_121 : decode cX8_applies 121 = .ok (.iaload, 1) := by decide +kernel
theorem dX8_applies_122 : decode cX8_applies 122 = .ok (.iconst 0, 1) := by decide +kernel
theorem dX8_applies_123 : decode cX8_applies 123 = .ok (.invokevirtual 122, 3) := by decide +kernel
theorem dX8_applies_126 : decode cX8_applies 126 = .ok (.goto 132, 3) := by decide +kernel
theorem dX8_applies_129 : decode cX8_applies 129 = .ok (.aload_n 0, 1) := by decide +kernel
theorem dX8_applies_130 : decode cX8_applies 130 = .ok (.getfield 51, 3) := by decide +kernel
theorem dX8_applies_133 : decode cX8_applies 133 = .ok (.iload 4, 2) := by decide +kernel
theorem dX8_applies_135 : decode cX8_applies 135 = .ok (.aload_n 0, 1) := by decide +kernel
theorem dX8_applies_136 : decode cX8_applies 136 = .ok (.getfield 39, 3) := by decide +kernel
theorem dX8_applies_139 : decode cX8_applies 139 = .ok (.iload_n 2, 1) := by decide +kernel
theorem dX8_applies_140 : decode cX8_applies 140 = .ok (.iaload, 1) := by decide +kernel
theorem dX8_applies_141 : decode cX8_applies 141 = .ok (.iastore, 1) := by decide +kernel
theorem dX8_applies_142 : decode cX8_applies 142 = .ok (.aload_n 0, 1) := by decide +kernel
theorem dX8_applies_143 : decode cX8_applies 143 = .ok (.getfield 54, 3) := by decide +kernel
theorem dX8_applies_146 : decode cX8_applies 146 = .ok (.iload 4, 2) := by decide +kernel
theorem dX8_applies_148 : decode cX8_applies 148 = .ok (.dup2, 1) := by decide +kernel
theorem dX8_applies_149 : decode cX8_applies 149 = .ok (.iaload, 1) := by decide +kernel
theorem dX8_applies_150 : decode cX8_applies 150 = .ok (.iconst 1, 1) := by decide +kernel
theorem dX8_applies_151 : decode cX8_applies 151 = .ok (.iadd, 1) := by decide +kernel
theorem dX8_applies_152 : decode cX8_applies 152 = .ok (.iastore, 1) := by decide +kernel
theorem dX8_applies_153 : decode cX8_applies 153 = .ok (.aload_n 0, 1) := by decide +kernel
theorem dX8_applies_154 : decode cX8_applies 154 = .ok (.iload_n 1, 1) := by decide +kernel
theorem dX8_applies_155 : decode cX8_applies 155 = .ok (.iload_n 3, 1) := by decide +kernel
theorem dX8_applies_156 : decode cX8_applies 156 = .ok (.aload_n 0, 1) := by decide +kernel
theorem dX8_applies_157 : decode cX8_applies 157 = .ok (.getfield 30, 3) := by decide +kernel
theorem dX8_applies_160 : decode cX8_applies 160 = .ok (.iload_n 2, 1) := by decide +kernel
theorem dX8_applies_161 : decode cX8_applies 161 = .ok (.iaload, 1) := by decide +kernel
theorem dX8_applies_162 : decode cX8_applies 162 = .ok (.iconst 1, 1) := by decide +kernel
theorem dX8_applies_163 : decode cX8_applies 163 = .ok (.invokevirtual 122, 3) := by decide +kernel
theorem dX8_applies_166 : decode cX8_applies 166 = .ok (.goto 92, 3) := by decide +kernel
theorem dX8_applies_169 : decode cX8_applies 169 = .ok (.aload_n 0, 1) := by decide +kernel
theorem dX8_applies_170 : decode cX8_applies 170 = .ok (.iload_n 1, 1) := by decide +kernel
theorem dX8_applies_171 : decode cX8_applies 171 = .ok (.iload 4, 2) := by decide +kernel
theorem dX8_applies_173 : decode cX8_applies 173 = .ok (.invokevirtual 126, 3) := by decide +kernel
theorem dX8_applies_176 : decode cX8_applies 176 = .ok (.aload_n 0, 1) := by decide +kernel
theorem dX8_applies_177 : decode cX8_applies 177 = .ok (.iload_n 1, 1) := by decide +kernel
theorem dX8_applies_178 : decode cX8_applies 178 = .ok (.iload_n 3, 1) := by decide +kernel
theorem dX8_applies_179 : decode cX8_applies 179 = .ok (.aload_n 0, 1) := by decide +kernel
theorem dX8_applies_180 : decode cX8_applies 180 = .ok (.getfield 30, 3) := by decide +kernel
theorem dX8_applies_183 : decode cX8_applies 183 = .ok (.iload_n 2, 1) := by decide +kernel
theorem dX8_applies_184 : decode cX8_applies 184 = .ok (.iaload, 1) := by decide +kernel
theorem dX8_applies_185 : decode cX8_applies 185 = .ok (.iconst 2, 1) := by decide +kernel
theorem dX8_applies_186 : decode cX8_applies 186 = .ok (.invokevirtual 122, 3) := by decide +kernel
theorem dX8_applies_189 : decode cX8_applies 189 = .ok (.goto 69, 3) := by decide +kernel
theorem dX8_applies_192 : decode cX8_applies 192 = .ok (.aload_n 0, 1) := by decide +kernel
theorem dX8_applies_193 : decode cX8_applies 193 = .ok (.iload_n 1, 1) := by decide +kernel
theorem dX8_applies_194 : decode cX8_applies 194 = .ok (.aload_n 0, 1) := by decide +kernel
theorem dX8_applies_195 : decode cX8_applies 195 = .ok (.getfield 42, 3) := by decide +kernel
theorem dX8_applies_198 : decode cX8_applies 198 = .ok (.iload_n 2, 1) := by decide +kernel
theorem dX8_applies_199 : decode cX8_applies 199 = .ok (.iaload, 1) := by decide +kernel
theorem dX8_applies_200 : decode cX8_applies 200 = .ok (.invokevirtual 130, 3) := by decide +kernel
theorem dX8_applies_203 : decode cX8_applies 203 = .ok (.istore 6, 2) := by decide +kernel
theorem dX8_applies_205 : decode cX8_applies 205 = .ok (.iload 6, 2) := by decide +kernel
theorem dX8_applies_207 : decode cX8_applies 207 = .ok (.bipush (-8), 2) := by decide +kernel
theorem dX8_applies_209 : decode cX8_applies 209 = .ok (.if_icmp .eq 49, 3) := by decide +kernel
theorem dX8_applies_212 : decode cX8_applies 212 = .ok (.aload_n 0, 1) := by decide +kernel
theorem dX8_applies_213 : decode cX8_applies 213 = .ok (.getfield 48, 3) := by decide +kernel
theorem dX8_applies_216 : decode cX8_applies 216 = .ok (.iload 6, 2) := by decide +kernel
theorem dX8_applies_218 : decode cX8_applies 218 = .ok (.iaload, 1) := by decide +kernel
theorem dX8_applies_219 : decode cX8_applies 219 = .ok (.istore 7, 2) := by decide +kernel
theorem dX8_applies_221 : decode cX8_applies 221 = .ok (.aload_n 0, 1) := by decide +kernel
theorem dX8_applies_222 : decode cX8_applies 222 = .ok (.iload_n 1, 1) := by decide +kernel
theorem dX8_applies_223 : decode cX8_applies 223 = .ok (.iload 6, 2) := by decide +kernel
theorem dX8_applies_225 : decode cX8_applies 225 = .ok (.invokevirtual 126, 3) := by decide +kernel
theorem dX8_applies_228 : decode cX8_applies 228 = .ok (.aload_n 0, 1) := by decide +kernel
theorem dX8_applies_229 : decode cX8_applies 229 = .ok (.iload_n 1, 1) := by decide +kernel
theorem dX8_applies_230 : decode cX8_applies 230 = .ok (.iload 7, 2) := by decide +kernel
theorem dX8_applies_232 : decode cX8_applies 232 = .ok (.aload_n 0, 1) := by decide +kernel
theorem dX8_applies_233 : decode cX8_applies 233 = .ok (.getfield 30, 3) := by decide +kernel
theorem dX8_applies_236 : decode cX8_applies 236 = .ok (.iload_n 2, 1) := by decide +kernel
theorem dX8_applies_237 : decode cX8_applies 237 = .ok (.iaload, 1) := by decide +kernel
theorem dX8_applies_238 : decode cX8_applies 238 = .ok (.iconst 2, 1) := by decide +kernel
theorem dX8_applies_239 : decode cX8_applies 239 = .ok (.invokevirtual 122, 3) := by decide +kernel
theorem dX8_applies_242 : decode cX8_applies 242 = .ok (.aload_n 0, 1) := by decide +kernel
theorem dX8_applies_243 : decode cX8_applies 243 = .ok (.iload_n 1, 1) := by decide +kernel
theorem dX8_applies_244 : decode cX8_applies 244 = .ok (.aload_n 0, 1) := by decide +kernel
theorem dX8_applies_245 : decode cX8_applies 245 = .ok (.getfield 42, 3) := by decide +kernel
theorem dX8_applies_248 : decode cX8_applies 248 = .ok (.iload_n 2, 1) := by decide +kernel
theorem dX8_applies_249 : decode cX8_applies 249 = .ok (.iaload, 1) := by decide +kernel
theorem dX8_applies_250 : decode cX8_applies 250 = .ok (.invokevirtual 130, 3) := by decide +kernel
theorem dX8_applies_253 : decode cX8_applies 253 = .ok (.istore 6, 2) := by decide +kernel
theorem dX8_applies_255 : decode cX8_applies 255 = .ok (.goto (-50), 3) := by decide +kernel
theorem dX8_applies_258 : decode cX8_applies 258 = .ok (.return_, 1) := by decide +kernel
set_option maxRecDepth 20000 in
theorem ggX8_laysProposed_X8_applies : GoodIn wsX8_laysProposed wsX8_applies := goodIn_r _ [8, 9, 10, 1, 11, 12, 13, 14, 15, 16, 17, 18, 19, 20, 7, 21, 22, 23, 24, 25, 26, 27, 28, 29, 30, 31, 32, 33, 34, 35, 36, 37, 38, 39, 40, 41, 42, 43, 44, 45, 46, 47, 48, 49, 50, 51, 52, 53, 54, 55, 56, 57, 58, 59, 60, 61, 62, 63, 64, 65, 66, 67, 68] (by decide +kernel) (by decide +kernel)
set_option maxRecDepth 20000 in
theorem gX8_laysProposed_X8_applies : GoodIn wsX8_laysProposed (wsV RX8 133 RX8 yX8_applies wsX8_applies) := goodIn_app (goodIn_of _ (by decide +kernel)) ggX8_laysProposed_X8_applies
theorem dX8_laysProposed_0 : decode cX8_laysProposed 0 = .ok (.aload_n 0, 1) := by decide +kernel
theorem dX8_laysProposed_1 : decode cX8_laysProposed 1 = .ok (.getfield 45, 3) := by decide +kernel
theorem dX8_laysProposed_4 : decode cX8_laysProposed 4 = .ok (.iconst 5, 1) := by decide +kernel
theorem dX8_laysProposed_5 : decode cX8_laysProposed 5 = .ok (.iconst 0, 1) := by decide +kernel
theorem dX8_laysProposed_6 : decode cX8_laysProposed 6 = .ok (.iastore, 1) := by decide +kernel
theorem dX8_laysProposed_7 : decode cX8_laysProposed 7 = .ok (.iconst 0, 1) := by decide +kernel
theorem dX8_laysProposed_8 : decode cX8_laysProposed 8 = .ok (.istore_n 1, 1) := by decide +kernel
theorem dX8_laysProposed_9 : decode cX8_laysProposed 9 = .ok (.iload_n 1, 1) := by decide +kernel
theorem dX8_laysProposed_10 : decode cX8_laysProposed 10 = .ok (.aload_n 0, 1) := by decide +kernel
theorem dX8_laysProposed_11 : decode cX8_laysProposed 11 = .ok (.getfield 27, 3) := by decide +kernel
theorem dX8_laysProposed_14 : decode cX8_laysProposed 14 = .ok (.aload_n 0, 1) := by decide +kernel
theorem dX8_laysProposed_15 : decode cX8_laysProposed 15 = .ok (.getfield 82, 3) := by decide +kernel
theorem dX8_laysProposed_18 : decode cX8_laysProposed 18 = .ok (.iaload, 1) := by decide +kernel
theorem dX8_laysProposed_19 : decode cX8_laysProposed 19 = .ok (.if_icmp .ge 23, 3) := by decide +kernel
theorem dX8_laysProposed_22 : decode cX8_laysProposed 22 = .ok (.aload_n 0, 1) := by decide +kernel
theorem dX8_laysProposed_23 : decode cX8_laysProposed 23 = .ok (.iconst 5, 1) := by decide +kernel
theorem dX8_laysProposed_24 : decode cX8_laysProposed 24 = .ok (.bipush 40, 2) := by decide +kernel
theorem dX8_laysProposed_26 : decode cX8_laysProposed 26 = .ok (.aload_n 0, 1) := by decide +kernel
theorem dX8_laysProposed_27 : decode cX8_laysProposed 27 = .ok (.getfield 82, 3) := by decide +kernel
theorem dX8_laysProposed_30 : decode cX8_laysProposed 30 = .ok (.imul, 1) := by decide +kernel
theorem dX8_laysProposed_31 : decode cX8_laysProposed 31 = .ok (.iload_n 1, 1) := by decide +kernel
theorem dX8_laysProposed_32 : decode cX8_laysProposed 32 = .ok (.iadd, 1) := by decide +kernel
theorem dX8_laysProposed_33 : decode cX8_laysProposed 33 = .ok (.invokevirtual 133, 3) := by decide +kernel
theorem dX8_laysProposed_36 : decode cX8_laysProposed 36 = .ok (.iinc 1 1, 3) := by decide +kernel
theorem dX8_laysProposed_39 : decode cX8_laysProposed 39 = .ok (.goto (-30), 3) := by decide +kernel
theorem dX8_laysProposed_42 : decode cX8_laysProposed 42 = .ok (.return_, 1) := by decide +kernel
theorem dX8_lastOfLog_0 : decode cX8_lastOfLog 0 = .ok (.aload_n 0, 1) := by decide +kernel
theorem dX8_lastOfLog_1 : decode cX8_lastOfLog 1 = .ok (.getfield 27, 3) := by decide +kernel
theorem dX8_lastOfLog_4 : decode cX8_lastOfLog 4 = .ok (.iload_n 1, 1) := by decide +kernel
theorem dX8_lastOfLog_5 : decode cX8_lastOfLog 5 = .ok (.iaload, 1) := by decide +kernel
theorem dX8_lastOfLog_6 : decode cX8_lastOfLog 6 = .ok (.ifCond .ne 7, 3) := by decide +kernel
theorem dX8_lastOfLog_9 : decode cX8_lastOfLog 9 = .ok (.iconst 0, 1) := by decide +kernel
theorem dX8_lastOfLog_10 : decode cX8_lastOfLog 10 = .ok (.goto 21, 3) := by decide +kernel
theorem dX8_lastOfLog_13 : decode cX8_lastOfLog 13 = .ok (.aload_n 0, 1) := by decide +kernel
theorem dX8_lastOfLog_14 : decode cX8_lastOfLog 14 = .ok (.getfield 30, 3) := by decide +kernel
theorem dX8_lastOfLog_17 : decode cX8_lastOfLog 17 = .ok (.bipush 40, 2) := by decide +kernel
theorem dX8_lastOfLog_19 : decode cX8_lastOfLog 19 = .ok (.iload_n 1, 1) := by decide +kernel
theorem dX8_lastOfLog_20 : decode cX8_lastOfLog 20 = .ok (.imul, 1) := by decide +kernel
theorem dX8_lastOfLog_21 : decode cX8_lastOfLog 21 = .ok (.aload_n 0, 1) := by decide +kernel
theorem dX8_lastOfLog_22 : decode cX8_lastOfLog 22 = .ok (.getfield 27, 3) := by decide +kernel
theorem dX8_lastOfLog_25 : decode cX8_lastOfLog 25 = .ok (.iload_n 1, 1) := by decide +kernel
theorem dX8_lastOfLog_26 : decode cX8_lastOfLog 26 = .ok (.iaload, 1) := by decide +kernel
theorem dX8_lastOfLog_27 : decode cX8_lastOfLog 27 = .ok (.iadd, 1) := by decide +kernel
theorem dX8_lastOfLog_28 : decode cX8_lastOfLog 28 = .ok (.iconst 1, 1) := by decide +kernel
theorem dX8_lastOfLog_29 : decode cX8_lastOfLog 29 = .ok (.isub, 1) := by decide +kernel
theorem dX8_lastOfLog_30 : decode cX8_lastOfLog 30 = .ok (.iaload, 1) := by decide +kernel
theorem dX8_lastOfLog_31 : decode cX8_lastOfLog 31 = .ok (.ireturn, 1) := by decide +kernel
theorem dX8_common_0 : decode cX8_common 0 = .ok (.iconst 0, 1) := by decide +kernel
theorem dX8_common_1 : decode cX8_common 1 = .ok (.istore_n 3, 1) := by decide +kernel
theorem dX8_common_2 : decode cX8_common 2 = .ok (.iload_n 3, 1) := by decide +kernel
theorem dX8_common_3 : decode cX8_common 3 = .ok (.aload_n 0, 1) := by decide +kernel
theorem dX8_common_4 : decode cX8_common 4 = .ok (.getfield 27, 3) := by decide +kernel
theorem dX8_common_7 : decode cX8_common 7 = .ok (.iload_n 1, 1) := by decide +kernel
theorem dX8_common_8 : decode cX8_common 8 = .ok (.iaload, 1) := by decide +kernel
theorem dX8_common_9 : decode cX8_common 9 = .ok (.if_icmp .ge 44, 3) := by decide +kernel
theorem dX8_common_12 : decode cX8_common 12 = .ok (.iload_n 3, 1) := by decide +kernel
theorem dX8_common_13 : decode cX8_common 13 = .ok (.aload_n 0, 1) := by decide +kernel
theorem dX8_common_14 : decode cX8_common 14 = .ok (.getfield 27, 3) := by decide +kernel
theorem dX8_common_17 : decode cX8_common 17 = .ok (.iload_n 2, 1) := by decide +kernel
theorem dX8_common_18 : decode cX8_common 18 = .ok (.iaload, 1) := by decide +kernel
theorem dX8_common_19 : decode cX8_common 19 = .ok (.if_icmp .ge 34, 3) := by decide +kernel
theorem dX8_common_22 : decode cX8_common 22 = .ok (.aload_n 0, 1) := by decide +kernel
theorem dX8_common_23 : decode cX8_common 23 = .ok (.getfield 30, 3) := by decide +kernel
theorem dX8_common_26 : decode cX8_common 26 = .ok (.bipush 40, 2) := by decide +kernel
theorem dX8_common_28 : decode cX8_common 28 = .ok (.iload_n 1, 1) := by decide +kernel
theorem dX8_common_29 : decode cX8_common 29 = .ok (.imul, 1) := by decide +kernel
theorem dX8_common_30 : decode cX8_common 30 = .ok (.iload_n 3, 1) := by decide +kernel
theorem dX8_common_31 : decode cX8_common 31 = .ok (.iadd, 1) := by decide +kernel
theorem dX8_common_32 : decode cX8_common 32 = .ok (.iaload, 1) := by decide +kernel
theorem dX8_common_33 : decode cX8_common 33 = .ok (.aload_n 0, 1) := by decide +kernel
theorem dX8_common_34 : decode cX8_common 34 = .ok (.getfield 30, 3) := by decide +kernel
theorem dX8_common_37 : decode cX8_common 37 = .ok (.bipush 40, 2) := by decide +kernel
theorem dX8_common_39 : decode cX8_common 39 = .ok (.iload_n 2, 1) := by decide +kernel
theorem dX8_common_40 : decode cX8_common 40 = .ok (.imul, 1) := by decide +kernel
theorem dX8_common_41 : decode cX8_common 41 = .ok (.iload_n 3, 1) := by decide +kernel
theorem dX8_common_42 : decode cX8_common 42 = .ok (.iadd, 1) := by decide +kernel
theorem dX8_common_43 : decode cX8_common 43 = .ok (.iaload, 1) := by decide +kernel
theorem dX8_common_44 : decode cX8_common 44 = .ok (.if_icmp .ne 9, 3) := by decide +kernel
theorem dX8_common_47 : decode cX8_common 47 = .ok (.iinc 3 1, 3) := by decide +kernel
theorem dX8_common_50 : decode cX8_common 50 = .ok (.goto (-48), 3) := by decide +kernel
theorem dX8_common_53 : decode cX8_common 53 = .ok (.iload_n 3, 1) := by decide +kernel
theorem dX8_common_54 : decode cX8_common 54 = .ok (.ireturn, 1) := by decide +kernel
theorem dX8_takes_0 : decode cX8_takes 0 = .ok (.bipush 40, 2) := by decide +kernel
theorem dX8_takes_2 : decode cX8_takes 2 = .ok (.aload_n 0, 1) := by decide +kernel
theorem dX8_takes_3 : decode cX8_takes 3 = .ok (.getfield 82, 3) := by decide +kernel
theorem dX8_takes_6 : decode cX8_takes 6 = .ok (.imul, 1) := by decide +kernel
theorem dX8_takes_7 : decode cX8_takes 7 = .ok (.iload_n 2, 1) := by decide +kernel
theorem dX8_takes_8 : decode cX8_takes 8 = .ok (.iadd, 1) := by decide +kernel
theorem dX8_takes_9 : decode cX8_takes 9 = .ok (.istore_n 3, 1) := by decide +kernel
theorem dX8_takes_10 : decode cX8_takes 10 = .ok (.bipush 40, 2) := by decide +kernel
theorem dX8_takes_12 : decode cX8_takes 12 = .ok (.iload_n 1, 1) := by decide +kernel
theorem dX8_takes_13 : decode cX8_takes 13 = .ok (.imul, 1) := by decide +kernel
theorem dX8_takes_14 : decode cX8_takes 14 = .ok (.aload_n 0, 1) := by decide +kernel
theorem dX8_takes_15 : decode cX8_takes 15 = .ok (.getfield 27, 3) := by decide +kernel
theorem dX8_takes_18 : decode cX8_takes 18 = .ok (.iload_n 1, 1) := by decide +kernel
theorem dX8_takes_19 : decode cX8_takes 19 = .ok (.iaload, 1) := by decide +kernel
theorem dX8_takes_20 : decode cX8_takes 20 = .ok (.iadd, 1) := by decide +kernel
theorem dX8_takes_21 : decode cX8_takes 21 = .ok (.istore 4, 2) := by decide +kernel
theorem dX8_takes_23 : decode cX8_takes 23 = .ok (.aload_n 0, 1) := by decide +kernel
theorem dX8_takes_24 : decode cX8_takes 24 = .ok (.getfield 30, 3) := by decide +kernel
theorem dX8_takes_27 : decode cX8_takes 27 = .ok (.iload 4, 2) := by decide +kernel
theorem dX8_takes_29 : decode cX8_takes 29 = .ok (.aload_n 0, 1) := by decide +kernel
theorem dX8_takes_30 : decode cX8_takes 30 = .ok (.getfield 30, 3) := by decide +kernel
theorem dX8_takes_33 : decode cX8_takes 33 = .ok (.iload_n 3, 1) := by decide +kernel
theorem dX8_takes_34 : decode cX8_takes 34 = .ok (.iaload, 1) := by decide +kernel
theorem dX8_takes_35 : decode cX8_takes 35 = .ok (.iastore, 1) := by decide +kernel
theorem dX8_takes_36 : decode cX8_takes 36 = .ok (.aload_n 0, 1) := by decide +kernel
theorem dX8_takes_37 : decode cX8_takes 37 = .ok (.getfield 33, 3) := by decide +kernel
theorem dX8_takes_40 : decode cX8_takes 40 = .ok (.iload 4, 2) := by decide +kernel
theorem dX8_takes_42 : decode cX8_takes 42 = .ok (.aload_n 0, 1) := by decide +kernel
theorem dX8_takes_43 : decode cX8_takes 43 = .ok (.getfield 33, 3) := by decide +kernel
theorem dX8_takes_46 : decode cX8_takes 46 = .ok (.iload_n 3, 1) := by decide +kernel
theorem dX8_takes_47 : decode cX8_takes 47 = .ok (.iaload, 1) := by decide +kernel
theorem dX8_takes_48 : decode cX8_takes 48 = .ok (.iastore, 1) := by decide +kernel
theorem dX8_takes_49 : decode cX8_takes 49 = .ok (.aload_n 0, 1) := by decide +kernel
theorem dX8_takes_50 : decode cX8_takes 50 = .ok (.getfield 36, 3) := by decide +kernel
theorem dX8_takes_53 : decode cX8_takes 53 = .ok (.iload 4, 2) := by decide +kernel
theorem dX8_takes_55 : decode cX8_takes 55 = .ok (.aload_n 0, 1) := by decide +kernel
theorem dX8_takes_56 : decode cX8_takes 56 = .ok (.getfield 36, 3) := by decide +kernel
theorem dX8_takes_59 : decode cX8_takes 59 = .ok (.iload_n 3, 1) := by decide +kernel
theorem dX8_takes_60 : decode cX8_takes 60 = .ok (.iaload, 1) := by decide +kernel
theorem dX8_takes_61 : decode cX8_takes 61 = .ok (.iastore, 1) := by decide +kernel
theorem dX8_takes_62 : decode cX8_takes 62 = .ok (.aload_n 0, 1) := by decide +kernel
theorem dX8_takes_63 : decode cX8_takes 63 = .ok (.getfield 39, 3) := by decide +kernel
theorem dX8_takes_66 : decode cX8_takes 66 = .ok (.iload 4, 2) := by decide +kernel
theorem dX8_takes_68 : decode cX8_takes 68 = .ok (.aload_n 0, 1) := by decide +kernel
theorem dX8_takes_69 : decode cX8_takes 69 = .ok (.getfield 39, 3) := by decide +kernel
theorem dX8_takes_72 : decode cX8_takes 72 = .ok (.iload_n 3, 1) := by decide +kernel
theorem dX8_takes_73 : decode cX8_takes 73 = .ok (.iaload, 1) := by decide +kernel
theorem dX8_takes_74 : decode cX8_takes 74 = .ok (.iastore, 1) := by decide +kernel
theorem dX8_takes_75 : decode cX8_takes 75 = .ok (.aload_n 0, 1) := by decide +kernel
theorem dX8_takes_76 : decode cX8_takes 76 = .ok (.getfield 42, 3) := by decide +kernel
theorem dX8_takes_79 : decode cX8_takes 79 = .ok (.iload 4, 2) := by decide +kernel
theorem dX8_takes_81 : decode cX8_takes 81 = .ok (.aload_n 0, 1) := by decide +kernel
theorem dX8_takes_82 : decode cX8_takes 82 = .ok (.getfield 42, 3) := by decide +kernel
theorem dX8_takes_85 : decode cX8_takes 85 = .ok (.iload_n 3, 1) := by decide +kernel
theorem dX8_takes_86 : decode cX8_takes 86 = .ok (.iaload, 1) := by decide +kernel
theorem dX8_takes_87 : decode cX8_takes 87 = .ok (.iastore, 1) := by decide +kernel
theorem dX8_takes_88 : decode cX8_takes 88 = .ok (.aload_n 0, 1) := by decide +kernel
theorem dX8_takes_89 : decode cX8_takes 89 = .ok (.getfield 27, 3) := by decide +kernel
theorem dX8_takes_92 : decode cX8_takes 92 = .ok (.iload_n 1, 1) := by decide +kernel
theorem dX8_takes_93 : decode cX8_takes 93 = .ok (.dup2, 1) := by decide +kernel
theorem dX8_takes_94 : decode cX8_takes 94 = .ok (.iaload, 1) := by decide +kernel
theorem dX8_takes_95 : decode cX8_takes 95 = .ok (.iconst 1, 1) := by decide +kernel
theorem dX8_takes_96 : decode cX8_takes 96 = .ok (.iadd, 1) := by decide +kernel
theorem dX8_takes_97 : decode cX8_takes 97 = .ok (.iastore, 1) := by decide +kernel
theorem dX8_takes_98 : decode cX8_takes 98 = .ok (.return_, 1) := by decide +kernel
set_option maxRecDepth 20000 in
theorem ggX8_becomesLike_X8_common : GoodIn wsX8_becomesLike wsX8_common := goodIn_r _ [8, 2, 9, 18, 19, 20, 21, 22, 23, 24, 25, 26, 27, 28, 29, 30, 31, 32, 33, 34, 35, 36, 37, 38, 39, 40, 41, 42, 43, 44, 45, 46] (by decide +kernel) (by decide +kernel)
set_option maxRecDepth 20000 in
theorem gX8_becomesLike_X8_common : GoodIn wsX8_becomesLike (wsV RX8 136 RX8 yX8_common wsX8_common) := goodIn_app (goodIn_of _ (by decide +kernel)) ggX8_becomesLike_X8_common
set_option maxRecDepth 20000 in
theorem ggX8_becomesLike_X8_takes : GoodIn wsX8_becomesLike wsX8_takes := goodIn_r _ [13, 1, 2, 9, 14, 15, 16, 17, 18, 19, 20, 21, 22, 23, 24, 25, 26, 27, 28, 29, 30, 31, 32, 33, 34, 35, 36, 37, 38, 39, 40, 41, 42, 43, 44, 45, 46] (by decide +kernel) (by decide +kernel)
set_option maxRecDepth 20000 in
theorem gX8_becomesLike_X8_takes : GoodIn wsX8_becomesLike (wsV RX8 139 RX8 yX8_takes wsX8_takes) := goodIn_app (goodIn_of _ (by decide +kernel)) ggX8_becomesLike_X8_takes
theorem dX8_becomesLike_0 : decode cX8_becomesLike 0 = .ok (.aload_n 0, 1) := by decide +kernel
theorem dX8_becomesLike_1 : decode cX8_becomesLike 1 = .ok (.iload_n 1, 1) := by decide +kernel
theorem dX8_becomesLike_2 : decode cX8_becomesLike 2 = .ok (.aload_n 0, 1) := by decide +kernel
theorem dX8_becomesLike_3 : decode cX8_becomesLike 3 = .ok (.getfield 82, 3) := by decide +kernel
theorem dX8_becomesLike_6 : decode cX8_becomesLike 6 = .ok (.invokevirtual 136, 3) := by decide +kernel
theorem dX8_becomesLike_9 : decode cX8_becomesLike 9 = .ok (.istore_n 2, 1) := by decide +kernel
theorem dX8_becomesLike_10 : decode cX8_becomesLike 10 = .ok (.aload_n 0, 1) := by decide +kernel
theorem dX8_becomesLike_11 : decode cX8_becomesLike 11 = .ok (.getfield 27, 3) := by decide +kernel
theorem dX8_becomesLike_14 : decode cX8_becomesLike 14 = .ok (.iload_n 1, 1) := by decide +kernel
theorem dX8_becomesLike_15 : decode cX8_becomesLike 15 = .ok (.iaload, 1) := by decide +kernel
theorem dX8_becomesLike_16 : decode cX8_becomesLike 16 = .ok (.iload_n 2, 1) := by decide +kernel
theorem dX8_becomesLike_17 : decode cX8_becomesLike 17 = .ok (.isub, 1) := by decide +kernel
theorem dX8_becomesLike_18 : decode cX8_becomesLike 18 = .ok (.istore_n 3, 1) := by decide +kernel
theorem dX8_becomesLike_19 : decode cX8_becomesLike 19 = .ok (.aload_n 0, 1) := by decide +kernel
theorem dX8_becomesLike_20 : decode cX8_becomesLike 20 = .ok (.getfield 27, 3) := by decide +kernel
theorem dX8_becomesLike_23 : decode cX8_becomesLike 23 = .ok (.iload_n 1, 1) := by decide +kernel
theorem dX8_becomesLike_24 : decode cX8_becomesLike 24 = .ok (.iload_n 2, 1) := by decide +kernel
theorem dX8_becomesLike_25 : decode cX8_becomesLike 25 = .ok (.iastore, 1) := by decide +kernel
theorem dX8_becomesLike_26 : decode cX8_becomesLike 26 = .ok (.iload_n 2, 1) := by decide +kernel
theorem dX8_becomesLike_27 : decode cX8_becomesLike 27 = .ok (.istore 4, 2) := by decide +kernel
theorem dX8_becomesLike_29 : decode cX8_becomesLike 29 = .ok (.iload 4, 2) := by decide +kernel
theorem dX8_becomesLike_31 : decode cX8_becomesLike 31 = .ok (.aload_n 0, 1) := by decide +kernel
theorem dX8_becomesLike_32 : decode cX8_becomesLike 32 = .ok (.getfield 27, 3) := by decide +kernel
theorem dX8_becomesLike_35 : decode cX8_becomesLike 35 = .ok (.aload_n 0, 1) := by decide +kernel
theorem dX8_becomesLike_36 : decode cX8_becomesLike 36 = .ok (.getfield 82, 3) := by decide +kernel
theorem dX8_becomesLike_39 : decode cX8_becomesLike 39 = .ok (.iaload, 1) := by decide +kernel
theorem dX8_becomesLike_40 : decode cX8_becomesLike 40 = .ok (.if_icmp .ge 16, 3) := by decide +kernel
theorem dX8_becomesLike_43 : decode cX8_becomesLike 43 = .ok (.aload_n 0, 1) := by decide +kernel
theorem dX8_becomesLike_44 : decode cX8_becomesLike 44 = .ok (.iload_n 1, 1) := by decide +kernel
theorem dX8_becomesLike_45 : decode cX8_becomesLike 45 = .ok (.iload 4, 2) := by decide +kernel
theorem dX8_becomesLike_47 : decode cX8_becomesLike 47 = .ok (.invokevirtual 139, 3) := by decide +kernel
theorem dX8_becomesLike_50 : decode cX8_becomesLike 50 = .ok (.iinc 4 1, 3) := by decide +kernel
theorem dX8_becomesLike_53 : decode cX8_becomesLike 53 = .ok (.goto (-24), 3) := by decide +kernel
theorem dX8_becomesLike_56 : decode cX8_becomesLike 56 = .ok (.aload_n 0, 1) := by decide +kernel
theorem dX8_becomesLike_57 : decode cX8_becomesLike 57 = .ok (.getfield 17, 3) := by decide +kernel
theorem dX8_becomesLike_60 : decode cX8_becomesLike 60 = .ok (.iload_n 1, 1) := by decide +kernel
theorem dX8_becomesLike_61 : decode cX8_becomesLike 61 = .ok (.iconst 1, 1) := by decide +kernel
theorem dX8_becomesLike_62 : decode cX8_becomesLike 62 = .ok (.bastore, 1) := by decide +kernel
theorem dX8_becomesLike_63 : decode cX8_becomesLike 63 = .ok (.bipush 100, 2) := by decide +kernel
theorem dX8_becomesLike_65 : decode cX8_becomesLike 65 = .ok (.iload_n 3, 1) := by decide +kernel
theorem dX8_becomesLike_66 : decode cX8_becomesLike 66 = .ok (.imul, 1) := by decide +kernel
theorem dX8_becomesLike_67 : decode cX8_becomesLike 67 = .ok (.aload_n 0, 1) := by decide +kernel
theorem dX8_becomesLike_68 : decode cX8_becomesLike 68 = .ok (.getfield 27, 3) := by decide +kernel
theorem dX8_becomesLike_71 : decode cX8_becomesLike 71 = .ok (.aload_n 0, 1) := by decide +kernel
theorem dX8_becomesLike_72 : decode cX8_becomesLike 72 = .ok (.getfield 82, 3) := by decide +kernel
theorem dX8_becomesLike_75 : decode cX8_becomesLike 75 = .ok (.iaload, 1) := by decide +kernel
theorem dX8_becomesLike_76 : decode cX8_becomesLike 76 = .ok (.iadd, 1) := by decide +kernel
theorem dX8_becomesLike_77 : decode cX8_becomesLike 77 = .ok (.iload_n 2, 1) := by decide +kernel
theorem dX8_becomesLike_78 : decode cX8_becomesLike 78 = .ok (.isub, 1) := by decide +kernel
theorem dX8_becomesLike_79 : decode cX8_becomesLike 79 = .ok (.ireturn, 1) := by decide +kernel
set_option maxRecDepth 20000 in
theorem ggX8_goesOn_X8_applies : GoodIn wsX8_goesOn wsX8_applies := goodIn_r _ [7, 8, 9, 10, 11, 12, 13, 14, 15, 16, 17, 18, 19, 20, 6, 21, 22, 23, 24, 25, 26, 27, 28, 29, 30, 31, 32, 33, 34, 35, 36, 37, 38, 39, 40, 41, 42, 43, 44, 45, 46, 47, 48, 49, 50, 51, 52, 53, 54, 55, 56, 57, 58, 59, 60, 61, 62, 63, 64, 65, 66, 67, 68] (by decide +kernel) (by decide +kernel)
set_option maxRecDepth 20000 in
theorem gX8_goesOn_X8_applies : GoodIn wsX8_goesOn (wsV RX8 133 RX8 yX8_applies wsX8_applies) := goodIn_app (goodIn_of _ (by decide +kernel)) ggX8_goesOn_X8_applies
theorem dX8_goesOn_0 : decode cX8_goesOn 0 = .ok (.iconst 0, 1) := by decide +kernel
theorem dX8_goesOn_1 : decode cX8_goesOn 1 = .ok (.istore_n 3, 1) := by decide +kernel
theorem dX8_goesOn_2 : decode cX8_goesOn 2 = .ok (.aload_n 0, 1) := by decide +kernel
theorem dX8_goesOn_3 : decode cX8_goesOn 3 = .ok (.getfield 24, 3) := by decide +kernel
theorem dX8_goesOn_6 : decode cX8_goesOn 6 = .ok (.iload_n 1, 1) := by decide +kernel
theorem dX8_goesOn_7 : decode cX8_goesOn 7 = .ok (.iaload, 1) := by decide +kernel
theorem dX8_goesOn_8 : decode cX8_goesOn 8 = .ok (.iload_n 2, 1) := by decide +kernel
theorem dX8_goesOn_9 : decode cX8_goesOn 9 = .ok (.if_icmp .ge 50, 3) := by decide +kernel
theorem dX8_goesOn_12 : decode cX8_goesOn 12 = .ok (.aload_n 0, 1) := by decide +kernel
theorem dX8_goesOn_13 : decode cX8_goesOn 13 = .ok (.getfield 24, 3) := by decide +kernel
theorem dX8_goesOn_16 : decode cX8_goesOn 16 = .ok (.iload_n 1, 1) := by decide +kernel
theorem dX8_goesOn_17 : decode cX8_goesOn 17 = .ok (.iaload, 1) := by decide +kernel
theorem dX8_goesOn_18 : decode cX8_goesOn 18 = .ok (.aload_n 0, 1) := by decide +kernel
theorem dX8_goesOn_19 : decode cX8_goesOn 19 = .ok (.getfield 27, 3) := by decide +kernel
theorem dX8_goesOn_22 : decode cX8_goesOn 22 = .ok (.iload_n 1, 1) := by decide +kernel
theorem dX8_goesOn_23 : decode cX8_goesOn 23 = .ok (.iaload, 1) := by decide +kernel
theorem dX8_goesOn_24 : decode cX8_goesOn 24 = .ok (.if_icmp .ge 35, 3) := by decide +kernel
theorem dX8_goesOn_27 : decode cX8_goesOn 27 = .ok (.aload_n 0, 1) := by decide +kernel
theorem dX8_goesOn_28 : decode cX8_goesOn 28 = .ok (.iload_n 1, 1) := by decide +kernel
theorem dX8_goesOn_29 : decode cX8_goesOn 29 = .ok (.bipush 40, 2) := by decide +kernel
theorem dX8_goesOn_31 : decode cX8_goesOn 31 = .ok (.iload_n 1, 1) := by decide +kernel
theorem dX8_goesOn_32 : decode cX8_goesOn 32 = .ok (.imul, 1) := by decide +kernel
theorem dX8_goesOn_33 : decode cX8_goesOn 33 = .ok (.aload_n 0, 1) := by decide +kernel
theorem dX8_goesOn_34 : decode cX8_goesOn 34 = .ok (.getfield 24, 3) := by decide +kernel
theorem dX8_goesOn_37 : decode cX8_goesOn 37 = .ok (.iload_n 1, 1) := by decide +kernel
theorem dX8_goesOn_38 : decode cX8_goesOn 38 = .ok (.iaload, 1) := by decide +kernel
theorem dX8_goesOn_39 : decode cX8_goesOn 39 = .ok (.iadd, 1) := by decide +kernel
theorem dX8_goesOn_40 : decode cX8_goesOn 40 = .ok (.invokevirtual 133, 3) := by decide +kernel
theorem dX8_goesOn_43 : decode cX8_goesOn 43 = .ok (.aload_n 0, 1) := by decide +kernel
theorem dX8_goesOn_44 : decode cX8_goesOn 44 = .ok (.getfield 24, 3) := by decide +kernel
theorem dX8_goesOn_47 : decode cX8_goesOn 47 = .ok (.iload_n 1, 1) := by decide +kernel
theorem dX8_goesOn_48 : decode cX8_goesOn 48 = .ok (.dup2, 1) := by decide +kernel
theorem dX8_goesOn_49 : decode cX8_goesOn 49 = .ok (.iaload, 1) := by decide +kernel
theorem dX8_goesOn_50 : decode cX8_goesOn 50 = .ok (.iconst 1, 1) := by decide +kernel
theorem dX8_goesOn_51 : decode cX8_goesOn 51 = .ok (.iadd, 1) := by decide +kernel
theorem dX8_goesOn_52 : decode cX8_goesOn 52 = .ok (.iastore, 1) := by decide +kernel
theorem dX8_goesOn_53 : decode cX8_goesOn 53 = .ok (.iinc 3 1, 3) := by decide +kernel
theorem dX8_goesOn_56 : decode cX8_goesOn 56 = .ok (.goto (-54), 3) := by decide +kernel
theorem dX8_goesOn_59 : decode cX8_goesOn 59 = .ok (.iload_n 3, 1) := by decide +kernel
theorem dX8_goesOn_60 : decode cX8_goesOn 60 = .ok (.ireturn, 1) := by decide +kernel
theorem dX8_actives_0 : decode cX8_actives 0 = .ok (.iconst 0, 1) := by decide +kernel
theorem dX8_actives_1 : decode cX8_actives 1 = .ok (.istore_n 1, 1) := by decide +kernel
theorem dX8_actives_2 : decode cX8_actives 2 = .ok (.iconst 0, 1) := by decide +kernel
theorem dX8_actives_3 : decode cX8_actives 3 = .ok (.istore_n 2, 1) := by decide +kernel
theorem dX8_actives_4 : decode cX8_actives 4 = .ok (.iload_n 2, 1) := by decide +kernel
theorem dX8_actives_5 : decode cX8_actives 5 = .ok (.aload_n 0, 1) := by decide +kernel
theorem dX8_actives_6 : decode cX8_actives 6 = .ok (.getfield 7, 3) := by decide +kernel
theorem dX8_actives_9 : decode cX8_actives 9 = .ok (.if_icmp .ge 26, 3) := by decide +kernel
theorem dX8_actives_12 : decode cX8_actives 12 = .ok (.iload_n 1, 1) := by decide +kernel
theorem dX8_actives_13 : decode cX8_actives 13 = .ok (.aload_n 0, 1) := by decide +kernel
theorem dX8_actives_14 : decode cX8_actives 14 = .ok (.getfield 17, 3) := by decide +kernel
theorem dX8_actives_17 : decode cX8_actives 17 = .ok (.iload_n 2, 1) := by decide +kernel
theorem dX8_actives_18 : decode cX8_actives 18 = .ok (.baload, 1) := by decide +kernel
theorem dX8_actives_19 : decode cX8_actives 19 = .ok (.ifCond .eq 7, 3) := by decide +kernel
theorem dX8_actives_22 : decode cX8_actives 22 = .ok (.iconst 1, 1) := by decide +kernel
theorem dX8_actives_23 : decode cX8_actives 23 = .ok (.goto 4, 3) := by decide +kernel
theorem dX8_actives_26 : decode cX8_actives 26 = .ok (.iconst 0, 1) := by decide +kernel
theorem dX8_actives_27 : decode cX8_actives 27 = .ok (.iadd, 1) := by decide +kernel
theorem dX8_actives_28 : decode cX8_actives 28 = .ok (.istore_n 1, 1) := by decide +kernel
theorem dX8_actives_29 : decode cX8_actives 29 = .ok (.iinc 2 1, 3) := by decide +kernel
theorem dX8_actives_32 : decode cX8_actives 32 = .ok (.goto (-28), 3) := by decide +kernel
theorem dX8_actives_35 : decode cX8_actives 35 = .ok (.iload_n 1, 1) := by decide +kernel
theorem dX8_actives_36 : decode cX8_actives 36 = .ok (.ireturn, 1) := by decide +kernel
theorem dX8_ups_0 : decode cX8_ups 0 = .ok (.iconst 0, 1) := by decide +kernel
theorem dX8_ups_1 : decode cX8_ups 1 = .ok (.istore_n 1, 1) := by decide +kernel
theorem dX8_ups_2 : decode cX8_ups 2 = .ok (.iconst 0, 1) := by decide +kernel
theorem dX8_ups_3 : decode cX8_ups 3 = .ok (.istore_n 2, 1) := by decide +kernel
theorem dX8_ups_4 : decode cX8_ups 4 = .ok (.iload_n 2, 1) := by decide +kernel
theorem dX8_ups_5 : decode cX8_ups 5 = .ok (.aload_n 0, 1) := by decide +kernel
theorem dX8_ups_6 : decode cX8_ups 6 = .ok (.getfield 7, 3) := by decide +kernel
theorem dX8_ups_9 : decode cX8_ups 9 = .ok (.if_icmp .ge 26, 3) := by decide +kernel
theorem dX8_ups_12 : decode cX8_ups 12 = .ok (.iload_n 1, 1) := by decide +kernel
theorem dX8_ups_13 : decode cX8_ups 13 = .ok (.aload_n 0, 1) := by decide +kernel
theorem dX8_ups_14 : decode cX8_ups 14 = .ok (.getfield 13, 3) := by decide +kernel
theorem dX8_ups_17 : decode cX8_ups 17 = .ok (.iload_n 2, 1) := by decide +kernel
theorem dX8_ups_18 : decode cX8_ups 18 = .ok (.baload, 1) := by decide +kernel
theorem dX8_ups_19 : decode cX8_ups 19 = .ok (.ifCond .eq 7, 3) := by decide +kernel
theorem dX8_ups_22 : decode cX8_ups 22 = .ok (.iconst 1, 1) := by decide +kernel
theorem dX8_ups_23 : decode cX8_ups 23 = .ok (.goto 4, 3) := by decide +kernel
theorem dX8_ups_26 : decode cX8_ups 26 = .ok (.iconst 0, 1) := by decide +kernel
theorem dX8_ups_27 : decode cX8_ups 27 = .ok (.iadd, 1) := by decide +kernel
theorem dX8_ups_28 : decode cX8_ups 28 = .ok (.istore_n 1, 1) := by decide +kernel
theorem dX8_ups_29 : decode cX8_ups 29 = .ok (.iinc 2 1, 3) := by decide +kernel
theorem dX8_ups_32 : decode cX8_ups 32 = .ok (.goto (-28), 3) := by decide +kernel
theorem dX8_ups_35 : decode cX8_ups 35 = .ok (.iload_n 1, 1) := by decide +kernel
theorem dX8_ups_36 : decode cX8_ups 36 = .ok (.ireturn, 1) := by decide +kernel
set_option maxRecDepth 20000 in
theorem ggX8_commits_X8_quorum : GoodIn wsX8_commits wsX8_quorum := goodIn_r _ [10, 1, 52, 53, 54, 55, 56, 57, 58, 59, 60, 61, 62, 63, 64, 65, 66, 67, 68, 69, 70, 71, 72, 73, 74, 75, 76, 77, 78, 79, 80] (by decide +kernel) (by decide +kernel)
set_option maxRecDepth 20000 in
theorem gX8_commits_X8_quorum : GoodIn wsX8_commits (wsV RX8 142 RX8 yX8_quorum wsX8_quorum) := goodIn_app (goodIn_of _ (by decide +kernel)) ggX8_commits_X8_quorum
set_option maxRecDepth 20000 in
theorem ggX8_commits_X8_goesOn : GoodIn wsX8_commits wsX8_goesOn := goodIn_r _ [14, 15, 3, 16, 17, 18, 9, 19, 20, 21, 22, 23, 24, 25, 26, 27, 28, 29, 30, 31, 32, 33, 34, 35, 36, 37, 38, 39, 40, 41, 42, 43, 44, 45, 46, 47, 48, 49, 50, 51, 52, 53, 54, 55, 56, 57, 58, 59, 60, 61, 62, 63, 64, 65, 66, 67, 68, 69, 70, 71, 72, 73, 74, 75, 76, 77, 78, 79, 80] (by decide +kernel) (by decide +kernel)
set_option maxRecDepth 20000 in
theorem gX8_commits_X8_goesOn : GoodIn wsX8_commits (wsV RX8 146 RX8 yX8_goesOn wsX8_goesOn) := goodIn_app (goodIn_of _ (by decide +kernel)) ggX8_commits_X8_goesOn
theorem dX8_commits_0 : decode cX8_commits 0 = .ok (.iconst 1, 1) := by decide +kernel
theorem dX8_commits_1 : decode cX8_commits 1 = .ok (.istore_n 1, 1) := by decide +kernel
theorem dX8_commits_2 : decode cX8_commits 2 = .ok (.iload_n 1, 1) := by decide +kernel
theorem dX8_commits_3 : decode cX8_commits 3 = .ok (.ifCond .eq 86, 3) := by decide +kernel
theorem dX8_commits_6 : decode cX8_commits 6 = .ok (.iconst 0, 1) := by decide +kernel
theorem dX8_commits_7 : decode cX8_commits 7 = .ok (.istore_n 2, 1) := by decide +kernel
theorem dX8_commits_8 : decode cX8_commits 8 = .ok (.iconst 0, 1) := by decide +kernel
theorem dX8_commits_9 : decode cX8_commits 9 = .ok (.istore_n 3, 1) := by decide +kernel
theorem dX8_commits_10 : decode cX8_commits 10 = .ok (.iload_n 3, 1) := by decide +kernel
theorem dX8_commits_11 : decode cX8_commits 11 = .ok (.aload_n 0, 1) := by decide +kernel
theorem dX8_commits_12 : decode cX8_commits 12 = .ok (.getfield 7, 3) := by decide +kernel
theorem dX8_commits_15 : decode cX8_commits 15 = .ok (.if_icmp .ge 39, 3) := by decide +kernel
theorem dX8_commits_18 : decode cX8_commits 18 = .ok (.iload_n 2, 1) := by decide +kernel
theorem dX8_commits_19 : decode cX8_commits 19 = .ok (.aload_n 0, 1) := by decide +kernel
theorem dX8_commits_20 : decode cX8_commits 20 = .ok (.getfield 17, 3) := by decide +kernel
theorem dX8_commits_23 : decode cX8_commits 23 = .ok (.iload_n 3, 1) := by decide +kernel
theorem dX8_commits_24 : decode cX8_commits 24 = .ok (.baload, 1) := by decide +kernel
theorem dX8_commits_25 : decode cX8_commits 25 = .ok (.ifCond .eq 20, 3) := by decide +kernel
theorem dX8_commits_28 : decode cX8_commits 28 = .ok (.aload_n 0, 1) := by decide +kernel
theorem dX8_commits_29 : decode cX8_commits 29 = .ok (.getfield 27, 3) := by decide +kernel
theorem dX8_commits_32 : decode cX8_commits 32 = .ok (.iload_n 3, 1) := by decide +kernel
theorem dX8_commits_33 : decode cX8_commits 33 = .ok (.iaload, 1) := by decide +kernel
theorem dX8_commits_34 : decode cX8_commits 34 = .ok (.aload_n 0, 1) := by decide +kernel
theorem dX8_commits_35 : decode cX8_commits 35 = .ok (.getfield 91, 3) := by decide +kernel
theorem dX8_commits_38 : decode cX8_commits 38 = .ok (.if_icmp .le 7, 3) := by decide +kernel
theorem dX8_commits_41 : decode cX8_commits 41 = .ok (.iconst 1, 1) := by decide +kernel
theorem dX8_commits_42 : decode cX8_commits 42 = .ok (.goto 4, 3) := by decide +kernel
theorem dX8_commits_45 : decode cX8_commits 45 = .ok (.iconst 0, 1) := by decide +kernel
theorem dX8_commits_46 : decode cX8_commits 46 = .ok (.iadd, 1) := by decide +kernel
theorem dX8_commits_47 : decode cX8_commits 47 = .ok (.istore_n 2, 1) := by decide +kernel
theorem dX8_commits_48 : decode cX8_commits 48 = .ok (.iinc 3 1, 3) := by decide +kernel
theorem dX8_commits_51 : decode cX8_commits 51 = .ok (.goto (-41), 3) := by decide +kernel
theorem dX8_commits_54 : decode cX8_commits 54 = .ok (.iload_n 2, 1) := by decide +kernel
theorem dX8_commits_55 : decode cX8_commits 55 = .ok (.aload_n 0, 1) := by decide +kernel
theorem dX8_commits_56 : decode cX8_commits 56 = .ok (.invokevirtual 142, 3) := by decide +kernel
theorem dX8_commits_59 : decode cX8_commits 59 = .ok (.if_icmp .lt 7, 3) := by decide +kernel
theorem dX8_commits_62 : decode cX8_commits 62 = .ok (.iconst 1, 1) := by decide +kernel
theorem dX8_commits_63 : decode cX8_commits 63 = .ok (.goto 4, 3) := by decide +kernel
theorem dX8_commits_66 : decode cX8_commits 66 = .ok (.iconst 0, 1) := by decide +kernel
theorem dX8_commits_67 : decode cX8_commits 67 = .ok (.istore_n 1, 1) := by decide +kernel
theorem dX8_commits_68 : decode cX8_commits 68 = .ok (.aload_n 0, 1) := by decide +kernel
theorem dX8_commits_69 : decode cX8_commits 69 = .ok (.dup, 1) := by decide +kernel
theorem dX8_commits_70 : decode cX8_commits 70 = .ok (.getfield 91, 3) := by decide +kernel
theorem dX8_commits_73 : decode cX8_commits 73 = .ok (.iload_n 1, 1) := by decide +kernel
theorem dX8_commits_74 : decode cX8_commits 74 = .ok (.ifCond .eq 7, 3) := by decide +kernel
theorem dX8_commits_77 : decode cX8_commits 77 = .ok (.iconst 1, 1) := by decide +kernel
theorem dX8_commits_78 : decode cX8_commits 78 = .ok (.goto 4, 3) := by decide +kernel
theorem dX8_commits_81 : decode cX8_commits 81 = .ok (.iconst 0, 1) := by decide +kernel
theorem dX8_commits_82 : decode cX8_commits 82 = .ok (.iadd, 1) := by decide +kernel
theorem dX8_commits_83 : decode cX8_commits 83 = .ok (.putfield 91, 3) := by decide +kernel
theorem dX8_commits_86 : decode cX8_commits 86 = .ok (.goto (-84), 3) := by decide +kernel
theorem dX8_commits_89 : decode cX8_commits 89 = .ok (.aload_n 0, 1) := by decide +kernel
theorem dX8_commits_90 : decode cX8_commits 90 = .ok (.aload_n 0, 1) := by decide +kernel
theorem dX8_commits_91 : decode cX8_commits 91 = .ok (.getfield 82, 3) := by decide +kernel
theorem dX8_commits_94 : decode cX8_commits 94 = .ok (.aload_n 0, 1) := by decide +kernel
theorem dX8_commits_95 : decode cX8_commits 95 = .ok (.getfield 91, 3) := by decide +kernel
theorem dX8_commits_98 : decode cX8_commits 98 = .ok (.invokevirtual 146, 3) := by decide +kernel
theorem dX8_commits_101 : decode cX8_commits 101 = .ok (.pop, 1) := by decide +kernel
theorem dX8_commits_102 : decode cX8_commits 102 = .ok (.return_, 1) := by decide +kernel
theorem dX8_noLeader_0 : decode cX8_noLeader 0 = .ok (.aload_n 0, 1) := by decide +kernel
theorem dX8_noLeader_1 : decode cX8_noLeader 1 = .ok (.bipush (-8), 2) := by decide +kernel
theorem dX8_noLeader_3 : decode cX8_noLeader 3 = .ok (.putfield 82, 3) := by decide +kernel
theorem dX8_noLeader_6 : decode cX8_noLeader 6 = .ok (.iconst 0, 1) := by decide +kernel
theorem dX8_noLeader_7 : decode cX8_noLeader 7 = .ok (.istore_n 1, 1) := by decide +kernel
theorem dX8_noLeader_8 : decode cX8_noLeader 8 = .ok (.iload_n 1, 1) := by decide +kernel
theorem dX8_noLeader_9 : decode cX8_noLeader 9 = .ok (.iconst 5, 1) := by decide +kernel
theorem dX8_noLeader_10 : decode cX8_noLeader 10 = .ok (.if_icmp .ge 16, 3) := by decide +kernel
theorem dX8_noLeader_13 : decode cX8_noLeader 13 = .ok (.aload_n 0, 1) := by decide +kernel
theorem dX8_noLeader_14 : decode cX8_noLeader 14 = .ok (.getfield 17, 3) := by decide +kernel
theorem dX8_noLeader_17 : decode cX8_noLeader 17 = .ok (.iload_n 1, 1) := by decide +kernel
theorem dX8_noLeader_18 : decode cX8_noLeader 18 = .ok (.iconst 0, 1) := by decide +kernel
theorem dX8_noLeader_19 : decode cX8_noLeader 19 = .ok (.bastore, 1) := by decide +kernel
theorem dX8_noLeader_20 : decode cX8_noLeader 20 = .ok (.iinc 1 1, 3) := by decide +kernel
theorem dX8_noLeader_23 : decode cX8_noLeader 23 = .ok (.goto (-15), 3) := by decide +kernel
theorem dX8_noLeader_26 : decode cX8_noLeader 26 = .ok (.return_, 1) := by decide +kernel
set_option maxRecDepth 20000 in
theorem ggX8_crash_X8_isServer : GoodIn wsX8_crash wsX8_isServer := goodIn_r _ [12, 13, 14, 15, 11, 16, 33, 34, 35, 36, 37, 38, 39, 40, 41, 42, 43, 44, 45, 46, 47, 48, 49, 50, 51, 52, 53, 54, 55, 56, 57, 58, 59, 60, 61] (by decide +kernel) (by decide +kernel)
set_option maxRecDepth 20000 in
theorem gX8_crash_X8_isServer : GoodIn wsX8_crash (wsV RX8 149 RX8 yX8_isServer wsX8_isServer) := goodIn_app (goodIn_of _ (by decide +kernel)) ggX8_crash_X8_isServer
set_option maxRecDepth 20000 in
theorem ggX8_crash_X8_actives : GoodIn wsX8_crash wsX8_actives := goodIn_r _ [20, 13, 2, 33, 34, 35, 36, 37, 38, 39, 40, 41, 42, 43, 44, 45, 46, 47, 48, 49, 50, 51, 52, 53, 54, 55, 56, 57, 58, 59, 60, 61] (by decide +kernel) (by decide +kernel)
set_option maxRecDepth 20000 in
theorem gX8_crash_X8_actives : GoodIn wsX8_crash (wsV RX8 153 RX8 yX8_actives wsX8_actives) := goodIn_app (goodIn_of _ (by decide +kernel)) ggX8_crash_X8_actives
set_option maxRecDepth 20000 in
theorem ggX8_crash_X8_quorum : GoodIn wsX8_crash wsX8_quorum := goodIn_r _ [24, 13, 33, 34, 35, 36, 37, 38, 39, 40, 41, 42, 43, 44, 45, 46, 47, 48, 49, 50, 51, 52, 53, 54, 55, 56, 57, 58, 59, 60, 61] (by decide +kernel) (by decide +kernel)
set_option maxRecDepth 20000 in
theorem gX8_crash_X8_quorum : GoodIn wsX8_crash (wsV RX8 142 RX8 yX8_quorum wsX8_quorum) := goodIn_app (goodIn_of _ (by decide +kernel)) ggX8_crash_X8_quorum
set_option maxRecDepth 20000 in
theorem ggX8_crash_X8_noLeader : GoodIn wsX8_crash wsX8_noLeader := goodIn_r _ [28, 7, 2, 33, 34, 35, 36, 37, 38, 39, 40, 41, 42, 43, 44, 45, 46, 47, 48, 49, 50, 51, 52, 53, 54, 55, 56, 57, 58, 59, 60, 61] (by decide +kernel) (by decide +kernel)
set_option maxRecDepth 20000 in
theorem gX8_crash_X8_noLeader : GoodIn wsX8_crash (wsV RX8 156 RX8 yX8_noLeader wsX8_noLeader) := goodIn_app (goodIn_of _ (by decide +kernel)) ggX8_crash_X8_noLeader
set_option maxRecDepth 20000 in
theorem ggX8_crash_X8_ups : GoodIn wsX8_crash wsX8_ups := goodIn_r _ [32, 13, 1, 33, 34, 35, 36, 37, 38, 39, 40, 41, 42, 43, 44, 45, 46, 47, 48, 49, 50, 51, 52, 53, 54, 55, 56, 57, 58, 59, 60, 61] (by decide +kernel) (by decide +kernel)
set_option maxRecDepth 20000 in
theorem gX8_crash_X8_ups : GoodIn wsX8_crash (wsV RX8 159 RX8 yX8_ups wsX8_ups) := goodIn_app (goodIn_of _ (by decide +kernel)) ggX8_crash_X8_ups
theorem dX8_crash_0 : decode cX8_crash 0 = .ok (.aload_n 0, 1) := by decide +kernel
theorem dX8_crash_1 : decode cX8_crash 1 = .ok (.iload_n 1, 1) := by decide +kernel
theorem dX8_crash_2 : decode cX8_crash 2 = .ok (.invokevirtual 149, 3) := by decide +kernel
theorem dX8_crash_5 : decode cX8_crash 5 = .ok (.ifCond .ne 5, 3) := by decide +kernel
theorem dX8_crash_8 : decode cX8_crash 8 = .ok (.iconst (-1), 1) := by decide +kernel
theorem dX8_crash_9 : decode cX8_crash 9 = .ok (.ireturn, 1) := by decide +kernel
theorem dX8_crash_10 : decode cX8_crash 10 = .ok (.aload_n 0, 1) := by decide +kernel
theorem dX8_crash_11 : decode cX8_crash 11 = .ok (.getfield 13, 3) := by decide +kernel
theorem dX8_crash_14 : decode cX8_crash 14 = .ok (.iload_n 1, 1) := by decide +kernel
theorem dX8_crash_15 : decode cX8_crash 15 = .ok (.baload, 1) := by decide +kernel
theorem dX8_crash_16 : decode cX8_crash 16 = .ok (.ifCond .ne 6, 3) := by decide +kernel
theorem dX8_crash_19 : decode cX8_crash 19 = .ok (.bipush (-2), 2) := by decide +kernel
theorem dX8_crash_21 : decode cX8_crash 21 = .ok (.ireturn, 1) := by decide +kernel
theorem dX8_crash_22 : decode cX8_crash 22 = .ok (.aload_n 0, 1) := by decide +kernel
theorem dX8_crash_23 : decode cX8_crash 23 = .ok (.getfield 13, 3) := by decide +kernel
theorem dX8_crash_26 : decode cX8_crash 26 = .ok (.iload_n 1, 1) := by decide +kernel
theorem dX8_crash_27 : decode cX8_crash 27 = .ok (.iconst 0, 1) := by decide +kernel
theorem dX8_crash_28 : decode cX8_crash 28 = .ok (.bastore, 1) := by decide +kernel
theorem dX8_crash_29 : decode cX8_crash 29 = .ok (.aload_n 0, 1) := by decide +kernel
theorem dX8_crash_30 : decode cX8_crash 30 = .ok (.getfield 17, 3) := by decide +kernel
theorem dX8_crash_33 : decode cX8_crash 33 = .ok (.iload_n 1, 1) := by decide +kernel
theorem dX8_crash_34 : decode cX8_crash 34 = .ok (.iconst 0, 1) := by decide +kernel
theorem dX8_crash_35 : decode cX8_crash 35 = .ok (.bastore, 1) := by decide +kernel
theorem dX8_crash_36 : decode cX8_crash 36 = .ok (.iconst 0, 1) := by decide +kernel
theorem dX8_crash_37 : decode cX8_crash 37 = .ok (.istore_n 2, 1) := by decide +kernel
theorem dX8_crash_38 : decode cX8_crash 38 = .ok (.iconst 0, 1) := by decide +kernel
theorem dX8_crash_39 : decode cX8_crash 39 = .ok (.istore_n 3, 1) := by decide +kernel
theorem dX8_crash_40 : decode cX8_crash 40 = .ok (.iload_n 3, 1) := by decide +kernel
theorem dX8_crash_41 : decode cX8_crash 41 = .ok (.aload_n 0, 1) := by decide +kernel
theorem dX8_crash_42 : decode cX8_crash 42 = .ok (.getfield 100, 3) := by decide +kernel
theorem dX8_crash_45 : decode cX8_crash 45 = .ok (.if_icmp .ge 58, 3) := by decide +kernel
theorem dX8_crash_48 : decode cX8_crash 48 = .ok (.aload_n 0, 1) := by decide +kernel
theorem dX8_crash_49 : decode cX8_crash 49 = .ok (.getfield 69, 3) := by decide +kernel
theorem dX8_crash_52 : decode cX8_crash 52 = .ok (.iload_n 3, 1) := by decide +kernel
theorem dX8_crash_53 : decode cX8_crash 53 = .ok (.iaload, 1) := by decide +kernel
theorem dX8_crash_54 : decode cX8_crash 54 = .ok (.iload_n 1, 1) := by decide +kernel
theorem dX8_crash_55 : decode cX8_crash 55 = .ok (.if_icmp .eq 42, 3) := by decide +kernel
theorem dX8_crash_58 : decode cX8_crash 58 = .ok (.aload_n 0, 1) := by decide +kernel
theorem dX8_crash_59 : decode cX8_crash 59 = .ok (.getfield 69, 3) := by decide +kernel
theorem dX8_crash_62 : decode cX8_crash 62 = .ok (.iload_n 2, 1) := by decide +kernel
theorem dX8_crash_63 : decode cX8_crash 63 = .ok (.aload_n 0, 1) := by decide +kernel
theorem dX8_crash_64 : decode cX8_crash 64 = .ok (.getfield 69, 3) := by decide +kernel
theorem dX8_crash_67 : decode cX8_crash 67 = .ok (.iload_n 3, 1) := by decide +kernel
theorem dX8_crash_68 : decode cX8_crash 68 = .ok (.iaload, 1) := by decide +kernel
theorem dX8_crash_69 : decode cX8_crash 69 = .ok (.iastore, 1) := by decide +kernel
theorem dX8_crash_70 : decode cX8_crash 70 = .ok (.aload_n 0, 1) := by decide +kernel
theorem dX8_crash_71 : decode cX8_crash 71 = .ok (.getfield 72, 3) := by decide +kernel
theorem dX8_crash_74 : decode cX8_crash 74 = .ok (.iload_n 2, 1) := by decide +kernel
theorem dX8_crash_75 : decode cX8_crash 75 = .ok (.aload_n 0, 1) := by decide +kernel
theorem dX8_crash_76 : decode cX8_crash 76 = .ok (.getfield 72, 3) := by decide +kernel
theorem dX8_crash_79 : decode cX8_crash 79 = .ok (.iload_n 3, 1) := by decide +kernel
theorem dX8_crash_80 : decode cX8_crash 80 = .ok (.iaload, 1) := by decide +kernel
theorem dX8_crash_81 : decode cX8_crash 81 = .ok (.iastore, 1) := by decide +kernel
theorem dX8_crash_82 : decode cX8_crash 82 = .ok (.aload_n 0, 1) := by decide +kernel
theorem dX8_crash_83 : decode cX8_crash 83 = .ok (.getfield 75, 3) := by decide +kernel
theorem dX8_crash_86 : decode cX8_crash 86 = .ok (.iload_n 2, 1) := by decide +kernel
theorem dX8_crash_87 : decode cX8_crash 87 = .ok (.aload_n 0, 1) := by decide +kernel
theorem dX8_crash_88 : decode cX8_crash 88 = .ok (.getfield 75, 3) := by decide +kernel
theorem dX8_crash_91 : decode cX8_crash 91 = .ok (.iload_n 3, 1) := by decide +kernel
theorem dX8_crash_92 : decode cX8_crash 92 = .ok (.iaload, 1) := by decide +kernel
theorem dX8_crash_93 : decode cX8_crash 93 = .ok (.iastore, 1) := by decide +kernel
theorem dX8_crash_94 : decode cX8_crash 94 = .ok (.iinc 2 1, 3) := by decide +kernel
theorem dX8_crash_97 : decode cX8_crash 97 = .ok (.iinc 3 1, 3) := by decide +kernel
theorem dX8_crash_100 : decode cX8_crash 100 = .ok (.goto (-60), 3) := by decide +kernel
theorem dX8_crash_103 : decode cX8_crash 103 = .ok (.aload_n 0, 1) := by decide +kernel
theorem dX8_crash_104 : decode cX8_crash 104 = .ok (.iload_n 2, 1) := by decide +kernel
theorem dX8_crash_105 : decode cX8_crash 105 = .ok (.putfield 100, 3) := by decide +kernel
theorem dX8_crash_108 : decode cX8_crash 108 = .ok (.aload_n 0, 1) := by decide +kernel
theorem dX8_crash_109 : decode cX8_crash 109 = .ok (.getfield 82, 3) := by decide +kernel
theorem dX8_crash_112 : decode cX8_crash 112 = .ok (.iload_n 1, 1) := by decide +kernel
theorem dX8_crash_113 : decode cX8_crash 113 = .ok (.if_icmp .eq 14, 3) := by decide +kernel
theorem dX8_crash_116 : decode cX8_crash 116 = .ok (.aload_n 0, 1) := by decide +kernel
theorem dX8_crash_117 : decode cX8_crash 117 = .ok (.invokevirtual 153, 3) := by decide +kernel
theorem dX8_crash_120 : decode cX8_crash 120 = .ok (.aload_n 0, 1) := by decide +kernel
theorem dX8_crash_121 : decode cX8_crash 121 = .ok (.invokevirtual 142, 3) := by decide +kernel
theorem dX8_crash_124 : decode cX8_crash 124 = .ok (.if_icmp .ge 7, 3) := by decide +kernel
theorem dX8_crash_127 : decode cX8_crash 127 = .ok (.aload_n 0, 1) := by decide +kernel
theorem dX8_crash_128 : decode cX8_crash 128 = .ok (.invokevirtual 156, 3) := by decide +kernel
theorem dX8_crash_131 : decode cX8_crash 131 = .ok (.aload_n 0, 1) := by decide +kernel
theorem dX8_crash_132 : decode cX8_crash 132 = .ok (.invokevirtual 159, 3) := by decide +kernel
theorem dX8_crash_135 : decode cX8_crash 135 = .ok (.ireturn, 1) := by decide +kernel
set_option maxRecDepth 20000 in
theorem ggX8_restart_X8_isServer : GoodIn wsX8_restart wsX8_isServer := goodIn_r _ [6, 7, 8, 9, 5, 10, 15, 16, 17, 18, 19, 20, 21, 22, 23, 24, 25, 26, 27, 28, 29, 30, 31, 32, 33, 34, 35, 36, 37, 38, 39, 40, 41, 42, 43] (by decide +kernel) (by decide +kernel)
set_option maxRecDepth 20000 in
theorem gX8_restart_X8_isServer : GoodIn wsX8_restart (wsV RX8 149 RX8 yX8_isServer wsX8_isServer) := goodIn_app (goodIn_of _ (by decide +kernel)) ggX8_restart_X8_isServer
set_option maxRecDepth 20000 in
theorem ggX8_restart_X8_ups : GoodIn wsX8_restart wsX8_ups := goodIn_r _ [14, 7, 1, 15, 16, 17, 18, 19, 20, 21, 22, 23, 24, 25, 26, 27, 28, 29, 30, 31, 32, 33, 34, 35, 36, 37, 38, 39, 40, 41, 42, 43] (by decide +kernel) (by decide +kernel)
set_option maxRecDepth 20000 in
theorem gX8_restart_X8_ups : GoodIn wsX8_restart (wsV RX8 159 RX8 yX8_ups wsX8_ups) := goodIn_app (goodIn_of _ (by decide +kernel)) ggX8_restart_X8_ups
theorem dX8_restart_0 : decode cX8_restart 0 = .ok (.aload_n 0, 1) := by decide +kernel
theorem dX8_restart_1 : decode cX8_restart 1 = .ok (.iload_n 1, 1) := by decide +kernel
theorem dX8_restart_2 : decode cX8_restart 2 = .ok (.invokevirtual 149, 3) := by decide +kernel
theorem dX8_restart_5 : decode cX8_restart 5 = .ok (.ifCond .ne 5, 3) := by decide +kernel
theorem dX8_restart_8 : decode cX8_restart 8 = .ok (.iconst (-1), 1) := by decide +kernel
theorem dX8_restart_9 : decode cX8_restart 9 = .ok (.ireturn, 1) := by decide +kernel
theorem dX8_restart_10 : decode cX8_restart 10 = .ok (.aload_n 0, 1) := by decide +kernel
theorem dX8_restart_11 : decode cX8_restart 11 = .ok (.getfield 13, 3) := by decide +kernel
theorem dX8_restart_14 : decode cX8_restart 14 = .ok (.iload_n 1, 1) := by decide +kernel
theorem dX8_restart_15 : decode cX8_restart 15 = .ok (.baload, 1) := by decide +kernel
theorem dX8_restart_16 : decode cX8_restart 16 = .ok (.ifCond .eq 6, 3) := by decide +kernel
theorem dX8_restart_19 : decode cX8_restart 19 = .ok (.bipush (-2), 2) := by decide +kernel
theorem dX8_restart_21 : decode cX8_restart 21 = .ok (.ireturn, 1) := by decide +kernel
theorem dX8_restart_22 : decode cX8_restart 22 = .ok (.aload_n 0, 1) := by decide +kernel
theorem dX8_restart_23 : decode cX8_restart 23 = .ok (.getfield 13, 3) := by decide +kernel
theorem dX8_restart_26 : decode cX8_restart 26 = .ok (.iload_n 1, 1) := by decide +kernel
theorem dX8_restart_27 : decode cX8_restart 27 = .ok (.iconst 1, 1) := by decide +kernel
theorem dX8_restart_28 : decode cX8_restart 28 = .ok (.bastore, 1) := by decide +kernel
theorem dX8_restart_29 : decode cX8_restart 29 = .ok (.aload_n 0, 1) := by decide +kernel
theorem dX8_restart_30 : decode cX8_restart 30 = .ok (.invokevirtual 159, 3) := by decide +kernel
theorem dX8_restart_33 : decode cX8_restart 33 = .ok (.ireturn, 1) := by decide +kernel
set_option maxRecDepth 20000 in
theorem ggX8_elect_X8_ups : GoodIn wsX8_elect wsX8_ups := goodIn_r _ [14, 3, 4, 76, 77, 78, 79, 80, 81, 82, 83, 84, 85, 86, 87, 88, 89, 90, 91, 92, 93, 94, 95, 96, 97, 98, 99, 100, 101, 102, 103, 104] (by decide +kernel) (by decide +kernel)
set_option maxRecDepth 20000 in
theorem gX8_elect_X8_ups : GoodIn wsX8_elect (wsV RX8 159 RX8 yX8_ups wsX8_ups) := goodIn_app (goodIn_of _ (by decide +kernel)) ggX8_elect_X8_ups
set_option maxRecDepth 20000 in
theorem ggX8_elect_X8_quorum : GoodIn wsX8_elect wsX8_quorum := goodIn_r _ [18, 3, 76, 77, 78, 79, 80, 81, 82, 83, 84, 85, 86, 87, 88, 89, 90, 91, 92, 93, 94, 95, 96, 97, 98, 99, 100, 101, 102, 103, 104] (by decide +kernel) (by decide +kernel)
set_option maxRecDepth 20000 in
theorem gX8_elect_X8_quorum : GoodIn wsX8_elect (wsV RX8 142 RX8 yX8_quorum wsX8_quorum) := goodIn_app (goodIn_of _ (by decide +kernel)) ggX8_elect_X8_quorum
set_option maxRecDepth 20000 in
theorem ggX8_elect_X8_lastOfLog : GoodIn wsX8_elect wsX8_lastOfLog := goodIn_r _ [22, 8, 23, 76, 77, 78, 79, 80, 81, 82, 83, 84, 85, 86, 87, 88, 89, 90, 91, 92, 93, 94, 95, 96, 97, 98, 99, 100, 101, 102, 103, 104] (by decide +kernel) (by decide +kernel)
set_option maxRecDepth 20000 in
theorem gX8_elect_X8_lastOfLog : GoodIn wsX8_elect (wsV RX8 162 RX8 yX8_lastOfLog wsX8_lastOfLog) := goodIn_app (goodIn_of _ (by decide +kernel)) ggX8_elect_X8_lastOfLog
set_option maxRecDepth 20000 in
theorem ggX8_elect_X8_becomesLike : GoodIn wsX8_elect wsX8_becomesLike := goodIn_r _ [27, 1, 8, 7, 28, 29, 30, 13, 31, 23, 32, 33, 34, 35, 36, 37, 38, 39, 76, 77, 78, 79, 80, 81, 82, 83, 84, 85, 86, 87, 88, 89, 90, 91, 92, 93, 94, 95, 96, 97, 98, 99, 100, 101, 102, 103, 104] (by decide +kernel) (by decide +kernel)
set_option maxRecDepth 20000 in
theorem gX8_elect_X8_becomesLike : GoodIn wsX8_elect (wsV RX8 165 RX8 yX8_becomesLike wsX8_becomesLike) := goodIn_app (goodIn_of _ (by decide +kernel)) ggX8_elect_X8_becomesLike
set_option maxRecDepth 20000 in
theorem ggX8_elect_X8_goesOn : GoodIn wsX8_elect wsX8_goesOn := goodIn_r _ [43, 44, 8, 45, 46, 47, 13, 48, 37, 36, 49, 50, 51, 38, 52, 53, 39, 23, 54, 55, 56, 57, 58, 59, 60, 61, 62, 63, 64, 65, 66, 67, 68, 69, 70, 71, 72, 73, 74, 75, 76, 77, 78, 79, 80, 81, 82, 83, 84, 85, 86, 87, 88, 89, 90, 91, 92, 93, 94, 95, 96, 97, 98, 99, 100, 101, 102, 103, 104] (by decide +kernel) (by decide +kernel)
set_option maxRecDepth 20000 in
theorem gX8_elect_X8_goesOn : GoodIn wsX8_elect (wsV RX8 146 RX8 yX8_goesOn wsX8_goesOn) := goodIn_app (goodIn_of _ (by decide +kernel)) ggX8_elect_X8_goesOn
theorem dX8_elect_0 : decode cX8_elect 0 = .ok (.aload_n 0, 1) := by decide +kernel
theorem dX8_elect_1 : decode cX8_elect 1 = .ok (.getfield 82, 3) := by decide +kernel
theorem dX8_elect_4 : decode cX8_elect 4 = .ok (.bipush (-8), 2) := by decide +kernel
theorem dX8_elect_6 : decode cX8_elect 6 = .ok (.if_icmp .ne 14, 3) := by decide +kernel
theorem dX8_elect_9 : decode cX8_elect 9 = .ok (.aload_n 0, 1) := by decide +kernel
theorem dX8_elect_10 : decode cX8_elect 10 = .ok (.invokevirtual 159, 3) := by decide +kernel
theorem dX8_elect_13 : decode cX8_elect 13 = .ok (.aload_n 0, 1) := by decide +kernel
theorem dX8_elect_14 : decode cX8_elect 14 = .ok (.invokevirtual 142, 3) := by decide +kernel
theorem dX8_elect_17 : decode cX8_elect 17 = .ok (.if_icmp .ge 6, 3) := by decide +kernel
theorem dX8_elect_20 : decode cX8_elect 20 = .ok (.bipush (-2), 2) := by decide +kernel
theorem dX8_elect_22 : decode cX8_elect 22 = .ok (.ireturn, 1) := by decide +kernel
theorem dX8_elect_23 : decode cX8_elect 23 = .ok (.aload_n 0, 1) := by decide +kernel
theorem dX8_elect_24 : decode cX8_elect 24 = .ok (.iconst 0, 1) := by decide +kernel
theorem dX8_elect_25 : decode cX8_elect 25 = .ok (.putfield 85, 3) := by decide +kernel
theorem dX8_elect_28 : decode cX8_elect 28 = .ok (.iconst 0, 1) := by decide +kernel
theorem dX8_elect_29 : decode cX8_elect 29 = .ok (.istore_n 1, 1) := by decide +kernel
theorem dX8_elect_30 : decode cX8_elect 30 = .ok (.iload_n 1, 1) := by decide +kernel
theorem dX8_elect_31 : decode cX8_elect 31 = .ok (.aload_n 0, 1) := by decide +kernel
theorem dX8_elect_32 : decode cX8_elect 32 = .ok (.getfield 7, 3) := by decide +kernel
theorem dX8_elect_35 : decode cX8_elect 35 = .ok (.if_icmp .ge 131, 3) := by decide +kernel
theorem dX8_elect_38 : decode cX8_elect 38 = .ok (.aload_n 0, 1) := by decide +kernel
theorem dX8_elect_39 : decode cX8_elect 39 = .ok (.getfield 13, 3) := by decide +kernel
theorem dX8_elect_42 : decode cX8_elect 42 = .ok (.iload_n 1, 1) := by decide +kernel
theorem dX8_elect_43 : decode cX8_elect 43 = .ok (.baload, 1) := by decide +kernel
theorem dX8_elect_44 : decode cX8_elect 44 = .ok (.ifCond .eq 116, 3) := by decide +kernel
theorem dX8_elect_47 : decode cX8_elect 47 = .ok (.aload_n 0, 1) := by decide +kernel
theorem dX8_elect_48 : decode cX8_elect 48 = .ok (.getfield 82, 3) := by decide +kernel
theorem dX8_elect_51 : decode cX8_elect 51 = .ok (.bipush (-8), 2) := by decide +kernel
theorem dX8_elect_53 : decode cX8_elect 53 = .ok (.if_icmp .eq 55, 3) := by decide +kernel
theorem dX8_elect_56 : decode cX8_elect 56 = .ok (.aload_n 0, 1) := by decide +kernel
theorem dX8_elect_57 : decode cX8_elect 57 = .ok (.getfield 20, 3) := by decide +kernel
theorem dX8_elect_60 : decode cX8_elect 60 = .ok (.iload_n 1, 1) := by decide +kernel
theorem dX8_elect_61 : decode cX8_elect 61 = .ok (.iaload, 1) := by decide +kernel
theorem dX8_elect_62 : decode cX8_elect 62 = .ok (.aload_n 0, 1) := by decide +kernel
theorem dX8_elect_63 : decode cX8_elect 63 = .ok (.getfield 20, 3) := by decide +kernel
theorem dX8_elect_66 : decode cX8_elect 66 = .ok (.aload_n 0, 1) := by decide +kernel
theorem dX8_elect_67 : decode cX8_elect 67 = .ok (.getfield 82, 3) := by decide +kernel
theorem dX8_elect_70 : decode cX8_elect 70 = .ok (.iaload, 1) := by decide +kernel
theorem dX8_elect_71 : decode cX8_elect 71 = .ok (.if_icmp .gt 37, 3) := by decide +kernel
theorem dX8_elect_74 : decode cX8_elect 74 = .ok (.aload_n 0, 1) := by decide +kernel
theorem dX8_elect_75 : decode cX8_elect 75 = .ok (.getfield 20, 3) := by decide +kernel
theorem dX8_elect_78 : decode cX8_elect 78 = .ok (.iload_n 1, 1) := by decide +kernel
theorem dX8_elect_79 : decode cX8_elect 79 = .ok (.iaload, 1) := by decide +kernel
theorem dX8_elect_80 : decode cX8_elect 80 = .ok (.aload_n 0, 1) := by decide +kernel
theorem dX8_elect_81 : decode cX8_elect 81 = .ok (.getfield 20, 3) := by decide +kernel
theorem dX8_elect_84 : decode cX8_elect 84 = .ok (.aload_n 0, 1) := by decide +kernel
theorem dX8_elect_85 : decode cX8_elect 85 = .ok (.getfield 82, 3) := by decide +kernel
theorem dX8_elect_88 : decode cX8_elect 88 = .ok (.iaload, 1) := by decide +kernel
theorem dX8_elect_89 : decode cX8_elect 89 = .ok (.if_icmp .ne 23, 3) := by decide +kernel
theorem dX8_elect_92 : decode cX8_elect 92 = .ok (.aload_n 0, 1) := by decide +kernel
theorem dX8_elect_93 : decode cX8_elect 93 = .ok (.iload_n 1, 1) := by decide +kernel
theorem dX8_elect_94 : decode cX8_elect 94 = .ok (.invokevirtual 162, 3) := by decide +kernel
theorem dX8_elect_97 : decode cX8_elect 97 = .ok (.aload_n 0, 1) := by decide +kernel
theorem dX8_elect_98 : decode cX8_elect 98 = .ok (.aload_n 0, 1) := by decide +kernel
theorem dX8_elect_99 : decode cX8_elect 99 = .ok (.getfield 82, 3) := by decide +kernel
theorem dX8_elect_102 : decode cX8_elect 102 = .ok (.invokevirtual 162, 3) := by decide +kernel
theorem dX8_elect_105 : decode cX8_elect 105 = .ok (.if_icmp .lt 7, 3) := by decide +kernel
theorem dX8_elect_108 : decode cX8_elect 108 = .ok (.iconst 1, 1) := by decide +kernel
theorem dX8_elect_109 : decode cX8_elect 109 = .ok (.goto 4, 3) := by decide +kernel
theorem dX8_elect_112 : decode cX8_elect 112 = .ok (.iconst 0, 1) := by decide +kernel
theorem dX8_elect_113 : decode cX8_elect 113 = .ok (.istore_n 2, 1) := by decide +kernel
theorem dX8_elect_114 : decode cX8_elect 114 = .ok (.aload_n 0, 1) := by decide +kernel
theorem dX8_elect_115 : decode cX8_elect 115 = .ok (.iload_n 2, 1) := by decide +kernel
theorem dX8_elect_116 : decode cX8_elect 116 = .ok (.ifCond .eq 7, 3) := by decide +kernel
theorem dX8_elect_119 : decode cX8_elect 119 = .ok (.iload_n 1, 1) := by decide +kernel
theorem dX8_elect_120 : decode cX8_elect 120 = .ok (.goto 7, 3) := by decide +kernel
theorem dX8_elect_123 : decode cX8_elect 123 = .ok (.aload_n 0, 1) := by decide +kernel
theorem dX8_elect_124 : decode cX8_elect 124 = .ok (.getfield 82, 3) := by decide +kernel
theorem dX8_elect_127 : decode cX8_elect 127 = .ok (.putfield 82, 3) := by decide +kernel
theorem dX8_elect_130 : decode cX8_elect 130 = .ok (.aload_n 0, 1) := by decide +kernel
theorem dX8_elect_131 : decode cX8_elect 131 = .ok (.aload_n 0, 1) := by decide +kernel
theorem dX8_elect_132 : decode cX8_elect 132 = .ok (.getfield 20, 3) := by decide +kernel
theorem dX8_elect_135 : decode cX8_elect 135 = .ok (.iload_n 1, 1) := by decide +kernel
theorem dX8_elect_136 : decode cX8_elect 136 = .ok (.iaload, 1) := by decide +kernel
theorem dX8_elect_137 : decode cX8_elect 137 = .ok (.aload_n 0, 1) := by decide +kernel
theorem dX8_elect_138 : decode cX8_elect 138 = .ok (.getfield 85, 3) := by decide +kernel
theorem dX8_elect_141 : decode cX8_elect 141 = .ok (.if_icmp .le 12, 3) := by decide +kernel
theorem dX8_elect_144 : decode cX8_elect 144 = .ok (.aload_n 0, 1) := by decide +kernel
theorem dX8_elect_145 : decode cX8_elect 145 = .ok (.getfield 20, 3) := by decide +kernel
theorem dX8_elect_148 : decode cX8_elect 148 = .ok (.iload_n 1, 1) := by decide +kernel
theorem dX8_elect_149 : decode cX8_elect 149 = .ok (.iaload, 1) := by decide +kernel
theorem dX8_elect_150 : decode cX8_elect 150 = .ok (.goto 7, 3) := by decide +kernel
theorem dX8_elect_153 : decode cX8_elect 153 = .ok (.aload_n 0, 1) := by decide +kernel
theorem dX8_elect_154 : decode cX8_elect 154 = .ok (.getfield 85, 3) := by decide +kernel
theorem dX8_elect_157 : decode cX8_elect 157 = .ok (.putfield 85, 3) := by decide +kernel
theorem dX8_elect_160 : decode cX8_elect 160 = .ok (.iinc 1 1, 3) := by decide +kernel
theorem dX8_elect_163 : decode cX8_elect 163 = .ok (.goto (-133), 3) := by decide +kernel
theorem dX8_elect_166 : decode cX8_elect 166 = .ok (.aload_n 0, 1) := by decide +kernel
theorem dX8_elect_167 : decode cX8_elect 167 = .ok (.dup, 1) := by decide +kernel
theorem dX8_elect_168 : decode cX8_elect 168 = .ok (.getfield 85, 3) := by decide +kernel
theorem dX8_elect_171 : decode cX8_elect 171 = .ok (.iconst 1, 1) := by decide +kernel
theorem dX8_elect_172 : decode cX8_elect 172 = .ok (.iadd, 1) := by decide +kernel
theorem dX8_elect_173 : decode cX8_elect 173 = .ok (.putfield 85, 3) := by decide +kernel
theorem dX8_elect_176 : decode cX8_elect 176 = .ok (.aload_n 0, 1) := by decide +kernel
theorem dX8_elect_177 : decode cX8_elect 177 = .ok (.iconst 0, 1) := by decide +kernel
theorem dX8_elect_178 : decode cX8_elect 178 = .ok (.putfield 88, 3) := by decide +kernel
theorem dX8_elect_181 : decode cX8_elect 181 = .ok (.iconst 0, 1) := by decide +kernel
theorem dX8_elect_182 : decode cX8_elect 182 = .ok (.istore_n 1, 1) := by decide +kernel
theorem dX8_elect_183 : decode cX8_elect 183 = .ok (.iload_n 1, 1) := by decide +kernel
theorem dX8_elect_184 : decode cX8_elect 184 = .ok (.aload_n 0, 1) := by decide +kernel
theorem dX8_elect_185 : decode cX8_elect 185 = .ok (.getfield 7, 3) := by decide +kernel
theorem dX8_elect_188 : decode cX8_elect 188 = .ok (.if_icmp .ge 32, 3) := by decide +kernel
theorem dX8_elect_191 : decode cX8_elect 191 = .ok (.aload_n 0, 1) := by decide +kernel
theorem dX8_elect_192 : decode cX8_elect 192 = .ok (.getfield 13, 3) := by decide +kernel
theorem dX8_elect_195 : decode cX8_elect 195 = .ok (.iload_n 1, 1) := by decide +kernel
theorem dX8_elect_196 : decode cX8_elect 196 = .ok (.baload, 1) := by decide +kernel
theorem dX8_elect_197 : decode cX8_elect 197 = .ok (.ifCond .eq 17, 3) := by decide +kernel
theorem dX8_elect_200 : decode cX8_elect 200 = .ok (.iload_n 1, 1) := by decide +kernel
theorem dX8_elect_201 : decode cX8_elect 201 = .ok (.aload_n 0, 1) := by decide +kernel
theorem dX8_elect_202 : decode cX8_elect 202 = .ok (.getfield 82, 3) := by decide +kernel
theorem dX8_elect_205 : decode cX8_elect 205 = .ok (.if_icmp .eq 9, 3) := by decide +kernel
theorem dX8_elect_208 : decode cX8_elect 208 = .ok (.aload_n 0, 1) := by decide +kernel
theorem dX8_elect_209 : decode cX8_elect 209 = .ok (.iload_n 1, 1) := by decide +kernel
theorem dX8_elect_210 : decode cX8_elect 210 = .ok (.invokevirtual 165, 3) := by decide +kernel
theorem dX8_elect_213 : decode cX8_elect 213 = .ok (.pop, 1) := by decide +kernel
theorem dX8_elect_214 : decode cX8_elect 214 = .ok (.iinc 1 1, 3) := by decide +kernel
theorem dX8_elect_217 : decode cX8_elect 217 = .ok (.goto (-34), 3) := by decide +kernel
theorem dX8_elect_220 : decode cX8_elect 220 = .ok (.aload_n 0, 1) := by decide +kernel
theorem dX8_elect_221 : decode cX8_elect 221 = .ok (.getfield 17, 3) := by decide +kernel
theorem dX8_elect_224 : decode cX8_elect 224 = .ok (.aload_n 0, 1) := by decide +kernel
theorem dX8_elect_225 : decode cX8_elect 225 = .ok (.getfield 82, 3) := by decide +kernel
theorem dX8_elect_228 : decode cX8_elect 228 = .ok (.iconst 1, 1) := by decide +kernel
theorem dX8_elect_229 : decode cX8_elect 229 = .ok (.bastore, 1) := by decide +kernel
theorem dX8_elect_230 : decode cX8_elect 230 = .ok (.aload_n 0, 1) := by decide +kernel
theorem dX8_elect_231 : decode cX8_elect 231 = .ok (.aload_n 0, 1) := by decide +kernel
theorem dX8_elect_232 : decode cX8_elect 232 = .ok (.getfield 27, 3) := by decide +kernel
theorem dX8_elect_235 : decode cX8_elect 235 = .ok (.aload_n 0, 1) := by decide +kernel
theorem dX8_elect_236 : decode cX8_elect 236 = .ok (.getfield 82, 3) := by decide +kernel
theorem dX8_elect_239 : decode cX8_elect 239 = .ok (.iaload, 1) := by decide +kernel
theorem dX8_elect_240 : decode cX8_elect 240 = .ok (.putfield 91, 3) := by decide +kernel
theorem dX8_elect_243 : decode cX8_elect 243 = .ok (.iconst 0, 1) := by decide +kernel
theorem dX8_elect_244 : decode cX8_elect 244 = .ok (.istore_n 1, 1) := by decide +kernel
theorem dX8_elect_245 : decode cX8_elect 245 = .ok (.iload_n 1, 1) := by decide +kernel
theorem dX8_elect_246 : decode cX8_elect 246 = .ok (.aload_n 0, 1) := by decide +kernel
theorem dX8_elect_247 : decode cX8_elect 247 = .ok (.getfield 7, 3) := by decide +kernel
theorem dX8_elect_250 : decode cX8_elect 250 = .ok (.if_icmp .ge 28, 3) := by decide +kernel
theorem dX8_elect_253 : decode cX8_elect 253 = .ok (.aload_n 0, 1) := by decide +kernel
theorem dX8_elect_254 : decode cX8_elect 254 = .ok (.getfield 17, 3) := by decide +kernel
theorem dX8_elect_257 : decode cX8_elect 257 = .ok (.iload_n 1, 1) := by decide +kernel
theorem dX8_elect_258 : decode cX8_elect 258 = .ok (.baload, 1) := by decide +kernel
theorem dX8_elect_259 : decode cX8_elect 259 = .ok (.ifCond .eq 13, 3) := by decide +kernel
theorem dX8_elect_262 : decode cX8_elect 262 = .ok (.aload_n 0, 1) := by decide +kernel
theorem dX8_elect_263 : decode cX8_elect 263 = .ok (.getfield 20, 3) := by decide +kernel
theorem dX8_elect_266 : decode cX8_elect 266 = .ok (.iload_n 1, 1) := by decide +kernel
theorem dX8_elect_267 : decode cX8_elect 267 = .ok (.aload_n 0, 1) := by decide +kernel
theorem dX8_elect_268 : decode cX8_elect 268 = .ok (.getfield 85, 3) := by decide +kernel
theorem dX8_elect_271 : decode cX8_elect 271 = .ok (.iastore, 1) := by decide +kernel
theorem dX8_elect_272 : decode cX8_elect 272 = .ok (.iinc 1 1, 3) := by decide +kernel
theorem dX8_elect_275 : decode cX8_elect 275 = .ok (.goto (-30), 3) := by decide +kernel
theorem dX8_elect_278 : decode cX8_elect 278 = .ok (.iconst 0, 1) := by decide +kernel
theorem dX8_elect_279 : decode cX8_elect 279 = .ok (.istore_n 1, 1) := by decide +kernel
theorem dX8_elect_280 : decode cX8_elect 280 = .ok (.iload_n 1, 1) := by decide +kernel
theorem dX8_elect_281 : decode cX8_elect 281 = .ok (.aload_n 0, 1) := by decide +kernel
theorem dX8_elect_282 : decode cX8_elect 282 = .ok (.getfield 7, 3) := by decide +kernel
theorem dX8_elect_285 : decode cX8_elect 285 = .ok (.if_icmp .ge 28, 3) := by decide +kernel
theorem dX8_elect_288 : decode cX8_elect 288 = .ok (.aload_n 0, 1) := by decide +kernel
theorem dX8_elect_289 : decode cX8_elect 289 = .ok (.getfield 17, 3) := by decide +kernel
theorem dX8_elect_292 : decode cX8_elect 292 = .ok (.iload_n 1, 1) := by decide +kernel
theorem dX8_elect_293 : decode cX8_elect 293 = .ok (.baload, 1) := by decide +kernel
theorem dX8_elect_294 : decode cX8_elect 294 = .ok (.ifCond .eq 13, 3) := by decide +kernel
theorem dX8_elect_297 : decode cX8_elect 297 = .ok (.aload_n 0, 1) := by decide +kernel
theorem dX8_elect_298 : decode cX8_elect 298 = .ok (.iload_n 1, 1) := by decide +kernel
theorem dX8_elect_299 : decode cX8_elect 299 = .ok (.aload_n 0, 1) := by decide +kernel
theorem dX8_elect_300 : decode cX8_elect 300 = .ok (.getfield 91, 3) := by decide +kernel
theorem dX8_elect_303 : decode cX8_elect 303 = .ok (.invokevirtual 146, 3) := by decide +kernel
theorem dX8_elect_306 : decode cX8_elect 306 = .ok (.pop, 1) := by decide +kernel
theorem dX8_elect_307 : decode cX8_elect 307 = .ok (.iinc 1 1, 3) := by decide +kernel
theorem dX8_elect_310 : decode cX8_elect 310 = .ok (.goto (-30), 3) := by decide +kernel
theorem dX8_elect_313 : decode cX8_elect 313 = .ok (.aload_n 0, 1) := by decide +kernel
theorem dX8_elect_314 : decode cX8_elect 314 = .ok (.getfield 82, 3) := by decide +kernel
theorem dX8_elect_317 : decode cX8_elect 317 = .ok (.ireturn, 1) := by decide +kernel
set_option maxRecDepth 20000 in
theorem ggX8_synchronize_X8_isServer : GoodIn wsX8_synchronize wsX8_isServer := goodIn_r _ [11, 12, 13, 14, 10, 15, 78, 79, 80, 81, 82, 83, 84, 85, 86, 87, 88, 89, 90, 91, 92, 93, 94, 95, 96, 97, 98, 99, 100, 101, 102, 103, 104, 105, 106] (by decide +kernel) (by decide +kernel)
set_option maxRecDepth 20000 in
theorem gX8_synchronize_X8_isServer : GoodIn wsX8_synchronize (wsV RX8 149 RX8 yX8_isServer wsX8_isServer) := goodIn_app (goodIn_of _ (by decide +kernel)) ggX8_synchronize_X8_isServer
set_option maxRecDepth 20000 in
theorem ggX8_synchronize_X8_becomesLike : GoodIn wsX8_synchronize wsX8_becomesLike := goodIn_r _ [19, 1, 20, 3, 21, 22, 23, 10, 24, 25, 26, 27, 28, 29, 30, 31, 32, 33, 78, 79, 80, 81, 82, 83, 84, 85, 86, 87, 88, 89, 90, 91, 92, 93, 94, 95, 96, 97, 98, 99, 100, 101, 102, 103, 104, 105, 106] (by decide +kernel) (by decide +kernel)
set_option maxRecDepth 20000 in
theorem gX8_synchronize_X8_becomesLike : GoodIn wsX8_synchronize (wsV RX8 165 RX8 yX8_becomesLike wsX8_becomesLike) := goodIn_app (goodIn_of _ (by decide +kernel)) ggX8_synchronize_X8_becomesLike
set_option maxRecDepth 20000 in
theorem ggX8_synchronize_X8_commits : GoodIn wsX8_synchronize wsX8_commits := goodIn_r _ [37, 12, 3, 20, 6, 1, 38, 39, 40, 10, 41, 42, 43, 44, 45, 46, 47, 48, 49, 50, 31, 30, 51, 52, 53, 32, 54, 55, 33, 25, 56, 57, 58, 59, 60, 61, 62, 63, 64, 65, 66, 67, 68, 69, 70, 71, 72, 73, 74, 75, 76, 77, 78, 79, 80, 81, 82, 83, 84, 85, 86, 87, 88, 89, 90, 91, 92, 93, 94, 95, 96, 97, 98, 99, 100, 101, 102, 103, 104, 105, 106] (by decide +kernel) (by decide +kernel)
set_option maxRecDepth 20000 in
theorem gX8_synchronize_X8_commits : GoodIn wsX8_synchronize (wsV RX8 168 RX8 yX8_commits wsX8_commits) := goodIn_app (goodIn_of _ (by decide +kernel)) ggX8_synchronize_X8_commits
set_option maxRecDepth 20000 in
theorem ggX8_synchronize_X8_goesOn : GoodIn wsX8_synchronize wsX8_goesOn := goodIn_r _ [45, 46, 20, 47, 48, 49, 10, 50, 31, 30, 51, 52, 53, 32, 54, 55, 33, 25, 56, 57, 58, 59, 60, 61, 62, 63, 64, 65, 66, 67, 68, 69, 70, 71, 72, 73, 74, 75, 76, 77, 78, 79, 80, 81, 82, 83, 84, 85, 86, 87, 88, 89, 90, 91, 92, 93, 94, 95, 96, 97, 98, 99, 100, 101, 102, 103, 104, 105, 106] (by decide +kernel) (by decide +kernel)
set_option maxRecDepth 20000 in
theorem gX8_synchronize_X8_goesOn : GoodIn wsX8_synchronize (wsV RX8 146 RX8 yX8_goesOn wsX8_goesOn) := goodIn_app (goodIn_of _ (by decide +kernel)) ggX8_synchronize_X8_goesOn
theorem dX8_synchronize_0 : decode cX8_synchronize 0 = .ok (.aload_n 0, 1) := by decide +kernel
theorem dX8_synchronize_1 : decode cX8_synchronize 1 = .ok (.iload_n 1, 1) := by decide +kernel
theorem dX8_synchronize_2 : decode cX8_synchronize 2 = .ok (.invokevirtual 149, 3) := by decide +kernel
theorem dX8_synchronize_5 : decode cX8_synchronize 5 = .ok (.ifCond .ne 5, 3) := by decide +kernel
theorem dX8_synchronize_8 : decode cX8_synchronize 8 = .ok (.iconst (-1), 1) := by decide +kernel
theorem dX8_synchronize_9 : decode cX8_synchronize 9 = .ok (.ireturn, 1) := by decide +kernel
theorem dX8_synchronize_10 : decode cX8_synchronize 10 = .ok (.aload_n 0, 1) := by decide +kernel
theorem dX8_synchronize_11 : decode cX8_synchronize 11 = .ok (.getfield 82, 3) := by decide +kernel
theorem dX8_synchronize_14 : decode cX8_synchronize 14 = .ok (.bipush (-8), 2) := by decide +kernel
theorem dX8_synchronize_16 : decode cX8_synchronize 16 = .ok (.if_icmp .eq 21, 3) := by decide +kernel
theorem dX8_synchronize_19 : decode cX8_synchronize 19 = .ok (.aload_n 0, 1) := by decide +kernel
theorem dX8_synchronize_20 : decode cX8_synchronize 20 = .ok (.getfield 13, 3) := by decide +kernel
theorem dX8_synchronize_23 : decode cX8_synchronize 23 = .ok (.iload_n 1, 1) := by decide +kernel
theorem dX8_synchronize_24 : decode cX8_synchronize 24 = .ok (.baload, 1) := by decide +kernel
theorem dX8_synchronize_25 : decode cX8_synchronize 25 = .ok (.ifCond .eq 12, 3) := by decide +kernel
theorem dX8_synchronize_28 : decode cX8_synchronize 28 = .ok (.aload_n 0, 1) := by decide +kernel
theorem dX8_synchronize_29 : decode cX8_synchronize 29 = .ok (.getfield 17, 3) := by decide +kernel
theorem dX8_synchronize_32 : decode cX8_synchronize 32 = .ok (.iload_n 1, 1) := by decide +kernel
theorem dX8_synchronize_33 : decode cX8_synchronize 33 = .ok (.baload, 1) := by decide +kernel
theorem dX8_synchronize_34 : decode cX8_synchronize 34 = .ok (.ifCond .eq 6, 3) := by decide +kernel
theorem dX8_synchronize_37 : decode cX8_synchronize 37 = .ok (.bipush (-2), 2) := by decide +kernel
theorem dX8_synchronize_39 : decode cX8_synchronize 39 = .ok (.ireturn, 1) := by decide +kernel
theorem dX8_synchronize_40 : decode cX8_synchronize 40 = .ok (.aload_n 0, 1) := by decide +kernel
theorem dX8_synchronize_41 : decode cX8_synchronize 41 = .ok (.iload_n 1, 1) := by decide +kernel
theorem dX8_synchronize_42 : decode cX8_synchronize 42 = .ok (.invokevirtual 165, 3) := by decide +kernel
theorem dX8_synchronize_45 : decode cX8_synchronize 45 = .ok (.istore_n 2, 1) := by decide +kernel
theorem dX8_synchronize_46 : decode cX8_synchronize 46 = .ok (.aload_n 0, 1) := by decide +kernel
theorem dX8_synchronize_47 : decode cX8_synchronize 47 = .ok (.getfield 20, 3) := by decide +kernel
theorem dX8_synchronize_50 : decode cX8_synchronize 50 = .ok (.iload_n 1, 1) := by decide +kernel
theorem dX8_synchronize_51 : decode cX8_synchronize 51 = .ok (.aload_n 0, 1) := by decide +kernel
theorem dX8_synchronize_52 : decode cX8_synchronize 52 = .ok (.getfield 85, 3) := by decide +kernel
theorem dX8_synchronize_55 : decode cX8_synchronize 55 = .ok (.iastore, 1) := by decide +kernel
theorem dX8_synchronize_56 : decode cX8_synchronize 56 = .ok (.aload_n 0, 1) := by decide +kernel
theorem dX8_synchronize_57 : decode cX8_synchronize 57 = .ok (.invokevirtual 168, 3) := by decide +kernel
theorem dX8_synchronize_60 : decode cX8_synchronize 60 = .ok (.aload_n 0, 1) := by decide +kernel
theorem dX8_synchronize_61 : decode cX8_synchronize 61 = .ok (.iload_n 1, 1) := by decide +kernel
theorem dX8_synchronize_62 : decode cX8_synchronize 62 = .ok (.aload_n 0, 1) := by decide +kernel
theorem dX8_synchronize_63 : decode cX8_synchronize 63 = .ok (.getfield 91, 3) := by decide +kernel
theorem dX8_synchronize_66 : decode cX8_synchronize 66 = .ok (.invokevirtual 146, 3) := by decide +kernel
theorem dX8_synchronize_69 : decode cX8_synchronize 69 = .ok (.pop, 1) := by decide +kernel
theorem dX8_synchronize_70 : decode cX8_synchronize 70 = .ok (.iload_n 2, 1) := by decide +kernel
theorem dX8_synchronize_71 : decode cX8_synchronize 71 = .ok (.ireturn, 1) := by decide +kernel
theorem dX8_isFollower_0 : decode cX8_isFollower 0 = .ok (.aload_n 0, 1) := by decide +kernel
theorem dX8_isFollower_1 : decode cX8_isFollower 1 = .ok (.getfield 17, 3) := by decide +kernel
theorem dX8_isFollower_4 : decode cX8_isFollower 4 = .ok (.iload_n 1, 1) := by decide +kernel
theorem dX8_isFollower_5 : decode cX8_isFollower 5 = .ok (.baload, 1) := by decide +kernel
theorem dX8_isFollower_6 : decode cX8_isFollower 6 = .ok (.ifCond .eq 15, 3) := by decide +kernel
theorem dX8_isFollower_9 : decode cX8_isFollower 9 = .ok (.iload_n 1, 1) := by decide +kernel
theorem dX8_isFollower_10 : decode cX8_isFollower 10 = .ok (.aload_n 0, 1) := by decide +kernel
theorem dX8_isFollower_11 : decode cX8_isFollower 11 = .ok (.getfield 82, 3) := by decide +kernel
theorem dX8_isFollower_14 : decode cX8_isFollower 14 = .ok (.if_icmp .eq 7, 3) := by decide +kernel
theorem dX8_isFollower_17 : decode cX8_isFollower 17 = .ok (.iconst 1, 1) := by decide +kernel
theorem dX8_isFollower_18 : decode cX8_isFollower 18 = .ok (.goto 4, 3) := by decide +kernel
theorem dX8_isFollower_21 : decode cX8_isFollower 21 = .ok (.iconst 0, 1) := by decide +kernel
theorem dX8_isFollower_22 : decode cX8_isFollower 22 = .ok (.ireturn, 1) := by decide +kernel
set_option maxRecDepth 20000 in
theorem ggX8_accept_X8_isServer : GoodIn wsX8_accept wsX8_isServer := goodIn_r _ [7, 8, 9, 10, 6, 11, 75, 76, 77, 78, 79, 80, 81, 82, 83, 84, 85, 86, 87, 88, 89, 90, 91, 92, 93, 94, 95, 96, 97, 98, 99, 100, 101, 102, 103] (by decide +kernel) (by decide +kernel)
set_option maxRecDepth 20000 in
theorem gX8_accept_X8_isServer : GoodIn wsX8_accept (wsV RX8 149 RX8 yX8_isServer wsX8_isServer) := goodIn_app (goodIn_of _ (by decide +kernel)) ggX8_accept_X8_isServer
set_option maxRecDepth 20000 in
theorem ggX8_accept_X8_isFollower : GoodIn wsX8_accept wsX8_isFollower := goodIn_r _ [15, 16, 2, 75, 76, 77, 78, 79, 80, 81, 82, 83, 84, 85, 86, 87, 88, 89, 90, 91, 92, 93, 94, 95, 96, 97, 98, 99, 100, 101, 102, 103] (by decide +kernel) (by decide +kernel)
set_option maxRecDepth 20000 in
theorem gX8_accept_X8_isFollower : GoodIn wsX8_accept (wsV RX8 171 RX8 yX8_isFollower wsX8_isFollower) := goodIn_app (goodIn_of _ (by decide +kernel)) ggX8_accept_X8_isFollower
set_option maxRecDepth 20000 in
theorem ggX8_accept_X8_takes : GoodIn wsX8_accept wsX8_takes := goodIn_r _ [20, 2, 1, 21, 22, 23, 24, 25, 75, 76, 77, 78, 79, 80, 81, 82, 83, 84, 85, 86, 87, 88, 89, 90, 91, 92, 93, 94, 95, 96, 97, 98, 99, 100, 101, 102, 103] (by decide +kernel) (by decide +kernel)
set_option maxRecDepth 20000 in
theorem gX8_accept_X8_takes : GoodIn wsX8_accept (wsV RX8 139 RX8 yX8_takes wsX8_takes) := goodIn_app (goodIn_of _ (by decide +kernel)) ggX8_accept_X8_takes
set_option maxRecDepth 20000 in
theorem ggX8_accept_X8_commits : GoodIn wsX8_accept wsX8_commits := goodIn_r _ [29, 8, 16, 1, 30, 2, 31, 32, 33, 6, 34, 35, 36, 37, 38, 39, 40, 41, 42, 43, 23, 22, 44, 45, 46, 24, 47, 48, 25, 21, 49, 50, 51, 52, 53, 54, 55, 56, 57, 58, 59, 60, 61, 62, 63, 64, 65, 66, 67, 68, 69, 70, 75, 76, 77, 78, 79, 80, 81, 82, 83, 84, 85, 86, 87, 88, 89, 90, 91, 92, 93, 94, 95, 96, 97, 98, 99, 100, 101, 102, 103] (by decide +kernel) (by decide +kernel)
set_option maxRecDepth 20000 in
theorem gX8_accept_X8_commits : GoodIn wsX8_accept (wsV RX8 168 RX8 yX8_commits wsX8_commits) := goodIn_app (goodIn_of _ (by decide +kernel)) ggX8_accept_X8_commits
set_option maxRecDepth 20000 in
theorem ggX8_accept_X8_lastOfLog : GoodIn wsX8_accept wsX8_lastOfLog := goodIn_r _ [74, 1, 21, 75, 76, 77, 78, 79, 80, 81, 82, 83, 84, 85, 86, 87, 88, 89, 90, 91, 92, 93, 94, 95, 96, 97, 98, 99, 100, 101, 102, 103] (by decide +kernel) (by decide +kernel)
set_option maxRecDepth 20000 in
theorem gX8_accept_X8_lastOfLog : GoodIn wsX8_accept (wsV RX8 162 RX8 yX8_lastOfLog wsX8_lastOfLog) := goodIn_app (goodIn_of _ (by decide +kernel)) ggX8_accept_X8_lastOfLog
theorem dX8_accept_0 : decode cX8_accept 0 = .ok (.aload_n 0, 1) := by decide +kernel
theorem dX8_accept_1 : decode cX8_accept 1 = .ok (.iload_n 1, 1) := by decide +kernel
theorem dX8_accept_2 : decode cX8_accept 2 = .ok (.invokevirtual 149, 3) := by decide +kernel
theorem dX8_accept_5 : decode cX8_accept 5 = .ok (.ifCond .ne 5, 3) := by decide +kernel
theorem dX8_accept_8 : decode cX8_accept 8 = .ok (.iconst (-1), 1) := by decide +kernel
theorem dX8_accept_9 : decode cX8_accept 9 = .ok (.ireturn, 1) := by decide +kernel
theorem dX8_accept_10 : decode cX8_accept 10 = .ok (.aload_n 0, 1) := by decide +kernel
theorem dX8_accept_11 : decode cX8_accept 11 = .ok (.iload_n 1, 1) := by decide +kernel
theorem dX8_accept_12 : decode cX8_accept 12 = .ok (.invokevirtual 171, 3) := by decide +kernel
theorem dX8_accept_15 : decode cX8_accept 15 = .ok (.ifCond .eq 21, 3) := by decide +kernel
theorem dX8_accept_18 : decode cX8_accept 18 = .ok (.aload_n 0, 1) := by decide +kernel
theorem dX8_accept_19 : decode cX8_accept 19 = .ok (.getfield 27, 3) := by decide +kernel
theorem dX8_accept_22 : decode cX8_accept 22 = .ok (.iload_n 1, 1) := by decide +kernel
theorem dX8_accept_23 : decode cX8_accept 23 = .ok (.iaload, 1) := by decide +kernel
theorem dX8_accept_24 : decode cX8_accept 24 = .ok (.aload_n 0, 1) := by decide +kernel
theorem dX8_accept_25 : decode cX8_accept 25 = .ok (.getfield 27, 3) := by decide +kernel
theorem dX8_accept_28 : decode cX8_accept 28 = .ok (.aload_n 0, 1) := by decide +kernel
theorem dX8_accept_29 : decode cX8_accept 29 = .ok (.getfield 82, 3) := by decide +kernel
theorem dX8_accept_32 : decode cX8_accept 32 = .ok (.iaload, 1) := by decide +kernel
theorem dX8_accept_33 : decode cX8_accept 33 = .ok (.if_icmp .ne 6, 3) := by decide +kernel
theorem dX8_accept_36 : decode cX8_accept 36 = .ok (.bipush (-2), 2) := by decide +kernel
theorem dX8_accept_38 : decode cX8_accept 38 = .ok (.ireturn, 1) := by decide +kernel
theorem dX8_accept_39 : decode cX8_accept 39 = .ok (.aload_n 0, 1) := by decide +kernel
theorem dX8_accept_40 : decode cX8_accept 40 = .ok (.iload_n 1, 1) := by decide +kernel
theorem dX8_accept_41 : decode cX8_accept 41 = .ok (.aload_n 0, 1) := by decide +kernel
theorem dX8_accept_42 : decode cX8_accept 42 = .ok (.getfield 27, 3) := by decide +kernel
theorem dX8_accept_45 : decode cX8_accept 45 = .ok (.iload_n 1, 1) := by decide +kernel
theorem dX8_accept_46 : decode cX8_accept 46 = .ok (.iaload, 1) := by decide +kernel
theorem dX8_accept_47 : decode cX8_accept 47 = .ok (.invokevirtual 139, 3) := by decide +kernel
theorem dX8_accept_50 : decode cX8_accept 50 = .ok (.aload_n 0, 1) := by decide +kernel
theorem dX8_accept_51 : decode cX8_accept 51 = .ok (.invokevirtual 168, 3) := by decide +kernel
theorem dX8_accept_54 : decode cX8_accept 54 = .ok (.aload_n 0, 1) := by decide +kernel
theorem dX8_accept_55 : decode cX8_accept 55 = .ok (.iload_n 1, 1) := by decide +kernel
theorem dX8_accept_56 : decode cX8_accept 56 = .ok (.invokevirtual 162, 3) := by decide +kernel
theorem dX8_accept_59 : decode cX8_accept 59 = .ok (.ireturn, 1) := by decide +kernel
set_option maxRecDepth 20000 in
theorem ggX8_heartbeat_X8_isServer : GoodIn wsX8_heartbeat wsX8_isServer := goodIn_r _ [6, 7, 8, 9, 5, 10, 59, 60, 61, 62, 63, 64, 65, 66, 67, 68, 69, 70, 71, 72, 73, 74, 75, 76, 77, 78, 79, 80, 81, 82, 83, 84, 85, 86, 87] (by decide +kernel) (by decide +kernel)
set_option maxRecDepth 20000 in
theorem gX8_heartbeat_X8_isServer : GoodIn wsX8_heartbeat (wsV RX8 149 RX8 yX8_isServer wsX8_isServer) := goodIn_app (goodIn_of _ (by decide +kernel)) ggX8_heartbeat_X8_isServer
set_option maxRecDepth 20000 in
theorem ggX8_heartbeat_X8_isFollower : GoodIn wsX8_heartbeat wsX8_isFollower := goodIn_r _ [14, 15, 16, 59, 60, 61, 62, 63, 64, 65, 66, 67, 68, 69, 70, 71, 72, 73, 74, 75, 76, 77, 78, 79, 80, 81, 82, 83, 84, 85, 86, 87] (by decide +kernel) (by decide +kernel)
set_option maxRecDepth 20000 in
theorem gX8_heartbeat_X8_isFollower : GoodIn wsX8_heartbeat (wsV RX8 171 RX8 yX8_isFollower wsX8_isFollower) := goodIn_app (goodIn_of _ (by decide +kernel)) ggX8_heartbeat_X8_isFollower
set_option maxRecDepth 20000 in
theorem ggX8_heartbeat_X8_goesOn : GoodIn wsX8_heartbeat wsX8_goesOn := goodIn_r _ [20, 21, 22, 23, 24, 25, 5, 26, 27, 28, 29, 30, 31, 32, 33, 34, 35, 36, 37, 38, 39, 40, 41, 42, 43, 44, 45, 46, 47, 48, 49, 50, 51, 52, 53, 54, 55, 56, 57, 58, 59, 60, 61, 62, 63, 64, 65, 66, 67, 68, 69, 70, 71, 72, 73, 74, 75, 76, 77, 78, 79, 80, 81, 82, 83, 84, 85, 86, 87] (by decide +kernel) (by decide +kernel)
set_option maxRecDepth 20000 in
theorem gX8_heartbeat_X8_goesOn : GoodIn wsX8_heartbeat (wsV RX8 146 RX8 yX8_goesOn wsX8_goesOn) := goodIn_app (goodIn_of _ (by decide +kernel)) ggX8_heartbeat_X8_goesOn
theorem dX8_heartbeat_0 : decode cX8_heartbeat 0 = .ok (.aload_n 0, 1) := by decide +kernel
theorem dX8_heartbeat_1 : decode cX8_heartbeat 1 = .ok (.iload_n 1, 1) := by decide +kernel
theorem dX8_heartbeat_2 : decode cX8_heartbeat 2 = .ok (.invokevirtual 149, 3) := by decide +kernel
theorem dX8_heartbeat_5 : decode cX8_heartbeat 5 = .ok (.ifCond .ne 5, 3) := by decide +kernel
theorem dX8_heartbeat_8 : decode cX8_heartbeat 8 = .ok (.iconst (-1), 1) := by decide +kernel
theorem dX8_heartbeat_9 : decode cX8_heartbeat 9 = .ok (.ireturn, 1) := by decide +kernel
theorem dX8_heartbeat_10 : decode cX8_heartbeat 10 = .ok (.aload_n 0, 1) := by decide +kernel
theorem dX8_heartbeat_11 : decode cX8_heartbeat 11 = .ok (.iload_n 1, 1) := by decide +kernel
theorem dX8_heartbeat_12 : decode cX8_heartbeat 12 = .ok (.invokevirtual 171, 3) := by decide +kernel
theorem dX8_heartbeat_15 : decode cX8_heartbeat 15 = .ok (.ifCond .eq 15, 3) := by decide +kernel
theorem dX8_heartbeat_18 : decode cX8_heartbeat 18 = .ok (.aload_n 0, 1) := by decide +kernel
theorem dX8_heartbeat_19 : decode cX8_heartbeat 19 = .ok (.iload_n 1, 1) := by decide +kernel
theorem dX8_heartbeat_20 : decode cX8_heartbeat 20 = .ok (.aload_n 0, 1) := by decide +kernel
theorem dX8_heartbeat_21 : decode cX8_heartbeat 21 = .ok (.getfield 91, 3) := by decide +kernel
theorem dX8_heartbeat_24 : decode cX8_heartbeat 24 = .ok (.invokevirtual 146, 3) := by decide +kernel
theorem dX8_heartbeat_27 : decode cX8_heartbeat 27 = .ok (.goto 5, 3) := by decide +kernel
theorem dX8_heartbeat_30 : decode cX8_heartbeat 30 = .ok (.bipush (-2), 2) := by decide +kernel
theorem dX8_heartbeat_32 : decode cX8_heartbeat 32 = .ok (.ireturn, 1) := by decide +kernel
theorem dX8_leader_0 : decode cX8_leader 0 = .ok (.aload_n 0, 1) := by decide +kernel
theorem dX8_leader_1 : decode cX8_leader 1 = .ok (.getfield 82, 3) := by decide +kernel
theorem dX8_leader_4 : decode cX8_leader 4 = .ok (.bipush (-8), 2) := by decide +kernel
theorem dX8_leader_6 : decode cX8_leader 6 = .ok (.if_icmp .ne 8, 3) := by decide +kernel
theorem dX8_leader_9 : decode cX8_leader 9 = .ok (.bipush (-3), 2) := by decide +kernel
theorem dX8_leader_11 : decode cX8_leader 11 = .ok (.goto 7, 3) := by decide +kernel
theorem dX8_leader_14 : decode cX8_leader 14 = .ok (.aload_n 0, 1) := by decide +kernel
theorem dX8_leader_15 : decode cX8_leader 15 = .ok (.getfield 82, 3) := by decide +kernel
theorem dX8_leader_18 : decode cX8_leader 18 = .ok (.ireturn, 1) := by decide +kernel
set_option maxRecDepth 20000 in
theorem ggX8_lastIdentifier_X8_isServer : GoodIn wsX8_lastIdentifier wsX8_isServer := goodIn_r _ [5, 6, 7, 8, 4, 9, 16, 17, 18, 19, 20, 21, 22, 23, 24, 25, 26, 27, 28, 29, 30, 31, 32, 33, 34, 35, 36, 37, 38, 39, 40, 41, 42, 43, 44] (by decide +kernel) (by decide +kernel)
set_option maxRecDepth 20000 in
theorem gX8_lastIdentifier_X8_isServer : GoodIn wsX8_lastIdentifier (wsV RX8 149 RX8 yX8_isServer wsX8_isServer) := goodIn_app (goodIn_of _ (by decide +kernel)) ggX8_lastIdentifier_X8_isServer
set_option maxRecDepth 20000 in
theorem ggX8_lastIdentifier_X8_lastOfLog : GoodIn wsX8_lastIdentifier wsX8_lastOfLog := goodIn_r _ [13, 14, 15, 16, 17, 18, 19, 20, 21, 22, 23, 24, 25, 26, 27, 28, 29, 30, 31, 32, 33, 34, 35, 36, 37, 38, 39, 40, 41, 42, 43, 44] (by decide +kernel) (by decide +kernel)
set_option maxRecDepth 20000 in
theorem gX8_lastIdentifier_X8_lastOfLog : GoodIn wsX8_lastIdentifier (wsV RX8 162 RX8 yX8_lastOfLog wsX8_lastOfLog) := goodIn_app (goodIn_of _ (by decide +kernel)) ggX8_lastIdentifier_X8_lastOfLog
theorem dX8_lastIdentifier_0 : decode cX8_lastIdentifier 0 = .ok (.aload_n 0, 1) := by decide +kernel
theorem dX8_lastIdentifier_1 : decode cX8_lastIdentifier 1 = .ok (.iload_n 1, 1) := by decide +kernel
theorem dX8_lastIdentifier_2 : decode cX8_lastIdentifier 2 = .ok (.invokevirtual 149, 3) := by decide +kernel
theorem dX8_lastIdentifier_5 : decode cX8_lastIdentifier 5 = .ok (.ifCond .eq 11, 3) := by decide +kernel
theorem dX8_lastIdentifier_8 : decode cX8_lastIdentifier 8 = .ok (.aload_n 0, 1) := by decide +kernel
theorem dX8_lastIdentifier_9 : decode cX8_lastIdentifier 9 = .ok (.iload_n 1, 1) := by decide +kernel
theorem dX8_lastIdentifier_10 : decode cX8_lastIdentifier 10 = .ok (.invokevirtual 162, 3) := by decide +kernel
theorem dX8_lastIdentifier_13 : decode cX8_lastIdentifier 13 = .ok (.goto 4, 3) := by decide +kernel
theorem dX8_lastIdentifier_16 : decode cX8_lastIdentifier 16 = .ok (.iconst (-1), 1) := by decide +kernel
theorem dX8_lastIdentifier_17 : decode cX8_lastIdentifier 17 = .ok (.ireturn, 1) := by decide +kernel
set_option maxRecDepth 20000 in
theorem ggX8_appliedCount_X8_isServer : GoodIn wsX8_appliedCount wsX8_isServer := goodIn_r _ [6, 7, 8, 9, 5, 10, 11, 12, 13, 14, 15, 16, 17, 18, 19, 20, 21, 22, 23, 24, 25, 26, 27, 28, 29, 30, 31, 32, 33, 34, 35, 36, 37, 38, 39] (by decide +kernel) (by decide +kernel)
set_option maxRecDepth 20000 in
theorem gX8_appliedCount_X8_isServer : GoodIn wsX8_appliedCount (wsV RX8 149 RX8 yX8_isServer wsX8_isServer) := goodIn_app (goodIn_of _ (by decide +kernel)) ggX8_appliedCount_X8_isServer
theorem dX8_appliedCount_0 : decode cX8_appliedCount 0 = .ok (.aload_n 0, 1) := by decide +kernel
theorem dX8_appliedCount_1 : decode cX8_appliedCount 1 = .ok (.iload_n 1, 1) := by decide +kernel
theorem dX8_appliedCount_2 : decode cX8_appliedCount 2 = .ok (.invokevirtual 149, 3) := by decide +kernel
theorem dX8_appliedCount_5 : decode cX8_appliedCount 5 = .ok (.ifCond .eq 12, 3) := by decide +kernel
theorem dX8_appliedCount_8 : decode cX8_appliedCount 8 = .ok (.aload_n 0, 1) := by decide +kernel
theorem dX8_appliedCount_9 : decode cX8_appliedCount 9 = .ok (.getfield 24, 3) := by decide +kernel
theorem dX8_appliedCount_12 : decode cX8_appliedCount 12 = .ok (.iload_n 1, 1) := by decide +kernel
theorem dX8_appliedCount_13 : decode cX8_appliedCount 13 = .ok (.iaload, 1) := by decide +kernel
theorem dX8_appliedCount_14 : decode cX8_appliedCount 14 = .ok (.goto 4, 3) := by decide +kernel
theorem dX8_appliedCount_17 : decode cX8_appliedCount 17 = .ok (.iconst (-1), 1) := by decide +kernel
theorem dX8_appliedCount_18 : decode cX8_appliedCount 18 = .ok (.ireturn, 1) := by decide +kernel
theorem dX8_committedCount_0 : decode cX8_committedCount 0 = .ok (.aload_n 0, 1) := by decide +kernel
theorem dX8_committedCount_1 : decode cX8_committedCount 1 = .ok (.getfield 82, 3) := by decide +kernel
theorem dX8_committedCount_4 : decode cX8_committedCount 4 = .ok (.bipush (-8), 2) := by decide +kernel
theorem dX8_committedCount_6 : decode cX8_committedCount 6 = .ok (.if_icmp .ne 8, 3) := by decide +kernel
theorem dX8_committedCount_9 : decode cX8_committedCount 9 = .ok (.bipush (-2), 2) := by decide +kernel
theorem dX8_committedCount_11 : decode cX8_committedCount 11 = .ok (.goto 7, 3) := by decide +kernel
theorem dX8_committedCount_14 : decode cX8_committedCount 14 = .ok (.aload_n 0, 1) := by decide +kernel
theorem dX8_committedCount_15 : decode cX8_committedCount 15 = .ok (.getfield 91, 3) := by decide +kernel
theorem dX8_committedCount_18 : decode cX8_committedCount 18 = .ok (.ireturn, 1) := by decide +kernel
set_option maxRecDepth 20000 in
theorem ggX8_acceptedEpoch_X8_isServer : GoodIn wsX8_acceptedEpoch wsX8_isServer := goodIn_r _ [6, 7, 8, 9, 5, 10, 11, 12, 13, 14, 15, 16, 17, 18, 19, 20, 21, 22, 23, 24, 25, 26, 27, 28, 29, 30, 31, 32, 33, 34, 35, 36, 37, 38, 39] (by decide +kernel) (by decide +kernel)
set_option maxRecDepth 20000 in
theorem gX8_acceptedEpoch_X8_isServer : GoodIn wsX8_acceptedEpoch (wsV RX8 149 RX8 yX8_isServer wsX8_isServer) := goodIn_app (goodIn_of _ (by decide +kernel)) ggX8_acceptedEpoch_X8_isServer
theorem dX8_acceptedEpoch_0 : decode cX8_acceptedEpoch 0 = .ok (.aload_n 0, 1) := by decide +kernel
theorem dX8_acceptedEpoch_1 : decode cX8_acceptedEpoch 1 = .ok (.iload_n 1, 1) := by decide +kernel
theorem dX8_acceptedEpoch_2 : decode cX8_acceptedEpoch 2 = .ok (.invokevirtual 149, 3) := by decide +kernel
theorem dX8_acceptedEpoch_5 : decode cX8_acceptedEpoch 5 = .ok (.ifCond .eq 12, 3) := by decide +kernel
theorem dX8_acceptedEpoch_8 : decode cX8_acceptedEpoch 8 = .ok (.aload_n 0, 1) := by decide +kernel
theorem dX8_acceptedEpoch_9 : decode cX8_acceptedEpoch 9 = .ok (.getfield 20, 3) := by decide +kernel
theorem dX8_acceptedEpoch_12 : decode cX8_acceptedEpoch 12 = .ok (.iload_n 1, 1) := by decide +kernel
theorem dX8_acceptedEpoch_13 : decode cX8_acceptedEpoch 13 = .ok (.iaload, 1) := by decide +kernel
theorem dX8_acceptedEpoch_14 : decode cX8_acceptedEpoch 14 = .ok (.goto 4, 3) := by decide +kernel
theorem dX8_acceptedEpoch_17 : decode cX8_acceptedEpoch 17 = .ok (.iconst (-1), 1) := by decide +kernel
theorem dX8_acceptedEpoch_18 : decode cX8_acceptedEpoch 18 = .ok (.ireturn, 1) := by decide +kernel
theorem dX8_proposes_0 : decode cX8_proposes 0 = .ok (.aload_n 0, 1) := by decide +kernel
theorem dX8_proposes_1 : decode cX8_proposes 1 = .ok (.getfield 27, 3) := by decide +kernel
theorem dX8_proposes_4 : decode cX8_proposes 4 = .ok (.aload_n 0, 1) := by decide +kernel
theorem dX8_proposes_5 : decode cX8_proposes 5 = .ok (.getfield 82, 3) := by decide +kernel
theorem dX8_proposes_8 : decode cX8_proposes 8 = .ok (.iaload, 1) := by decide +kernel
theorem dX8_proposes_9 : decode cX8_proposes 9 = .ok (.bipush 40, 2) := by decide +kernel
theorem dX8_proposes_11 : decode cX8_proposes 11 = .ok (.if_icmp .ne 6, 3) := by decide +kernel
theorem dX8_proposes_14 : decode cX8_proposes 14 = .ok (.bipush (-7), 2) := by decide +kernel
theorem dX8_proposes_16 : decode cX8_proposes 16 = .ok (.ireturn, 1) := by decide +kernel
theorem dX8_proposes_17 : decode cX8_proposes 17 = .ok (.aload_n 0, 1) := by decide +kernel
theorem dX8_proposes_18 : decode cX8_proposes 18 = .ok (.dup, 1) := by decide +kernel
theorem dX8_proposes_19 : decode cX8_proposes 19 = .ok (.getfield 88, 3) := by decide +kernel
theorem dX8_proposes_22 : decode cX8_proposes 22 = .ok (.iconst 1, 1) := by decide +kernel
theorem dX8_proposes_23 : decode cX8_proposes 23 = .ok (.iadd, 1) := by decide +kernel
theorem dX8_proposes_24 : decode cX8_proposes 24 = .ok (.putfield 88, 3) := by decide +kernel
theorem dX8_proposes_27 : decode cX8_proposes 27 = .ok (.bipush 40, 2) := by decide +kernel
theorem dX8_proposes_29 : decode cX8_proposes 29 = .ok (.aload_n 0, 1) := by decide +kernel
theorem dX8_proposes_30 : decode cX8_proposes 30 = .ok (.getfield 82, 3) := by decide +kernel
theorem dX8_proposes_33 : decode cX8_proposes 33 = .ok (.imul, 1) := by decide +kernel
theorem dX8_proposes_34 : decode cX8_proposes 34 = .ok (.aload_n 0, 1) := by decide +kernel
theorem dX8_proposes_35 : decode cX8_proposes 35 = .ok (.getfield 27, 3) := by decide +kernel
theorem dX8_proposes_38 : decode cX8_proposes 38 = .ok (.aload_n 0, 1) := by decide +kernel
theorem dX8_proposes_39 : decode cX8_proposes 39 = .ok (.getfield 82, 3) := by decide +kernel
theorem dX8_proposes_42 : decode cX8_proposes 42 = .ok (.iaload, 1) := by decide +kernel
theorem dX8_proposes_43 : decode cX8_proposes 43 = .ok (.iadd, 1) := by decide +kernel
theorem dX8_proposes_44 : decode cX8_proposes 44 = .ok (.istore 5, 2) := by decide +kernel
theorem dX8_proposes_46 : decode cX8_proposes 46 = .ok (.aload_n 0, 1) := by decide +kernel
theorem dX8_proposes_47 : decode cX8_proposes 47 = .ok (.getfield 30, 3) := by decide +kernel
theorem dX8_proposes_50 : decode cX8_proposes 50 = .ok (.iload 5, 2) := by decide +kernel
theorem dX8_proposes_52 : decode cX8_proposes 52 = .ok (.sipush 1000, 3) := by decide +kernel
theorem dX8_proposes_55 : decode cX8_proposes 55 = .ok (.aload_n 0, 1) := by decide +kernel
theorem dX8_proposes_56 : decode cX8_proposes 56 = .ok (.getfield 85, 3) := by decide +kernel
theorem dX8_proposes_59 : decode cX8_proposes 59 = .ok (.imul, 1) := by decide +kernel
theorem dX8_proposes_60 : decode cX8_proposes 60 = .ok (.aload_n 0, 1) := by decide +kernel
theorem dX8_proposes_61 : decode cX8_proposes 61 = .ok (.getfield 88, 3) := by decide +kernel
theorem dX8_proposes_64 : decode cX8_proposes 64 = .ok (.iadd, 1) := by decide +kernel
theorem dX8_proposes_65 : decode cX8_proposes 65 = .ok (.iastore, 1) := by decide +kernel
theorem dX8_proposes_66 : decode cX8_proposes 66 = .ok (.aload_n 0, 1) := by decide +kernel
theorem dX8_proposes_67 : decode cX8_proposes 67 = .ok (.getfield 33, 3) := by decide +kernel
theorem dX8_proposes_70 : decode cX8_proposes 70 = .ok (.iload 5, 2) := by decide +kernel
theorem dX8_proposes_72 : decode cX8_proposes 72 = .ok (.iload_n 1, 1) := by decide +kernel
theorem dX8_proposes_73 : decode cX8_proposes 73 = .ok (.iastore, 1) := by decide +kernel
theorem dX8_proposes_74 : decode cX8_proposes 74 = .ok (.aload_n 0, 1) := by decide +kernel
theorem dX8_proposes_75 : decode cX8_proposes 75 = .ok (.getfield 36, 3) := by decide +kernel
theorem dX8_proposes_78 : decode cX8_proposes 78 = .ok (.iload 5, 2) := by decide +kernel
theorem dX8_proposes_80 : decode cX8_proposes 80 = .ok (.iload_n 2, 1) := by decide +kernel
theorem dX8_proposes_81 : decode cX8_proposes 81 = .ok (.iastore, 1) := by decide +kernel
theorem dX8_proposes_82 : decode cX8_proposes 82 = .ok (.aload_n 0, 1) := by decide +kernel
theorem dX8_proposes_83 : decode cX8_proposes 83 = .ok (.getfield 39, 3) := by decide +kernel
theorem dX8_proposes_86 : decode cX8_proposes 86 = .ok (.iload 5, 2) := by decide +kernel
theorem dX8_proposes_88 : decode cX8_proposes 88 = .ok (.iload_n 3, 1) := by decide +kernel
theorem dX8_proposes_89 : decode cX8_proposes 89 = .ok (.iastore, 1) := by decide +kernel
theorem dX8_proposes_90 : decode cX8_proposes 90 = .ok (.aload_n 0, 1) := by decide +kernel
theorem dX8_proposes_91 : decode cX8_proposes 91 = .ok (.getfield 42, 3) := by decide +kernel
theorem dX8_proposes_94 : decode cX8_proposes 94 = .ok (.iload 5, 2) := by decide +kernel
theorem dX8_proposes_96 : decode cX8_proposes 96 = .ok (.iload 4, 2) := by decide +kernel
theorem dX8_proposes_98 : decode cX8_proposes 98 = .ok (.iastore, 1) := by decide +kernel
theorem dX8_proposes_99 : decode cX8_proposes 99 = .ok (.aload_n 0, 1) := by decide +kernel
theorem dX8_proposes_100 : decode cX8_proposes 100 = .ok (.getfield 27, 3) := by decide +kernel
theorem dX8_proposes_103 : decode cX8_proposes 103 = .ok (.aload_n 0, 1) := by decide +kernel
theorem dX8_proposes_104 : decode cX8_proposes 104 = .ok (.getfield 82, 3) := by decide +kernel
theorem dX8_proposes_107 : decode cX8_proposes 107 = .ok (.dup2, 1) := by decide +kernel
theorem dX8_proposes_108 : decode cX8_proposes 108 = .ok (.iaload, 1) := by decide +kernel
theorem dX8_proposes_109 : decode cX8_proposes 109 = .ok (.iconst 1, 1) := by decide +kernel
theorem dX8_proposes_110 : decode cX8_proposes 110 = .ok (.iadd, 1) := by decide +kernel
theorem dX8_proposes_111 : decode cX8_proposes 111 = .ok (.iastore, 1) := by decide +kernel
theorem dX8_proposes_112 : decode cX8_proposes 112 = .ok (.aload_n 0, 1) := by decide +kernel
theorem dX8_proposes_113 : decode cX8_proposes 113 = .ok (.getfield 30, 3) := by decide +kernel
theorem dX8_proposes_116 : decode cX8_proposes 116 = .ok (.iload 5, 2) := by decide +kernel
theorem dX8_proposes_118 : decode cX8_proposes 118 = .ok (.iaload, 1) := by decide +kernel
theorem dX8_proposes_119 : decode cX8_proposes 119 = .ok (.ireturn, 1) := by decide +kernel
theorem dX8_isClosed_0 : decode cX8_isClosed 0 = .ok (.iconst 0, 1) := by decide +kernel
theorem dX8_isClosed_1 : decode cX8_isClosed 1 = .ok (.istore_n 2, 1) := by decide +kernel
theorem dX8_isClosed_2 : decode cX8_isClosed 2 = .ok (.iload_n 2, 1) := by decide +kernel
theorem dX8_isClosed_3 : decode cX8_isClosed 3 = .ok (.aload_n 0, 1) := by decide +kernel
theorem dX8_isClosed_4 : decode cX8_isClosed 4 = .ok (.getfield 27, 3) := by decide +kernel
theorem dX8_isClosed_7 : decode cX8_isClosed 7 = .ok (.aload_n 0, 1) := by decide +kernel
theorem dX8_isClosed_8 : decode cX8_isClosed 8 = .ok (.getfield 82, 3) := by decide +kernel
theorem dX8_isClosed_11 : decode cX8_isClosed 11 = .ok (.iaload, 1) := by decide +kernel
theorem dX8_isClosed_12 : decode cX8_isClosed 12 = .ok (.if_icmp .ge 47, 3) := by decide +kernel
theorem dX8_isClosed_15 : decode cX8_isClosed 15 = .ok (.aload_n 0, 1) := by decide +kernel
theorem dX8_isClosed_16 : decode cX8_isClosed 16 = .ok (.getfield 33, 3) := by decide +kernel
theorem dX8_isClosed_19 : decode cX8_isClosed 19 = .ok (.bipush 40, 2) := by decide +kernel
theorem dX8_isClosed_21 : decode cX8_isClosed 21 = .ok (.aload_n 0, 1) := by decide +kernel
theorem dX8_isClosed_22 : decode cX8_isClosed 22 = .ok (.getfield 82, 3) := by decide +kernel
theorem dX8_isClosed_25 : decode cX8_isClosed 25 = .ok (.imul, 1) := by decide +kernel
theorem dX8_isClosed_26 : decode cX8_isClosed 26 = .ok (.iload_n 2, 1) := by decide +kernel
theorem dX8_isClosed_27 : decode cX8_isClosed 27 = .ok (.iadd, 1) := by decide +kernel
theorem dX8_isClosed_28 : decode cX8_isClosed 28 = .ok (.iaload, 1) := by decide +kernel
theorem dX8_isClosed_29 : decode cX8_isClosed 29 = .ok (.iconst 3, 1) := by decide +kernel
theorem dX8_isClosed_30 : decode cX8_isClosed 30 = .ok (.if_icmp .ne 23, 3) := by decide +kernel
theorem dX8_isClosed_33 : decode cX8_isClosed 33 = .ok (.aload_n 0, 1) := by decide +kernel
theorem dX8_isClosed_34 : decode cX8_isClosed 34 = .ok (.getfield 42, 3) := by decide +kernel
theorem dX8_isClosed_37 : decode cX8_isClosed 37 = .ok (.bipush 40, 2) := by decide +kernel
theorem dX8_isClosed_39 : decode cX8_isClosed 39 = .ok (.aload_n 0, 1) := by decide +kernel
theorem dX8_isClosed_40 : decode cX8_isClosed 40 = .ok (.getfield 82, 3) := by decide +kernel
theorem dX8_isClosed_43 : decode cX8_isClosed 43 = .ok (.imul, 1) := by decide +kernel
theorem dX8_isClosed_44 : decode cX8_isClosed 44 = .ok (.iload_n 2, 1) := by decide +kernel
theorem dX8_isClosed_45 : decode cX8_isClosed 45 = .ok (.iadd, 1) := by decide +kernel
theorem dX8_isClosed_46 : decode cX8_isClosed 46 = .ok (.iaload, 1) := by decide +kernel
theorem dX8_isClosed_47 : decode cX8_isClosed 47 = .ok (.iload_n 1, 1) := by decide +kernel
theorem dX8_isClosed_48 : decode cX8_isClosed 48 = .ok (.if_icmp .ne 5, 3) := by decide +kernel
theorem dX8_isClosed_51 : decode cX8_isClosed 51 = .ok (.iconst 1, 1) := by decide +kernel
theorem dX8_isClosed_52 : decode cX8_isClosed 52 = .ok (.ireturn, 1) := by decide +kernel
theorem dX8_isClosed_53 : decode cX8_isClosed 53 = .ok (.iinc 2 1, 3) := by decide +kernel
theorem dX8_isClosed_56 : decode cX8_isClosed 56 = .ok (.goto (-54), 3) := by decide +kernel
theorem dX8_isClosed_59 : decode cX8_isClosed 59 = .ok (.iconst 0, 1) := by decide +kernel
theorem dX8_isClosed_60 : decode cX8_isClosed 60 = .ok (.ireturn, 1) := by decide +kernel
set_option maxRecDepth 20000 in
theorem ggX8_create_X8_in : GoodIn wsX8_create wsX8_in := goodIn_r _ [8] (by decide +kernel) (by decide +kernel)
set_option maxRecDepth 20000 in
theorem gX8_create_X8_in : GoodIn wsX8_create (va_wsS RX8 103 yX8_in wsX8_in) := goodIn_app (goodIn_of _ (by decide +kernel)) ggX8_create_X8_in
set_option maxRecDepth 20000 in
theorem ggX8_create_X8_isSession : GoodIn wsX8_create wsX8_isSession := goodIn_r _ [12, 13, 5, 6, 7, 8, 75, 76, 77, 78, 79, 80, 81, 82, 83, 84, 85, 86, 87, 88, 89, 90, 91, 92, 93, 94, 95, 96, 97, 98, 99, 100, 101, 102, 103] (by decide +kernel) (by decide +kernel)
set_option maxRecDepth 20000 in
theorem gX8_create_X8_isSession : GoodIn wsX8_create (wsV RX8 176 RX8 yX8_isSession wsX8_isSession) := goodIn_app (goodIn_of _ (by decide +kernel)) ggX8_create_X8_isSession
set_option maxRecDepth 20000 in
theorem ggX8_create_X8_isClosed : GoodIn wsX8_create wsX8_isClosed := goodIn_r _ [17, 18, 2, 19, 20, 75, 76, 77, 78, 79, 80, 81, 82, 83, 84, 85, 86, 87, 88, 89, 90, 91, 92, 93, 94, 95, 96, 97, 98, 99, 100, 101, 102, 103] (by decide +kernel) (by decide +kernel)
set_option maxRecDepth 20000 in
theorem gX8_create_X8_isClosed : GoodIn wsX8_create (wsV RX8 179 RX8 yX8_isClosed wsX8_isClosed) := goodIn_app (goodIn_of _ (by decide +kernel)) ggX8_create_X8_isClosed
set_option maxRecDepth 20000 in
theorem ggX8_create_X8_laysProposed : GoodIn wsX8_create wsX8_laysProposed := goodIn_r _ [24, 4, 18, 2, 25, 26, 27, 7, 28, 29, 19, 30, 31, 32, 33, 3, 20, 34, 35, 36, 37, 38, 39, 40, 41, 42, 43, 44, 45, 46, 47, 48, 49, 50, 51, 52, 53, 54, 55, 56, 75, 76, 77, 78, 79, 80, 81, 82, 83, 84, 85, 86, 87, 88, 89, 90, 91, 92, 93, 94, 95, 96, 97, 98, 99, 100, 101, 102, 103] (by decide +kernel) (by decide +kernel)
set_option maxRecDepth 20000 in
theorem gX8_create_X8_laysProposed : GoodIn wsX8_create (wsV RX8 182 RX8 yX8_laysProposed wsX8_laysProposed) := goodIn_app (goodIn_of _ (by decide +kernel)) ggX8_create_X8_laysProposed
set_option maxRecDepth 20000 in
theorem ggX8_create_X8_path : GoodIn wsX8_create wsX8_path := goodIn_r _ [60, 61, 62, 75, 76, 77, 78, 79, 80, 81, 82, 83, 84, 85, 86, 87, 88, 89, 90, 91, 92, 93, 94, 95, 96, 97, 98, 99, 100, 101, 102, 103] (by decide +kernel) (by decide +kernel)
set_option maxRecDepth 20000 in
theorem gX8_create_X8_path : GoodIn wsX8_create (wsV RX8 185 RX8 yX8_path wsX8_path) := goodIn_app (goodIn_of _ (by decide +kernel)) ggX8_create_X8_path
set_option maxRecDepth 20000 in
theorem ggX8_create_X8_find : GoodIn wsX8_create wsX8_find := goodIn_r _ [38, 4, 30, 75, 76, 77, 78, 79, 80, 81, 82, 83, 84, 85, 86, 87, 88, 89, 90, 91, 92, 93, 94, 95, 96, 97, 98, 99, 100, 101, 102, 103] (by decide +kernel) (by decide +kernel)
set_option maxRecDepth 20000 in
theorem gX8_create_X8_find : GoodIn wsX8_create (wsV RX8 118 RX8 yX8_find wsX8_find) := goodIn_app (goodIn_of _ (by decide +kernel)) ggX8_create_X8_find
set_option maxRecDepth 20000 in
theorem ggX8_create_X8_parentOf : GoodIn wsX8_create wsX8_parentOf := goodIn_r _ [65, 66, 67, 7, 68] (by decide +kernel) (by decide +kernel)
set_option maxRecDepth 20000 in
theorem gX8_create_X8_parentOf : GoodIn wsX8_create (va_wsS RX8 115 yX8_parentOf wsX8_parentOf) := goodIn_app (goodIn_of _ (by decide +kernel)) ggX8_create_X8_parentOf
set_option maxRecDepth 20000 in
theorem ggX8_create_X8_proposes : GoodIn wsX8_create wsX8_proposes := goodIn_r _ [72, 18, 2, 73, 34, 74, 19, 29, 32, 20, 75, 76, 77, 78, 79, 80, 81, 82, 83, 84, 85, 86, 87, 88, 89, 90, 91, 92, 93, 94, 95, 96, 97, 98, 99, 100, 101, 102, 103] (by decide +kernel) (by decide +kernel)
set_option maxRecDepth 20000 in
theorem gX8_create_X8_proposes : GoodIn wsX8_create (wsV RX8 188 RX8 yX8_proposes wsX8_proposes) := goodIn_app (goodIn_of _ (by decide +kernel)) ggX8_create_X8_proposes
theorem dX8_create_0 : decode cX8_create 0 = .ok (.iload_n 1, 1) := by decide +kernel
theorem dX8_create_1 : decode cX8_create 1 = .ok (.i2l, 1) := by decide +kernel
theorem dX8_create_2 : decode cX8_create 2 = .ok (.lconst 0, 1) := by decide +kernel
theorem dX8_create_3 : decode cX8_create 3 = .ok (.ldc2_w 174, 3) := by decide +kernel
theorem dX8_create_6 : decode cX8_create 6 = .ok (.invokestatic 103, 3) := by decide +kernel
theorem dX8_create_9 : decode cX8_create 9 = .ok (.ifCond .eq 17, 3) := by decide +kernel
theorem dX8_create_12 : decode cX8_create 12 = .ok (.iload_n 2, 1) := by decide +kernel
theorem dX8_create_13 : decode cX8_create 13 = .ok (.bipush (-8), 2) := by decide +kernel
theorem dX8_create_15 : decode cX8_create 15 = .ok (.if_icmp .eq 13, 3) := by decide +kernel
theorem dX8_create_18 : decode cX8_create 18 = .ok (.aload_n 0, 1) := by decide +kernel
theorem dX8_create_19 : decode cX8_create 19 = .ok (.iload_n 2, 1) := by decide +kernel
theorem dX8_create_20 : decode cX8_create 20 = .ok (.invokevirtual 176, 3) := by decide +kernel
theorem dX8_create_23 : decode cX8_create 23 = .ok (.ifCond .ne 5, 3) := by decide +kernel
theorem dX8_create_26 : decode cX8_create 26 = .ok (.iconst (-1), 1) := by decide +kernel
theorem dX8_create_27 : decode cX8_create 27 = .ok (.ireturn, 1) := by decide +kernel
theorem dX8_create_28 : decode cX8_create 28 = .ok (.aload_n 0, 1) := by decide +kernel
theorem dX8_create_29 : decode cX8_create 29 = .ok (.getfield 82, 3) := by decide +kernel
theorem dX8_create_32 : decode cX8_create 32 = .ok (.bipush (-8), 2) := by decide +kernel
theorem dX8_create_34 : decode cX8_create 34 = .ok (.if_icmp .eq 17, 3) := by decide +kernel
theorem dX8_create_37 : decode cX8_create 37 = .ok (.iload_n 2, 1) := by decide +kernel
theorem dX8_create_38 : decode cX8_create 38 = .ok (.bipush (-8), 2) := by decide +kernel
theorem dX8_create_40 : decode cX8_create 40 = .ok (.if_icmp .eq 14, 3) := by decide +kernel
theorem dX8_create_43 : decode cX8_create 43 = .ok (.aload_n 0, 1) := by decide +kernel
theorem dX8_create_44 : decode cX8_create 44 = .ok (.iload_n 2, 1) := by decide +kernel
theorem dX8_create_45 : decode cX8_create 45 = .ok (.invokevirtual 179, 3) := by decide +kernel
theorem dX8_create_48 : decode cX8_create 48 = .ok (.ifCond .eq 6, 3) := by decide +kernel
theorem dX8_create_51 : decode cX8_create 51 = .ok (.bipush (-2), 2) := by decide +kernel
theorem dX8_create_53 : decode cX8_create 53 = .ok (.ireturn, 1) := by decide +kernel
theorem dX8_create_54 : decode cX8_create 54 = .ok (.aload_n 0, 1) := by decide +kernel
theorem dX8_create_55 : decode cX8_create 55 = .ok (.invokevirtual 182, 3) := by decide +kernel
theorem dX8_create_58 : decode cX8_create 58 = .ok (.aload_n 0, 1) := by decide +kernel
theorem dX8_create_59 : decode cX8_create 59 = .ok (.invokevirtual 185, 3) := by decide +kernel
theorem dX8_create_62 : decode cX8_create 62 = .ok (.istore_n 3, 1) := by decide +kernel
theorem dX8_create_63 : decode cX8_create 63 = .ok (.iload_n 3, 1) := by decide +kernel
theorem dX8_create_64 : decode cX8_create 64 = .ok (.ifCond .eq 14, 3) := by decide +kernel
theorem dX8_create_67 : decode cX8_create 67 = .ok (.aload_n 0, 1) := by decide +kernel
theorem dX8_create_68 : decode cX8_create 68 = .ok (.iconst 5, 1) := by decide +kernel
theorem dX8_create_69 : decode cX8_create 69 = .ok (.iload_n 3, 1) := by decide +kernel
theorem dX8_create_70 : decode cX8_create 70 = .ok (.invokevirtual 118, 3) := by decide +kernel
theorem dX8_create_73 : decode cX8_create 73 = .ok (.bipush (-8), 2) := by decide +kernel
theorem dX8_create_75 : decode cX8_create 75 = .ok (.if_icmp .eq 6, 3) := by decide +kernel
theorem dX8_create_78 : decode cX8_create 78 = .ok (.bipush (-4), 2) := by decide +kernel
theorem dX8_create_80 : decode cX8_create 80 = .ok (.ireturn, 1) := by decide +kernel
theorem dX8_create_81 : decode cX8_create 81 = .ok (.iload_n 3, 1) := by decide +kernel
theorem dX8_create_82 : decode cX8_create 82 = .ok (.invokestatic 115, 3) := by decide +kernel
theorem dX8_create_85 : decode cX8_create 85 = .ok (.istore 4, 2) := by decide +kernel
theorem dX8_create_87 : decode cX8_create 87 = .ok (.aload_n 0, 1) := by decide +kernel
theorem dX8_create_88 : decode cX8_create 88 = .ok (.iconst 5, 1) := by decide +kernel
theorem dX8_create_89 : decode cX8_create 89 = .ok (.iload 4, 2) := by decide +kernel
theorem dX8_create_91 : decode cX8_create 91 = .ok (.invokevirtual 118, 3) := by decide +kernel
theorem dX8_create_94 : decode cX8_create 94 = .ok (.istore 5, 2) := by decide +kernel
theorem dX8_create_96 : decode cX8_create 96 = .ok (.iload 4, 2) := by decide +kernel
theorem dX8_create_98 : decode cX8_create 98 = .ok (.ifCond .eq 25, 3) := by decide +kernel
theorem dX8_create_101 : decode cX8_create 101 = .ok (.iload 5, 2) := by decide +kernel
theorem dX8_create_103 : decode cX8_create 103 = .ok (.bipush (-8), 2) := by decide +kernel
theorem dX8_create_105 : decode cX8_create 105 = .ok (.if_icmp .eq 15, 3) := by decide +kernel
theorem dX8_create_108 : decode cX8_create 108 = .ok (.aload_n 0, 1) := by decide +kernel
theorem dX8_create_109 : decode cX8_create 109 = .ok (.getfield 57, 3) := by decide +kernel
theorem dX8_create_112 : decode cX8_create 112 = .ok (.iload 5, 2) := by decide +kernel
theorem dX8_create_114 : decode cX8_create 114 = .ok (.iaload, 1) := by decide +kernel
theorem dX8_create_115 : decode cX8_create 115 = .ok (.bipush (-8), 2) := by decide +kernel
theorem dX8_create_117 : decode cX8_create 117 = .ok (.if_icmp .eq 6, 3) := by decide +kernel
theorem dX8_create_120 : decode cX8_create 120 = .ok (.bipush (-3), 2) := by decide +kernel
theorem dX8_create_122 : decode cX8_create 122 = .ok (.ireturn, 1) := by decide +kernel
theorem dX8_create_123 : decode cX8_create 123 = .ok (.aload_n 0, 1) := by decide +kernel
theorem dX8_create_124 : decode cX8_create 124 = .ok (.getfield 45, 3) := by decide +kernel
theorem dX8_create_127 : decode cX8_create 127 = .ok (.iconst 5, 1) := by decide +kernel
theorem dX8_create_128 : decode cX8_create 128 = .ok (.iaload, 1) := by decide +kernel
theorem dX8_create_129 : decode cX8_create 129 = .ok (.bipush 12, 2) := by decide +kernel
theorem dX8_create_131 : decode cX8_create 131 = .ok (.if_icmp .ne 8, 3) := by decide +kernel
theorem dX8_create_134 : decode cX8_create 134 = .ok (.bipush (-7), 2) := by decide +kernel
theorem dX8_create_136 : decode cX8_create 136 = .ok (.goto 11, 3) := by decide +kernel
theorem dX8_create_139 : decode cX8_create 139 = .ok (.aload_n 0, 1) := by decide +kernel
theorem dX8_create_140 : decode cX8_create 140 = .ok (.iconst 0, 1) := by decide +kernel
theorem dX8_create_141 : decode cX8_create 141 = .ok (.iload_n 3, 1) := by decide +kernel
theorem dX8_create_142 : decode cX8_create 142 = .ok (.iload_n 1, 1) := by decide +kernel
theorem dX8_create_143 : decode cX8_create 143 = .ok (.iload_n 2, 1) := by decide +kernel
theorem dX8_create_144 : decode cX8_create 144 = .ok (.invokevirtual 188, 3) := by decide +kernel
theorem dX8_create_147 : decode cX8_create 147 = .ok (.ireturn, 1) := by decide +kernel
set_option maxRecDepth 20000 in
theorem ggX8_against_X8_laysProposed : GoodIn wsX8_against wsX8_laysProposed := goodIn_r _ [8, 9, 10, 1, 11, 12, 13, 7, 14, 15, 16, 17, 18, 19, 3, 20, 21, 22, 23, 24, 25, 26, 27, 28, 29, 30, 31, 32, 33, 34, 35, 36, 37, 38, 39, 40, 41, 42, 43, 44, 50, 51, 52, 53, 54, 55, 56, 57, 58, 59, 60, 61, 62, 63, 64, 65, 66, 67, 68, 69, 70, 71, 72, 73, 74, 75, 76, 77, 78] (by decide +kernel) (by decide +kernel)
set_option maxRecDepth 20000 in
theorem gX8_against_X8_laysProposed : GoodIn wsX8_against (wsV RX8 182 RX8 yX8_laysProposed wsX8_laysProposed) := goodIn_app (goodIn_of _ (by decide +kernel)) ggX8_against_X8_laysProposed
set_option maxRecDepth 20000 in
theorem ggX8_against_X8_path : GoodIn wsX8_against wsX8_path := goodIn_r _ [48, 2, 49, 50, 51, 52, 53, 54, 55, 56, 57, 58, 59, 60, 61, 62, 63, 64, 65, 66, 67, 68, 69, 70, 71, 72, 73, 74, 75, 76, 77, 78] (by decide +kernel) (by decide +kernel)
set_option maxRecDepth 20000 in
theorem gX8_against_X8_path : GoodIn wsX8_against (wsV RX8 185 RX8 yX8_path wsX8_path) := goodIn_app (goodIn_of _ (by decide +kernel)) ggX8_against_X8_path
set_option maxRecDepth 20000 in
theorem ggX8_against_X8_find : GoodIn wsX8_against wsX8_find := goodIn_r _ [26, 9, 17, 50, 51, 52, 53, 54, 55, 56, 57, 58, 59, 60, 61, 62, 63, 64, 65, 66, 67, 68, 69, 70, 71, 72, 73, 74, 75, 76, 77, 78] (by decide +kernel) (by decide +kernel)
set_option maxRecDepth 20000 in
theorem gX8_against_X8_find : GoodIn wsX8_against (wsV RX8 118 RX8 yX8_find wsX8_find) := goodIn_app (goodIn_of _ (by decide +kernel)) ggX8_against_X8_find
theorem dX8_against_0 : decode cX8_against 0 = .ok (.aload_n 0, 1) := by decide +kernel
theorem dX8_against_1 : decode cX8_against 1 = .ok (.getfield 82, 3) := by decide +kernel
theorem dX8_against_4 : decode cX8_against 4 = .ok (.bipush (-8), 2) := by decide +kernel
theorem dX8_against_6 : decode cX8_against 6 = .ok (.if_icmp .eq 10, 3) := by decide +kernel
theorem dX8_against_9 : decode cX8_against 9 = .ok (.aload_n 0, 1) := by decide +kernel
theorem dX8_against_10 : decode cX8_against 10 = .ok (.getfield 94, 3) := by decide +kernel
theorem dX8_against_13 : decode cX8_against 13 = .ok (.ifCond .ne 6, 3) := by decide +kernel
theorem dX8_against_16 : decode cX8_against 16 = .ok (.bipush (-2), 2) := by decide +kernel
theorem dX8_against_18 : decode cX8_against 18 = .ok (.ireturn, 1) := by decide +kernel
theorem dX8_against_19 : decode cX8_against 19 = .ok (.aload_n 0, 1) := by decide +kernel
theorem dX8_against_20 : decode cX8_against 20 = .ok (.invokevirtual 182, 3) := by decide +kernel
theorem dX8_against_23 : decode cX8_against 23 = .ok (.aload_n 0, 1) := by decide +kernel
theorem dX8_against_24 : decode cX8_against 24 = .ok (.iconst 5, 1) := by decide +kernel
theorem dX8_against_25 : decode cX8_against 25 = .ok (.aload_n 0, 1) := by decide +kernel
theorem dX8_against_26 : decode cX8_against 26 = .ok (.invokevirtual 185, 3) := by decide +kernel
theorem dX8_against_29 : decode cX8_against 29 = .ok (.invokevirtual 118, 3) := by decide +kernel
theorem dX8_against_32 : decode cX8_against 32 = .ok (.istore_n 2, 1) := by decide +kernel
theorem dX8_against_33 : decode cX8_against 33 = .ok (.iload_n 2, 1) := by decide +kernel
theorem dX8_against_34 : decode cX8_against 34 = .ok (.bipush (-8), 2) := by decide +kernel
theorem dX8_against_36 : decode cX8_against 36 = .ok (.if_icmp .ne 6, 3) := by decide +kernel
theorem dX8_against_39 : decode cX8_against 39 = .ok (.bipush (-3), 2) := by decide +kernel
theorem dX8_against_41 : decode cX8_against 41 = .ok (.ireturn, 1) := by decide +kernel
theorem dX8_against_42 : decode cX8_against 42 = .ok (.iload_n 1, 1) := by decide +kernel
theorem dX8_against_43 : decode cX8_against 43 = .ok (.bipush (-9), 2) := by decide +kernel
theorem dX8_against_45 : decode cX8_against 45 = .ok (.if_icmp .eq 18, 3) := by decide +kernel
theorem dX8_against_48 : decode cX8_against 48 = .ok (.aload_n 0, 1) := by decide +kernel
theorem dX8_against_49 : decode cX8_against 49 = .ok (.getfield 54, 3) := by decide +kernel
theorem dX8_against_52 : decode cX8_against 52 = .ok (.iload_n 2, 1) := by decide +kernel
theorem dX8_against_53 : decode cX8_against 53 = .ok (.iaload, 1) := by decide +kernel
theorem dX8_against_54 : decode cX8_against 54 = .ok (.iload_n 1, 1) := by decide +kernel
theorem dX8_against_55 : decode cX8_against 55 = .ok (.if_icmp .eq 8, 3) := by decide +kernel
theorem dX8_against_58 : decode cX8_against 58 = .ok (.bipush (-5), 2) := by decide +kernel
theorem dX8_against_60 : decode cX8_against 60 = .ok (.goto 4, 3) := by decide +kernel
theorem dX8_against_63 : decode cX8_against 63 = .ok (.iconst 0, 1) := by decide +kernel
theorem dX8_against_64 : decode cX8_against 64 = .ok (.ireturn, 1) := by decide +kernel
theorem dX8_isVersion_0 : decode cX8_isVersion 0 = .ok (.iload_n 0, 1) := by decide +kernel
theorem dX8_isVersion_1 : decode cX8_isVersion 1 = .ok (.ifCond .ge 9, 3) := by decide +kernel
theorem dX8_isVersion_4 : decode cX8_isVersion 4 = .ok (.iload_n 0, 1) := by decide +kernel
theorem dX8_isVersion_5 : decode cX8_isVersion 5 = .ok (.bipush (-9), 2) := by decide +kernel
theorem dX8_isVersion_7 : decode cX8_isVersion 7 = .ok (.if_icmp .ne 7, 3) := by decide +kernel
theorem dX8_isVersion_10 : decode cX8_isVersion 10 = .ok (.iconst 1, 1) := by decide +kernel
theorem dX8_isVersion_11 : decode cX8_isVersion 11 = .ok (.goto 4, 3) := by decide +kernel
theorem dX8_isVersion_14 : decode cX8_isVersion 14 = .ok (.iconst 0, 1) := by decide +kernel
theorem dX8_isVersion_15 : decode cX8_isVersion 15 = .ok (.ireturn, 1) := by decide +kernel
set_option maxRecDepth 20000 in
theorem ggX8_setData_X8_in : GoodIn wsX8_setData wsX8_in := goodIn_r _ [5] (by decide +kernel) (by decide +kernel)
set_option maxRecDepth 20000 in
theorem gX8_setData_X8_in : GoodIn wsX8_setData (va_wsS RX8 103 yX8_in wsX8_in) := goodIn_app (goodIn_of _ (by decide +kernel)) ggX8_setData_X8_in
set_option maxRecDepth 20000 in
theorem ggX8_setData_X8_isVersion : GoodIn wsX8_setData wsX8_isVersion := goodIn_r _ [8] (by decide +kernel) (by decide +kernel)
set_option maxRecDepth 20000 in
theorem gX8_setData_X8_isVersion : GoodIn wsX8_setData (va_wsS RX8 192 yX8_isVersion wsX8_isVersion) := goodIn_app (goodIn_of _ (by decide +kernel)) ggX8_setData_X8_isVersion
set_option maxRecDepth 20000 in
theorem ggX8_setData_X8_against : GoodIn wsX8_setData wsX8_against := goodIn_r _ [12, 13, 14, 15, 16, 17, 18, 4, 19, 20, 21, 22, 23, 24, 25, 26, 27, 28, 29, 30, 31, 32, 33, 34, 35, 36, 37, 38, 39, 40, 41, 42, 43, 44, 45, 46, 47, 48, 49, 50, 51, 52, 53, 54, 55, 56, 57, 58, 59, 60, 67, 68, 69, 70, 71, 72, 73, 74, 75, 76, 77, 78, 79, 80, 81, 82, 83, 84, 85, 86, 87, 88, 89, 90, 91, 92, 93, 94, 95] (by decide +kernel) (by decide +kernel)
set_option maxRecDepth 20000 in
theorem gX8_setData_X8_against : GoodIn wsX8_setData (wsV RX8 195 RX8 yX8_against wsX8_against) := goodIn_app (goodIn_of _ (by decide +kernel)) ggX8_setData_X8_against
set_option maxRecDepth 20000 in
theorem ggX8_setData_X8_path : GoodIn wsX8_setData wsX8_path := goodIn_r _ [59, 14, 60, 67, 68, 69, 70, 71, 72, 73, 74, 75, 76, 77, 78, 79, 80, 81, 82, 83, 84, 85, 86, 87, 88, 89, 90, 91, 92, 93, 94, 95] (by decide +kernel) (by decide +kernel)
set_option maxRecDepth 20000 in
theorem gX8_setData_X8_path : GoodIn wsX8_setData (wsV RX8 185 RX8 yX8_path wsX8_path) := goodIn_app (goodIn_of _ (by decide +kernel)) ggX8_setData_X8_path
set_option maxRecDepth 20000 in
theorem ggX8_setData_X8_proposes : GoodIn wsX8_setData wsX8_proposes := goodIn_r _ [64, 21, 13, 65, 33, 66, 27, 26, 30, 32, 67, 68, 69, 70, 71, 72, 73, 74, 75, 76, 77, 78, 79, 80, 81, 82, 83, 84, 85, 86, 87, 88, 89, 90, 91, 92, 93, 94, 95] (by decide +kernel) (by decide +kernel)
set_option maxRecDepth 20000 in
theorem gX8_setData_X8_proposes : GoodIn wsX8_setData (wsV RX8 188 RX8 yX8_proposes wsX8_proposes) := goodIn_app (goodIn_of _ (by decide +kernel)) ggX8_setData_X8_proposes
