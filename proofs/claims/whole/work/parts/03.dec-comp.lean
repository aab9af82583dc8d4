theorem dX0_init_0 : decode cX0_init 0 = .ok (.aload_n 0, 1) := by decide +kernel
theorem dX0_init_1 : decode cX0_init 1 = .ok (.invokespecial 3, 3) := by decide +kernel
theorem dX0_init_4 : decode cX0_init 4 = .ok (.aload_n 0, 1) := by decide +kernel
theorem dX0_init_5 : decode cX0_init 5 = .ok (.bipush 10, 2) := by decide +kernel
theorem dX0_init_7 : decode cX0_init 7 = .ok (.newarray .int, 2) := by decide +kernel
theorem dX0_init_9 : decode cX0_init 9 = .ok (.putfield 9, 3) := by decide +kernel
theorem dX0_init_12 : decode cX0_init 12 = .ok (.aload_n 0, 1) := by decide +kernel
theorem dX0_init_13 : decode cX0_init 13 = .ok (.bipush 10, 2) := by decide +kernel
theorem dX0_init_15 : decode cX0_init 15 = .ok (.newarray .int, 2) := by decide +kernel
theorem dX0_init_17 : decode cX0_init 17 = .ok (.putfield 15, 3) := by decide +kernel
theorem dX0_init_20 : decode cX0_init 20 = .ok (.aload_n 0, 1) := by decide +kernel
theorem dX0_init_21 : decode cX0_init 21 = .ok (.bipush 10, 2) := by decide +kernel
theorem dX0_init_23 : decode cX0_init 23 = .ok (.newarray .int, 2) := by decide +kernel
theorem dX0_init_25 : decode cX0_init 25 = .ok (.putfield 18, 3) := by decide +kernel
theorem dX0_init_28 : decode cX0_init 28 = .ok (.aload_n 0, 1) := by decide +kernel
theorem dX0_init_29 : decode cX0_init 29 = .ok (.bipush 10, 2) := by decide +kernel
theorem dX0_init_31 : decode cX0_init 31 = .ok (.newarray .int, 2) := by decide +kernel
theorem dX0_init_33 : decode cX0_init 33 = .ok (.putfield 21, 3) := by decide +kernel
theorem dX0_init_36 : decode cX0_init 36 = .ok (.aload_n 0, 1) := by decide +kernel
theorem dX0_init_37 : decode cX0_init 37 = .ok (.bipush 10, 2) := by decide +kernel
theorem dX0_init_39 : decode cX0_init 39 = .ok (.newarray .int, 2) := by decide +kernel
theorem dX0_init_41 : decode cX0_init 41 = .ok (.putfield 24, 3) := by decide +kernel
theorem dX0_init_44 : decode cX0_init 44 = .ok (.aload_n 0, 1) := by decide +kernel
theorem dX0_init_45 : decode cX0_init 45 = .ok (.bipush 10, 2) := by decide +kernel
theorem dX0_init_47 : decode cX0_init 47 = .ok (.newarray .int, 2) := by decide +kernel
theorem dX0_init_49 : decode cX0_init 49 = .ok (.putfield 27, 3) := by decide +kernel
theorem dX0_init_52 : decode cX0_init 52 = .ok (.aload_n 0, 1) := by decide +kernel
theorem dX0_init_53 : decode cX0_init 53 = .ok (.bipush 10, 2) := by decide +kernel
theorem dX0_init_55 : decode cX0_init 55 = .ok (.newarray .int, 2) := by decide +kernel
theorem dX0_init_57 : decode cX0_init 57 = .ok (.putfield 30, 3) := by decide +kernel
theorem dX0_init_60 : decode cX0_init 60 = .ok (.aload_n 0, 1) := by decide +kernel
theorem dX0_init_61 : decode cX0_init 61 = .ok (.iconst 0, 1) := by decide +kernel
theorem dX0_init_62 : decode cX0_init 62 = .ok (.putfield 33, 3) := by decide +kernel
theorem dX0_init_65 : decode cX0_init 65 = .ok (.aload_n 0, 1) := by decide +kernel
theorem dX0_init_66 : decode cX0_init 66 = .ok (.iconst 0, 1) := by decide +kernel
theorem dX0_init_67 : decode cX0_init 67 = .ok (.putfield 37, 3) := by decide +kernel
theorem dX0_init_70 : decode cX0_init 70 = .ok (.aload_n 0, 1) := by decide +kernel
theorem dX0_init_71 : decode cX0_init 71 = .ok (.bipush 50, 2) := by decide +kernel
theorem dX0_init_73 : decode cX0_init 73 = .ok (.putfield 40, 3) := by decide +kernel
theorem dX0_init_76 : decode cX0_init 76 = .ok (.aload_n 0, 1) := by decide +kernel
theorem dX0_init_77 : decode cX0_init 77 = .ok (.bipush 10, 2) := by decide +kernel
theorem dX0_init_79 : decode cX0_init 79 = .ok (.putfield 43, 3) := by decide +kernel
theorem dX0_init_82 : decode cX0_init 82 = .ok (.aload_n 0, 1) := by decide +kernel
theorem dX0_init_83 : decode cX0_init 83 = .ok (.iconst 0, 1) := by decide +kernel
theorem dX0_init_84 : decode cX0_init 84 = .ok (.putfield 46, 3) := by decide +kernel
theorem dX0_init_87 : decode cX0_init 87 = .ok (.aload_n 0, 1) := by decide +kernel
theorem dX0_init_88 : decode cX0_init 88 = .ok (.iconst (-1), 1) := by decide +kernel
theorem dX0_init_89 : decode cX0_init 89 = .ok (.putfield 49, 3) := by decide +kernel
theorem dX0_init_92 : decode cX0_init 92 = .ok (.aload_n 0, 1) := by decide +kernel
theorem dX0_init_93 : decode cX0_init 93 = .ok (.iconst 0, 1) := by decide +kernel
theorem dX0_init_94 : decode cX0_init 94 = .ok (.putfield 52, 3) := by decide +kernel
theorem dX0_init_97 : decode cX0_init 97 = .ok (.aload_n 0, 1) := by decide +kernel
theorem dX0_init_98 : decode cX0_init 98 = .ok (.iconst 0, 1) := by decide +kernel
theorem dX0_init_99 : decode cX0_init 99 = .ok (.putfield 55, 3) := by decide +kernel
theorem dX0_init_102 : decode cX0_init 102 = .ok (.aload_n 0, 1) := by decide +kernel
theorem dX0_init_103 : decode cX0_init 103 = .ok (.iconst 1, 1) := by decide +kernel
theorem dX0_init_104 : decode cX0_init 104 = .ok (.putfield 58, 3) := by decide +kernel
theorem dX0_init_107 : decode cX0_init 107 = .ok (.aload_n 0, 1) := by decide +kernel
theorem dX0_init_108 : decode cX0_init 108 = .ok (.iconst 3, 1) := by decide +kernel
theorem dX0_init_109 : decode cX0_init 109 = .ok (.putfield 61, 3) := by decide +kernel
theorem dX0_init_112 : decode cX0_init 112 = .ok (.aload_n 0, 1) := by decide +kernel
theorem dX0_init_113 : decode cX0_init 113 = .ok (.iconst 0, 1) := by decide +kernel
theorem dX0_init_114 : decode cX0_init 114 = .ok (.putfield 64, 3) := by decide +kernel
theorem dX0_init_117 : decode cX0_init 117 = .ok (.aload_n 0, 1) := by decide +kernel
theorem dX0_init_118 : decode cX0_init 118 = .ok (.aload_n 1, 1) := by decide +kernel
theorem dX0_init_119 : decode cX0_init 119 = .ok (.putfield 67, 3) := by decide +kernel
theorem dX0_init_122 : decode cX0_init 122 = .ok (.return_, 1) := by decide +kernel
theorem dX0_become_0 : decode cX0_become 0 = .ok (.aload_n 0, 1) := by decide +kernel
theorem dX0_become_1 : decode cX0_become 1 = .ok (.aload_n 1, 1) := by decide +kernel
theorem dX0_become_2 : decode cX0_become 2 = .ok (.getfield 33, 3) := by decide +kernel
theorem dX0_become_5 : decode cX0_become 5 = .ok (.putfield 33, 3) := by decide +kernel
theorem dX0_become_8 : decode cX0_become 8 = .ok (.aload_n 0, 1) := by decide +kernel
theorem dX0_become_9 : decode cX0_become 9 = .ok (.aload_n 1, 1) := by decide +kernel
theorem dX0_become_10 : decode cX0_become 10 = .ok (.getfield 37, 3) := by decide +kernel
theorem dX0_become_13 : decode cX0_become 13 = .ok (.putfield 37, 3) := by decide +kernel
theorem dX0_become_16 : decode cX0_become 16 = .ok (.aload_n 0, 1) := by decide +kernel
theorem dX0_become_17 : decode cX0_become 17 = .ok (.aload_n 1, 1) := by decide +kernel
theorem dX0_become_18 : decode cX0_become 18 = .ok (.getfield 40, 3) := by decide +kernel
theorem dX0_become_21 : decode cX0_become 21 = .ok (.putfield 40, 3) := by decide +kernel
theorem dX0_become_24 : decode cX0_become 24 = .ok (.aload_n 0, 1) := by decide +kernel
theorem dX0_become_25 : decode cX0_become 25 = .ok (.aload_n 1, 1) := by decide +kernel
theorem dX0_become_26 : decode cX0_become 26 = .ok (.getfield 43, 3) := by decide +kernel
theorem dX0_become_29 : decode cX0_become 29 = .ok (.putfield 43, 3) := by decide +kernel
theorem dX0_become_32 : decode cX0_become 32 = .ok (.aload_n 0, 1) := by decide +kernel
theorem dX0_become_33 : decode cX0_become 33 = .ok (.aload_n 1, 1) := by decide +kernel
theorem dX0_become_34 : decode cX0_become 34 = .ok (.getfield 46, 3) := by decide +kernel
theorem dX0_become_37 : decode cX0_become 37 = .ok (.putfield 46, 3) := by decide +kernel
theorem dX0_become_40 : decode cX0_become 40 = .ok (.aload_n 0, 1) := by decide +kernel
theorem dX0_become_41 : decode cX0_become 41 = .ok (.aload_n 1, 1) := by decide +kernel
theorem dX0_become_42 : decode cX0_become 42 = .ok (.getfield 49, 3) := by decide +kernel
theorem dX0_become_45 : decode cX0_become 45 = .ok (.putfield 49, 3) := by decide +kernel
theorem dX0_become_48 : decode cX0_become 48 = .ok (.aload_n 0, 1) := by decide +kernel
theorem dX0_become_49 : decode cX0_become 49 = .ok (.aload_n 1, 1) := by decide +kernel
theorem dX0_become_50 : decode cX0_become 50 = .ok (.getfield 52, 3) := by decide +kernel
theorem dX0_become_53 : decode cX0_become 53 = .ok (.putfield 52, 3) := by decide +kernel
theorem dX0_become_56 : decode cX0_become 56 = .ok (.aload_n 0, 1) := by decide +kernel
theorem dX0_become_57 : decode cX0_become 57 = .ok (.aload_n 1, 1) := by decide +kernel
theorem dX0_become_58 : decode cX0_become 58 = .ok (.getfield 55, 3) := by decide +kernel
theorem dX0_become_61 : decode cX0_become 61 = .ok (.putfield 55, 3) := by decide +kernel
theorem dX0_become_64 : decode cX0_become 64 = .ok (.aload_n 0, 1) := by decide +kernel
theorem dX0_become_65 : decode cX0_become 65 = .ok (.aload_n 1, 1) := by decide +kernel
theorem dX0_become_66 : decode cX0_become 66 = .ok (.getfield 58, 3) := by decide +kernel
theorem dX0_become_69 : decode cX0_become 69 = .ok (.putfield 58, 3) := by decide +kernel
theorem dX0_become_72 : decode cX0_become 72 = .ok (.aload_n 0, 1) := by decide +kernel
theorem dX0_become_73 : decode cX0_become 73 = .ok (.aload_n 1, 1) := by decide +kernel
theorem dX0_become_74 : decode cX0_become 74 = .ok (.getfield 61, 3) := by decide +kernel
theorem dX0_become_77 : decode cX0_become 77 = .ok (.putfield 61, 3) := by decide +kernel
theorem dX0_become_80 : decode cX0_become 80 = .ok (.aload_n 0, 1) := by decide +kernel
theorem dX0_become_81 : decode cX0_become 81 = .ok (.aload_n 1, 1) := by decide +kernel
theorem dX0_become_82 : decode cX0_become 82 = .ok (.getfield 64, 3) := by decide +kernel
theorem dX0_become_85 : decode cX0_become 85 = .ok (.putfield 64, 3) := by decide +kernel
theorem dX0_become_88 : decode cX0_become 88 = .ok (.aload_n 1, 1) := by decide +kernel
theorem dX0_become_89 : decode cX0_become 89 = .ok (.getfield 9, 3) := by decide +kernel
theorem dX0_become_92 : decode cX0_become 92 = .ok (.iconst 0, 1) := by decide +kernel
theorem dX0_become_93 : decode cX0_become 93 = .ok (.aload_n 0, 1) := by decide +kernel
theorem dX0_become_94 : decode cX0_become 94 = .ok (.getfield 9, 3) := by decide +kernel
theorem dX0_become_97 : decode cX0_become 97 = .ok (.iconst 0, 1) := by decide +kernel
theorem dX0_become_98 : decode cX0_become 98 = .ok (.bipush 10, 2) := by decide +kernel
theorem dX0_become_100 : decode cX0_become 100 = .ok (.invokestatic 71, 3) := by decide +kernel
theorem dX0_become_103 : decode cX0_become 103 = .ok (.aload_n 1, 1) := by decide +kernel
theorem dX0_become_104 : decode cX0_become 104 = .ok (.getfield 15, 3) := by decide +kernel
theorem dX0_become_107 : decode cX0_become 107 = .ok (.iconst 0, 1) := by decide +kernel
theorem dX0_become_108 : decode cX0_become 108 = .ok (.aload_n 0, 1) := by decide +kernel
theorem dX0_become_109 : decode cX0_become 109 = .ok (.getfield 15, 3) := by decide +kernel
theorem dX0_become_112 : decode cX0_become 112 = .ok (.iconst 0, 1) := by decide +kernel
theorem dX0_become_113 : decode cX0_become 113 = .ok (.bipush 10, 2) := by decide +kernel
theorem dX0_become_115 : decode cX0_become 115 = .ok (.invokestatic 71, 3) := by decide +kernel
theorem dX0_become_118 : decode cX0_become 118 = .ok (.aload_n 1, 1) := by decide +kernel
theorem dX0_become_119 : decode cX0_become 119 = .ok (.getfield 18, 3) := by decide +kernel
theorem dX0_become_122 : decode cX0_become 122 = .ok (.iconst 0, 1) := by decide +kernel
theorem dX0_become_123 : decode cX0_become 123 = .ok (.aload_n 0, 1) := by decide +kernel
theorem dX0_become_124 : decode cX0_become 124 = .ok (.getfield 18, 3) := by decide +kernel
theorem dX0_become_127 : decode cX0_become 127 = .ok (.iconst 0, 1) := by decide +kernel
theorem dX0_become_128 : decode cX0_become 128 = .ok (.bipush 10, 2) := by decide +kernel
theorem dX0_become_130 : decode cX0_become 130 = .ok (.invokestatic 71, 3) := by decide +kernel
theorem dX0_become_133 : decode cX0_become 133 = .ok (.aload_n 1, 1) := by decide +kernel
theorem dX0_become_134 : decode cX0_become 134 = .ok (.getfield 21, 3) := by decide +kernel
theorem dX0_become_137 : decode cX0_become 137 = .ok (.iconst 0, 1) := by decide +kernel
theorem dX0_become_138 : decode cX0_become 138 = .ok (.aload_n 0, 1) := by decide +kernel
theorem dX0_become_139 : decode cX0_become 139 = .ok (.getfield 21, 3) := by decide +kernel
theorem dX0_become_142 : decode cX0_become 142 = .ok (.iconst 0, 1) := by decide +kernel
theorem dX0_become_143 : decode cX0_become 143 = .ok (.bipush 10, 2) := by decide +kernel
theorem dX0_become_145 : decode cX0_become 145 = .ok (.invokestatic 71, 3) := by decide +kernel
theorem dX0_become_148 : decode cX0_become 148 = .ok (.aload_n 1, 1) := by decide +kernel
theorem dX0_become_149 : decode cX0_become 149 = .ok (.getfield 24, 3) := by decide +kernel
theorem dX0_become_152 : decode cX0_become 152 = .ok (.iconst 0, 1) := by decide +kernel
theorem dX0_become_153 : decode cX0_become 153 = .ok (.aload_n 0, 1) := by decide +kernel
theorem dX0_become_154 : decode cX0_become 154 = .ok (.getfield 24, 3) := by decide +kernel
theorem dX0_become_157 : decode cX0_become 157 = .ok (.iconst 0, 1) := by decide +kernel
theorem dX0_become_158 : decode cX0_become 158 = .ok (.bipush 10, 2) := by decide +kernel
theorem dX0_become_160 : decode cX0_become 160 = .ok (.invokestatic 71, 3) := by decide +kernel
theorem dX0_become_163 : decode cX0_become 163 = .ok (.aload_n 1, 1) := by decide +kernel
theorem dX0_become_164 : decode cX0_become 164 = .ok (.getfield 27, 3) := by decide +kernel
theorem dX0_become_167 : decode cX0_become 167 = .ok (.iconst 0, 1) := by decide +kernel
theorem dX0_become_168 : decode cX0_become 168 = .ok (.aload_n 0, 1) := by decide +kernel
theorem dX0_become_169 : decode cX0_become 169 = .ok (.getfield 27, 3) := by decide +kernel
theorem dX0_become_172 : decode cX0_become 172 = .ok (.iconst 0, 1) := by decide +kernel
theorem dX0_become_173 : decode cX0_become 173 = .ok (.bipush 10, 2) := by decide +kernel
theorem dX0_become_175 : decode cX0_become 175 = .ok (.invokestatic 71, 3) := by decide +kernel
theorem dX0_become_178 : decode cX0_become 178 = .ok (.aload_n 1, 1) := by decide +kernel
theorem dX0_become_179 : decode cX0_become 179 = .ok (.getfield 30, 3) := by decide +kernel
theorem dX0_become_182 : decode cX0_become 182 = .ok (.iconst 0, 1) := by decide +kernel
theorem dX0_become_183 : decode cX0_become 183 = .ok (.aload_n 0, 1) := by decide +kernel
theorem dX0_become_184 : decode cX0_become 184 = .ok (.getfield 30, 3) := by decide +kernel
theorem dX0_become_187 : decode cX0_become 187 = .ok (.iconst 0, 1) := by decide +kernel
theorem dX0_become_188 : decode cX0_become 188 = .ok (.bipush 10, 2) := by decide +kernel
theorem dX0_become_190 : decode cX0_become 190 = .ok (.invokestatic 71, 3) := by decide +kernel
theorem dX0_become_193 : decode cX0_become 193 = .ok (.return_, 1) := by decide +kernel
theorem dX0_isVoter_0 : decode cX0_isVoter 0 = .ok (.iload_n 1, 1) := by decide +kernel
theorem dX0_isVoter_1 : decode cX0_isVoter 1 = .ok (.ifCond .lt 15, 3) := by decide +kernel
theorem dX0_isVoter_4 : decode cX0_isVoter 4 = .ok (.iload_n 1, 1) := by decide +kernel
theorem dX0_isVoter_5 : decode cX0_isVoter 5 = .ok (.aload_n 0, 1) := by decide +kernel
theorem dX0_isVoter_6 : decode cX0_isVoter 6 = .ok (.getfield 33, 3) := by decide +kernel
theorem dX0_isVoter_9 : decode cX0_isVoter 9 = .ok (.if_icmp .ge 7, 3) := by decide +kernel
theorem dX0_isVoter_12 : decode cX0_isVoter 12 = .ok (.iconst 1, 1) := by decide +kernel
theorem dX0_isVoter_13 : decode cX0_isVoter 13 = .ok (.goto 4, 3) := by decide +kernel
theorem dX0_isVoter_16 : decode cX0_isVoter 16 = .ok (.iconst 0, 1) := by decide +kernel
theorem dX0_isVoter_17 : decode cX0_isVoter 17 = .ok (.ireturn, 1) := by decide +kernel
theorem dX0_enter_0 : decode cX0_enter 0 = .ok (.aload_n 0, 1) := by decide +kernel
theorem dX0_enter_1 : decode cX0_enter 1 = .ok (.getfield 33, 3) := by decide +kernel
theorem dX0_enter_4 : decode cX0_enter 4 = .ok (.bipush 10, 2) := by decide +kernel
theorem dX0_enter_6 : decode cX0_enter 6 = .ok (.if_icmp .lt 4, 3) := by decide +kernel
theorem dX0_enter_9 : decode cX0_enter 9 = .ok (.return_, 1) := by decide +kernel
theorem dX0_enter_10 : decode cX0_enter 10 = .ok (.aload_n 0, 1) := by decide +kernel
theorem dX0_enter_11 : decode cX0_enter 11 = .ok (.getfield 9, 3) := by decide +kernel
theorem dX0_enter_14 : decode cX0_enter 14 = .ok (.aload_n 0, 1) := by decide +kernel
theorem dX0_enter_15 : decode cX0_enter 15 = .ok (.getfield 33, 3) := by decide +kernel
theorem dX0_enter_18 : decode cX0_enter 18 = .ok (.iload_n 1, 1) := by decide +kernel
theorem dX0_enter_19 : decode cX0_enter 19 = .ok (.iastore, 1) := by decide +kernel
theorem dX0_enter_20 : decode cX0_enter 20 = .ok (.aload_n 0, 1) := by decide +kernel
theorem dX0_enter_21 : decode cX0_enter 21 = .ok (.getfield 15, 3) := by decide +kernel
theorem dX0_enter_24 : decode cX0_enter 24 = .ok (.aload_n 0, 1) := by decide +kernel
theorem dX0_enter_25 : decode cX0_enter 25 = .ok (.getfield 33, 3) := by decide +kernel
theorem dX0_enter_28 : decode cX0_enter 28 = .ok (.iload_n 2, 1) := by decide +kernel
theorem dX0_enter_29 : decode cX0_enter 29 = .ok (.iastore, 1) := by decide +kernel
theorem dX0_enter_30 : decode cX0_enter 30 = .ok (.aload_n 0, 1) := by decide +kernel
theorem dX0_enter_31 : decode cX0_enter 31 = .ok (.getfield 18, 3) := by decide +kernel
theorem dX0_enter_34 : decode cX0_enter 34 = .ok (.aload_n 0, 1) := by decide +kernel
theorem dX0_enter_35 : decode cX0_enter 35 = .ok (.getfield 33, 3) := by decide +kernel
theorem dX0_enter_38 : decode cX0_enter 38 = .ok (.iload_n 3, 1) := by decide +kernel
theorem dX0_enter_39 : decode cX0_enter 39 = .ok (.iastore, 1) := by decide +kernel
theorem dX0_enter_40 : decode cX0_enter 40 = .ok (.aload_n 0, 1) := by decide +kernel
theorem dX0_enter_41 : decode cX0_enter 41 = .ok (.getfield 21, 3) := by decide +kernel
theorem dX0_enter_44 : decode cX0_enter 44 = .ok (.aload_n 0, 1) := by decide +kernel
theorem dX0_enter_45 : decode cX0_enter 45 = .ok (.getfield 33, 3) := by decide +kernel
theorem dX0_enter_48 : decode cX0_enter 48 = .ok (.iload 4, 2) := by decide +kernel
theorem dX0_enter_50 : decode cX0_enter 50 = .ok (.iastore, 1) := by decide +kernel
theorem dX0_enter_51 : decode cX0_enter 51 = .ok (.aload_n 0, 1) := by decide +kernel
theorem dX0_enter_52 : decode cX0_enter 52 = .ok (.getfield 24, 3) := by decide +kernel
theorem dX0_enter_55 : decode cX0_enter 55 = .ok (.aload_n 0, 1) := by decide +kernel
theorem dX0_enter_56 : decode cX0_enter 56 = .ok (.getfield 33, 3) := by decide +kernel
theorem dX0_enter_59 : decode cX0_enter 59 = .ok (.iconst 3, 1) := by decide +kernel
theorem dX0_enter_60 : decode cX0_enter 60 = .ok (.iastore, 1) := by decide +kernel
theorem dX0_enter_61 : decode cX0_enter 61 = .ok (.aload_n 0, 1) := by decide +kernel
theorem dX0_enter_62 : decode cX0_enter 62 = .ok (.getfield 27, 3) := by decide +kernel
theorem dX0_enter_65 : decode cX0_enter 65 = .ok (.aload_n 0, 1) := by decide +kernel
theorem dX0_enter_66 : decode cX0_enter 66 = .ok (.getfield 33, 3) := by decide +kernel
theorem dX0_enter_69 : decode cX0_enter 69 = .ok (.iconst (-1), 1) := by decide +kernel
theorem dX0_enter_70 : decode cX0_enter 70 = .ok (.iastore, 1) := by decide +kernel
theorem dX0_enter_71 : decode cX0_enter 71 = .ok (.aload_n 0, 1) := by decide +kernel
theorem dX0_enter_72 : decode cX0_enter 72 = .ok (.getfield 30, 3) := by decide +kernel
theorem dX0_enter_75 : decode cX0_enter 75 = .ok (.aload_n 0, 1) := by decide +kernel
theorem dX0_enter_76 : decode cX0_enter 76 = .ok (.getfield 33, 3) := by decide +kernel
theorem dX0_enter_79 : decode cX0_enter 79 = .ok (.iconst 0, 1) := by decide +kernel
theorem dX0_enter_80 : decode cX0_enter 80 = .ok (.iastore, 1) := by decide +kernel
theorem dX0_enter_81 : decode cX0_enter 81 = .ok (.aload_n 0, 1) := by decide +kernel
theorem dX0_enter_82 : decode cX0_enter 82 = .ok (.dup, 1) := by decide +kernel
theorem dX0_enter_83 : decode cX0_enter 83 = .ok (.getfield 33, 3) := by decide +kernel
theorem dX0_enter_86 : decode cX0_enter 86 = .ok (.iconst 1, 1) := by decide +kernel
theorem dX0_enter_87 : decode cX0_enter 87 = .ok (.iadd, 1) := by decide +kernel
theorem dX0_enter_88 : decode cX0_enter 88 = .ok (.putfield 33, 3) := by decide +kernel
theorem dX0_enter_91 : decode cX0_enter 91 = .ok (.return_, 1) := by decide +kernel
theorem dX0_enterDrawn_0 : decode cX0_enterDrawn 0 = .ok (.aload_n 0, 1) := by decide +kernel
theorem dX0_enterDrawn_1 : decode cX0_enterDrawn 1 = .ok (.invokevirtual 77, 3) := by decide +kernel
theorem dX0_enterDrawn_4 : decode cX0_enterDrawn 4 = .ok (.bipush 6, 2) := by decide +kernel
theorem dX0_enterDrawn_6 : decode cX0_enterDrawn 6 = .ok (.irem, 1) := by decide +kernel
theorem dX0_enterDrawn_7 : decode cX0_enterDrawn 7 = .ok (.istore_n 1, 1) := by decide +kernel
theorem dX0_enterDrawn_8 : decode cX0_enterDrawn 8 = .ok (.aload_n 0, 1) := by decide +kernel
theorem dX0_enterDrawn_9 : decode cX0_enterDrawn 9 = .ok (.invokevirtual 77, 3) := by decide +kernel
theorem dX0_enterDrawn_12 : decode cX0_enterDrawn 12 = .ok (.bipush 10, 2) := by decide +kernel
theorem dX0_enterDrawn_14 : decode cX0_enterDrawn 14 = .ok (.irem, 1) := by decide +kernel
theorem dX0_enterDrawn_15 : decode cX0_enterDrawn 15 = .ok (.istore_n 2, 1) := by decide +kernel
theorem dX0_enterDrawn_16 : decode cX0_enterDrawn 16 = .ok (.aload_n 0, 1) := by decide +kernel
theorem dX0_enterDrawn_17 : decode cX0_enterDrawn 17 = .ok (.invokevirtual 77, 3) := by decide +kernel
theorem dX0_enterDrawn_20 : decode cX0_enterDrawn 20 = .ok (.iconst 4, 1) := by decide +kernel
theorem dX0_enterDrawn_21 : decode cX0_enterDrawn 21 = .ok (.irem, 1) := by decide +kernel
theorem dX0_enterDrawn_22 : decode cX0_enterDrawn 22 = .ok (.istore_n 3, 1) := by decide +kernel
theorem dX0_enterDrawn_23 : decode cX0_enterDrawn 23 = .ok (.aload_n 0, 1) := by decide +kernel
theorem dX0_enterDrawn_24 : decode cX0_enterDrawn 24 = .ok (.invokevirtual 77, 3) := by decide +kernel
theorem dX0_enterDrawn_27 : decode cX0_enterDrawn 27 = .ok (.bipush 100, 2) := by decide +kernel
theorem dX0_enterDrawn_29 : decode cX0_enterDrawn 29 = .ok (.irem, 1) := by decide +kernel
theorem dX0_enterDrawn_30 : decode cX0_enterDrawn 30 = .ok (.istore 4, 2) := by decide +kernel
theorem dX0_enterDrawn_32 : decode cX0_enterDrawn 32 = .ok (.aload_n 0, 1) := by decide +kernel
theorem dX0_enterDrawn_33 : decode cX0_enterDrawn 33 = .ok (.iload_n 1, 1) := by decide +kernel
theorem dX0_enterDrawn_34 : decode cX0_enterDrawn 34 = .ok (.iload_n 2, 1) := by decide +kernel
theorem dX0_enterDrawn_35 : decode cX0_enterDrawn 35 = .ok (.iload_n 3, 1) := by decide +kernel
theorem dX0_enterDrawn_36 : decode cX0_enterDrawn 36 = .ok (.iload 4, 2) := by decide +kernel
theorem dX0_enterDrawn_38 : decode cX0_enterDrawn 38 = .ok (.invokevirtual 81, 3) := by decide +kernel
theorem dX0_enterDrawn_41 : decode cX0_enterDrawn 41 = .ok (.return_, 1) := by decide +kernel
theorem dX0_draw_0 : decode cX0_draw 0 = .ok (.aload_n 0, 1) := by decide +kernel
theorem dX0_draw_1 : decode cX0_draw 1 = .ok (.aload_n 0, 1) := by decide +kernel
theorem dX0_draw_2 : decode cX0_draw 2 = .ok (.getfield 58, 3) := by decide +kernel
theorem dX0_draw_5 : decode cX0_draw 5 = .ok (.ldc 85, 2) := by decide +kernel
theorem dX0_draw_7 : decode cX0_draw 7 = .ok (.imul, 1) := by decide +kernel
theorem dX0_draw_8 : decode cX0_draw 8 = .ok (.sipush 12345, 3) := by decide +kernel
theorem dX0_draw_11 : decode cX0_draw 11 = .ok (.iadd, 1) := by decide +kernel
theorem dX0_draw_12 : decode cX0_draw 12 = .ok (.putfield 58, 3) := by decide +kernel
theorem dX0_draw_15 : decode cX0_draw 15 = .ok (.aload_n 0, 1) := by decide +kernel
theorem dX0_draw_16 : decode cX0_draw 16 = .ok (.getfield 58, 3) := by decide +kernel
theorem dX0_draw_19 : decode cX0_draw 19 = .ok (.bipush 8, 2) := by decide +kernel
theorem dX0_draw_21 : decode cX0_draw 21 = .ok (.iushr, 1) := by decide +kernel
theorem dX0_draw_22 : decode cX0_draw 22 = .ok (.ireturn, 1) := by decide +kernel
theorem dX0_startOver_0 : decode cX0_startOver 0 = .ok (.aload_n 0, 1) := by decide +kernel
theorem dX0_startOver_1 : decode cX0_startOver 1 = .ok (.iconst (-1), 1) := by decide +kernel
theorem dX0_startOver_2 : decode cX0_startOver 2 = .ok (.putfield 49, 3) := by decide +kernel
theorem dX0_startOver_5 : decode cX0_startOver 5 = .ok (.aload_n 0, 1) := by decide +kernel
theorem dX0_startOver_6 : decode cX0_startOver 6 = .ok (.iconst 0, 1) := by decide +kernel
theorem dX0_startOver_7 : decode cX0_startOver 7 = .ok (.putfield 52, 3) := by decide +kernel
theorem dX0_startOver_10 : decode cX0_startOver 10 = .ok (.aload_n 0, 1) := by decide +kernel
theorem dX0_startOver_11 : decode cX0_startOver 11 = .ok (.iconst 3, 1) := by decide +kernel
theorem dX0_startOver_12 : decode cX0_startOver 12 = .ok (.putfield 61, 3) := by decide +kernel
theorem dX0_startOver_15 : decode cX0_startOver 15 = .ok (.aload_n 0, 1) := by decide +kernel
theorem dX0_startOver_16 : decode cX0_startOver 16 = .ok (.getfield 27, 3) := by decide +kernel
theorem dX0_startOver_19 : decode cX0_startOver 19 = .ok (.iconst (-1), 1) := by decide +kernel
theorem dX0_startOver_20 : decode cX0_startOver 20 = .ok (.invokestatic 86, 3) := by decide +kernel
theorem dX0_startOver_23 : decode cX0_startOver 23 = .ok (.aload_n 0, 1) := by decide +kernel
theorem dX0_startOver_24 : decode cX0_startOver 24 = .ok (.getfield 30, 3) := by decide +kernel
theorem dX0_startOver_27 : decode cX0_startOver 27 = .ok (.iconst 0, 1) := by decide +kernel
theorem dX0_startOver_28 : decode cX0_startOver 28 = .ok (.invokestatic 86, 3) := by decide +kernel
theorem dX0_startOver_31 : decode cX0_startOver 31 = .ok (.return_, 1) := by decide +kernel
theorem dX0_convince_0 : decode cX0_convince 0 = .ok (.iconst 0, 1) := by decide +kernel
theorem dX0_convince_1 : decode cX0_convince 1 = .ok (.istore_n 2, 1) := by decide +kernel
theorem dX0_convince_2 : decode cX0_convince 2 = .ok (.iload_n 2, 1) := by decide +kernel
theorem dX0_convince_3 : decode cX0_convince 3 = .ok (.aload_n 0, 1) := by decide +kernel
theorem dX0_convince_4 : decode cX0_convince 4 = .ok (.getfield 33, 3) := by decide +kernel
theorem dX0_convince_7 : decode cX0_convince 7 = .ok (.if_icmp .ge 27, 3) := by decide +kernel
theorem dX0_convince_10 : decode cX0_convince 10 = .ok (.aload_n 0, 1) := by decide +kernel
theorem dX0_convince_11 : decode cX0_convince 11 = .ok (.getfield 18, 3) := by decide +kernel
theorem dX0_convince_14 : decode cX0_convince 14 = .ok (.iload_n 2, 1) := by decide +kernel
theorem dX0_convince_15 : decode cX0_convince 15 = .ok (.iaload, 1) := by decide +kernel
theorem dX0_convince_16 : decode cX0_convince 16 = .ok (.iload_n 1, 1) := by decide +kernel
theorem dX0_convince_17 : decode cX0_convince 17 = .ok (.if_icmp .ne 11, 3) := by decide +kernel
theorem dX0_convince_20 : decode cX0_convince 20 = .ok (.aload_n 0, 1) := by decide +kernel
theorem dX0_convince_21 : decode cX0_convince 21 = .ok (.getfield 21, 3) := by decide +kernel
theorem dX0_convince_24 : decode cX0_convince 24 = .ok (.iload_n 2, 1) := by decide +kernel
theorem dX0_convince_25 : decode cX0_convince 25 = .ok (.bipush 99, 2) := by decide +kernel
theorem dX0_convince_27 : decode cX0_convince 27 = .ok (.iastore, 1) := by decide +kernel
theorem dX0_convince_28 : decode cX0_convince 28 = .ok (.iinc 2 1, 3) := by decide +kernel
theorem dX0_convince_31 : decode cX0_convince 31 = .ok (.goto (-29), 3) := by decide +kernel
theorem dX0_convince_34 : decode cX0_convince 34 = .ok (.return_, 1) := by decide +kernel
theorem dX0_go_0 : decode cX0_go 0 = .ok (.iconst 0, 1) := by decide +kernel
theorem dX0_go_1 : decode cX0_go 1 = .ok (.istore_n 2, 1) := by decide +kernel
theorem dX0_go_2 : decode cX0_go 2 = .ok (.iload_n 2, 1) := by decide +kernel
theorem dX0_go_3 : decode cX0_go 3 = .ok (.iload_n 1, 1) := by decide +kernel
theorem dX0_go_4 : decode cX0_go 4 = .ok (.if_icmp .ge 13, 3) := by decide +kernel
theorem dX0_go_7 : decode cX0_go 7 = .ok (.aload_n 0, 1) := by decide +kernel
theorem dX0_go_8 : decode cX0_go 8 = .ok (.invokevirtual 92, 3) := by decide +kernel
theorem dX0_go_11 : decode cX0_go 11 = .ok (.iinc 2 1, 3) := by decide +kernel
theorem dX0_go_14 : decode cX0_go 14 = .ok (.goto (-12), 3) := by decide +kernel
theorem dX0_go_17 : decode cX0_go 17 = .ok (.return_, 1) := by decide +kernel
theorem dX0_round_0 : decode cX0_round 0 = .ok (.aload_n 0, 1) := by decide +kernel
theorem dX0_round_1 : decode cX0_round 1 = .ok (.dup, 1) := by decide +kernel
theorem dX0_round_2 : decode cX0_round 2 = .ok (.getfield 55, 3) := by decide +kernel
theorem dX0_round_5 : decode cX0_round 5 = .ok (.iconst 1, 1) := by decide +kernel
theorem dX0_round_6 : decode cX0_round 6 = .ok (.iadd, 1) := by decide +kernel
theorem dX0_round_7 : decode cX0_round 7 = .ok (.putfield 55, 3) := by decide +kernel
theorem dX0_round_10 : decode cX0_round 10 = .ok (.aload_n 0, 1) := by decide +kernel
theorem dX0_round_11 : decode cX0_round 11 = .ok (.getfield 49, 3) := by decide +kernel
theorem dX0_round_14 : decode cX0_round 14 = .ok (.iconst (-1), 1) := by decide +kernel
theorem dX0_round_15 : decode cX0_round 15 = .ok (.if_icmp .ne 10, 3) := by decide +kernel
theorem dX0_round_18 : decode cX0_round 18 = .ok (.aload_n 0, 1) := by decide +kernel
theorem dX0_round_19 : decode cX0_round 19 = .ok (.getfield 33, 3) := by decide +kernel
theorem dX0_round_22 : decode cX0_round 22 = .ok (.ifCond .ne 4, 3) := by decide +kernel
theorem dX0_round_25 : decode cX0_round 25 = .ok (.return_, 1) := by decide +kernel
theorem dX0_round_26 : decode cX0_round 26 = .ok (.aload_n 0, 1) := by decide +kernel
theorem dX0_round_27 : decode cX0_round 27 = .ok (.invokevirtual 95, 3) := by decide +kernel
theorem dX0_round_30 : decode cX0_round 30 = .ok (.istore_n 1, 1) := by decide +kernel
theorem dX0_round_31 : decode cX0_round 31 = .ok (.aload_n 0, 1) := by decide +kernel
theorem dX0_round_32 : decode cX0_round 32 = .ok (.invokevirtual 98, 3) := by decide +kernel
theorem dX0_round_35 : decode cX0_round 35 = .ok (.istore_n 2, 1) := by decide +kernel
theorem dX0_round_36 : decode cX0_round 36 = .ok (.iconst 0, 1) := by decide +kernel
theorem dX0_round_37 : decode cX0_round 37 = .ok (.istore_n 3, 1) := by decide +kernel
theorem dX0_round_38 : decode cX0_round 38 = .ok (.iload_n 3, 1) := by decide +kernel
theorem dX0_round_39 : decode cX0_round 39 = .ok (.aload_n 0, 1) := by decide +kernel
theorem dX0_round_40 : decode cX0_round 40 = .ok (.getfield 33, 3) := by decide +kernel
theorem dX0_round_43 : decode cX0_round 43 = .ok (.if_icmp .ge 22, 3) := by decide +kernel
theorem dX0_round_46 : decode cX0_round 46 = .ok (.aload_n 0, 1) := by decide +kernel
theorem dX0_round_47 : decode cX0_round 47 = .ok (.getfield 27, 3) := by decide +kernel
theorem dX0_round_50 : decode cX0_round 50 = .ok (.iload_n 3, 1) := by decide +kernel
theorem dX0_round_51 : decode cX0_round 51 = .ok (.aload_n 0, 1) := by decide +kernel
theorem dX0_round_52 : decode cX0_round 52 = .ok (.iload_n 3, 1) := by decide +kernel
theorem dX0_round_53 : decode cX0_round 53 = .ok (.iload_n 1, 1) := by decide +kernel
theorem dX0_round_54 : decode cX0_round 54 = .ok (.iload_n 2, 1) := by decide +kernel
theorem dX0_round_55 : decode cX0_round 55 = .ok (.invokevirtual 101, 3) := by decide +kernel
theorem dX0_round_58 : decode cX0_round 58 = .ok (.iastore, 1) := by decide +kernel
theorem dX0_round_59 : decode cX0_round 59 = .ok (.iinc 3 1, 3) := by decide +kernel
theorem dX0_round_62 : decode cX0_round 62 = .ok (.goto (-24), 3) := by decide +kernel
theorem dX0_round_65 : decode cX0_round 65 = .ok (.aload_n 0, 1) := by decide +kernel
theorem dX0_round_66 : decode cX0_round 66 = .ok (.dup, 1) := by decide +kernel
theorem dX0_round_67 : decode cX0_round 67 = .ok (.getfield 52, 3) := by decide +kernel
theorem dX0_round_70 : decode cX0_round 70 = .ok (.iconst 1, 1) := by decide +kernel
theorem dX0_round_71 : decode cX0_round 71 = .ok (.iadd, 1) := by decide +kernel
theorem dX0_round_72 : decode cX0_round 72 = .ok (.putfield 52, 3) := by decide +kernel
theorem dX0_round_75 : decode cX0_round 75 = .ok (.aload_n 0, 1) := by decide +kernel
theorem dX0_round_76 : decode cX0_round 76 = .ok (.invokevirtual 105, 3) := by decide +kernel
theorem dX0_round_79 : decode cX0_round 79 = .ok (.aload_n 0, 1) := by decide +kernel
theorem dX0_round_80 : decode cX0_round 80 = .ok (.aload_n 0, 1) := by decide +kernel
theorem dX0_round_81 : decode cX0_round 81 = .ok (.invokevirtual 108, 3) := by decide +kernel
theorem dX0_round_84 : decode cX0_round 84 = .ok (.putfield 49, 3) := by decide +kernel
theorem dX0_round_87 : decode cX0_round 87 = .ok (.aload_n 0, 1) := by decide +kernel
theorem dX0_round_88 : decode cX0_round 88 = .ok (.aload_n 0, 1) := by decide +kernel
theorem dX0_round_89 : decode cX0_round 89 = .ok (.invokevirtual 111, 3) := by decide +kernel
theorem dX0_round_92 : decode cX0_round 92 = .ok (.putfield 61, 3) := by decide +kernel
theorem dX0_round_95 : decode cX0_round 95 = .ok (.aload_n 0, 1) := by decide +kernel
theorem dX0_round_96 : decode cX0_round 96 = .ok (.aload_n 0, 1) := by decide +kernel
theorem dX0_round_97 : decode cX0_round 97 = .ok (.invokevirtual 77, 3) := by decide +kernel
theorem dX0_round_100 : decode cX0_round 100 = .ok (.iconst 4, 1) := by decide +kernel
theorem dX0_round_101 : decode cX0_round 101 = .ok (.irem, 1) := by decide +kernel
theorem dX0_round_102 : decode cX0_round 102 = .ok (.putfield 46, 3) := by decide +kernel
theorem dX0_round_105 : decode cX0_round 105 = .ok (.aload_n 0, 1) := by decide +kernel
theorem dX0_round_106 : decode cX0_round 106 = .ok (.invokevirtual 114, 3) := by decide +kernel
theorem dX0_round_109 : decode cX0_round 109 = .ok (.return_, 1) := by decide +kernel
theorem dX0_tally_0 : decode cX0_tally 0 = .ok (.aload_n 0, 1) := by decide +kernel
theorem dX0_tally_1 : decode cX0_tally 1 = .ok (.getfield 30, 3) := by decide +kernel
theorem dX0_tally_4 : decode cX0_tally 4 = .ok (.iconst 0, 1) := by decide +kernel
theorem dX0_tally_5 : decode cX0_tally 5 = .ok (.invokestatic 86, 3) := by decide +kernel
theorem dX0_tally_8 : decode cX0_tally 8 = .ok (.iconst 0, 1) := by decide +kernel
theorem dX0_tally_9 : decode cX0_tally 9 = .ok (.istore_n 1, 1) := by decide +kernel
theorem dX0_tally_10 : decode cX0_tally 10 = .ok (.iload_n 1, 1) := by decide +kernel
theorem dX0_tally_11 : decode cX0_tally 11 = .ok (.aload_n 0, 1) := by decide +kernel
theorem dX0_tally_12 : decode cX0_tally 12 = .ok (.getfield 33, 3) := by decide +kernel
theorem dX0_tally_15 : decode cX0_tally 15 = .ok (.if_icmp .ge 45, 3) := by decide +kernel
theorem dX0_tally_18 : decode cX0_tally 18 = .ok (.aload_n 0, 1) := by decide +kernel
theorem dX0_tally_19 : decode cX0_tally 19 = .ok (.aload_n 0, 1) := by decide +kernel
theorem dX0_tally_20 : decode cX0_tally 20 = .ok (.getfield 27, 3) := by decide +kernel
theorem dX0_tally_23 : decode cX0_tally 23 = .ok (.iload_n 1, 1) := by decide +kernel
theorem dX0_tally_24 : decode cX0_tally 24 = .ok (.iaload, 1) := by decide +kernel
theorem dX0_tally_25 : decode cX0_tally 25 = .ok (.invokevirtual 117, 3) := by decide +kernel
theorem dX0_tally_28 : decode cX0_tally 28 = .ok (.ifCond .eq 26, 3) := by decide +kernel
theorem dX0_tally_31 : decode cX0_tally 31 = .ok (.aload_n 0, 1) := by decide +kernel
theorem dX0_tally_32 : decode cX0_tally 32 = .ok (.getfield 30, 3) := by decide +kernel
theorem dX0_tally_35 : decode cX0_tally 35 = .ok (.aload_n 0, 1) := by decide +kernel
theorem dX0_tally_36 : decode cX0_tally 36 = .ok (.getfield 27, 3) := by decide +kernel
theorem dX0_tally_39 : decode cX0_tally 39 = .ok (.iload_n 1, 1) := by decide +kernel
theorem dX0_tally_40 : decode cX0_tally 40 = .ok (.iaload, 1) := by decide +kernel
theorem dX0_tally_41 : decode cX0_tally 41 = .ok (.dup2, 1) := by decide +kernel
theorem dX0_tally_42 : decode cX0_tally 42 = .ok (.iaload, 1) := by decide +kernel
theorem dX0_tally_43 : decode cX0_tally 43 = .ok (.aload_n 0, 1) := by decide +kernel
theorem dX0_tally_44 : decode cX0_tally 44 = .ok (.getfield 9, 3) := by decide +kernel
theorem dX0_tally_47 : decode cX0_tally 47 = .ok (.iload_n 1, 1) := by decide +kernel
theorem dX0_tally_48 : decode cX0_tally 48 = .ok (.iaload, 1) := by decide +kernel
theorem dX0_tally_49 : decode cX0_tally 49 = .ok (.invokestatic 121, 3) := by decide +kernel
theorem dX0_tally_52 : decode cX0_tally 52 = .ok (.iadd, 1) := by decide +kernel
theorem dX0_tally_53 : decode cX0_tally 53 = .ok (.iastore, 1) := by decide +kernel
theorem dX0_tally_54 : decode cX0_tally 54 = .ok (.iinc 1 1, 3) := by decide +kernel
theorem dX0_tally_57 : decode cX0_tally 57 = .ok (.goto (-47), 3) := by decide +kernel
theorem dX0_tally_60 : decode cX0_tally 60 = .ok (.return_, 1) := by decide +kernel
theorem dX0_elected_0 : decode cX0_elected 0 = .ok (.aload_n 0, 1) := by decide +kernel
theorem dX0_elected_1 : decode cX0_elected 1 = .ok (.invokevirtual 125, 3) := by decide +kernel
theorem dX0_elected_4 : decode cX0_elected 4 = .ok (.istore_n 1, 1) := by decide +kernel
theorem dX0_elected_5 : decode cX0_elected 5 = .ok (.iconst 0, 1) := by decide +kernel
theorem dX0_elected_6 : decode cX0_elected 6 = .ok (.istore_n 2, 1) := by decide +kernel
theorem dX0_elected_7 : decode cX0_elected 7 = .ok (.iload_n 2, 1) := by decide +kernel
theorem dX0_elected_8 : decode cX0_elected 8 = .ok (.aload_n 0, 1) := by decide +kernel
theorem dX0_elected_9 : decode cX0_elected 9 = .ok (.getfield 33, 3) := by decide +kernel
theorem dX0_elected_12 : decode cX0_elected 12 = .ok (.if_icmp .ge 21, 3) := by decide +kernel
theorem dX0_elected_15 : decode cX0_elected 15 = .ok (.aload_n 0, 1) := by decide +kernel
theorem dX0_elected_16 : decode cX0_elected 16 = .ok (.getfield 30, 3) := by decide +kernel
theorem dX0_elected_19 : decode cX0_elected 19 = .ok (.iload_n 2, 1) := by decide +kernel
theorem dX0_elected_20 : decode cX0_elected 20 = .ok (.iaload, 1) := by decide +kernel
theorem dX0_elected_21 : decode cX0_elected 21 = .ok (.iload_n 1, 1) := by decide +kernel
theorem dX0_elected_22 : decode cX0_elected 22 = .ok (.if_icmp .lt 5, 3) := by decide +kernel
theorem dX0_elected_25 : decode cX0_elected 25 = .ok (.iload_n 2, 1) := by decide +kernel
theorem dX0_elected_26 : decode cX0_elected 26 = .ok (.ireturn, 1) := by decide +kernel
theorem dX0_elected_27 : decode cX0_elected 27 = .ok (.iinc 2 1, 3) := by decide +kernel
theorem dX0_elected_30 : decode cX0_elected 30 = .ok (.goto (-23), 3) := by decide +kernel
theorem dX0_elected_33 : decode cX0_elected 33 = .ok (.iconst (-1), 1) := by decide +kernel
theorem dX0_elected_34 : decode cX0_elected 34 = .ok (.ireturn, 1) := by decide +kernel
theorem dX0_wanted_0 : decode cX0_wanted 0 = .ok (.iconst 0, 1) := by decide +kernel
theorem dX0_wanted_1 : decode cX0_wanted 1 = .ok (.istore_n 1, 1) := by decide +kernel
theorem dX0_wanted_2 : decode cX0_wanted 2 = .ok (.iconst 0, 1) := by decide +kernel
theorem dX0_wanted_3 : decode cX0_wanted 3 = .ok (.istore_n 2, 1) := by decide +kernel
theorem dX0_wanted_4 : decode cX0_wanted 4 = .ok (.iload_n 2, 1) := by decide +kernel
theorem dX0_wanted_5 : decode cX0_wanted 5 = .ok (.aload_n 0, 1) := by decide +kernel
theorem dX0_wanted_6 : decode cX0_wanted 6 = .ok (.getfield 33, 3) := by decide +kernel
theorem dX0_wanted_9 : decode cX0_wanted 9 = .ok (.if_icmp .ge 21, 3) := by decide +kernel
theorem dX0_wanted_12 : decode cX0_wanted 12 = .ok (.iload_n 1, 1) := by decide +kernel
theorem dX0_wanted_13 : decode cX0_wanted 13 = .ok (.aload_n 0, 1) := by decide +kernel
theorem dX0_wanted_14 : decode cX0_wanted 14 = .ok (.getfield 9, 3) := by decide +kernel
theorem dX0_wanted_17 : decode cX0_wanted 17 = .ok (.iload_n 2, 1) := by decide +kernel
theorem dX0_wanted_18 : decode cX0_wanted 18 = .ok (.iaload, 1) := by decide +kernel
theorem dX0_wanted_19 : decode cX0_wanted 19 = .ok (.invokestatic 121, 3) := by decide +kernel
theorem dX0_wanted_22 : decode cX0_wanted 22 = .ok (.iadd, 1) := by decide +kernel
theorem dX0_wanted_23 : decode cX0_wanted 23 = .ok (.istore_n 1, 1) := by decide +kernel
theorem dX0_wanted_24 : decode cX0_wanted 24 = .ok (.iinc 2 1, 3) := by decide +kernel
theorem dX0_wanted_27 : decode cX0_wanted 27 = .ok (.goto (-23), 3) := by decide +kernel
theorem dX0_wanted_30 : decode cX0_wanted 30 = .ok (.iconst 2, 1) := by decide +kernel
theorem dX0_wanted_31 : decode cX0_wanted 31 = .ok (.iload_n 1, 1) := by decide +kernel
theorem dX0_wanted_32 : decode cX0_wanted 32 = .ok (.imul, 1) := by decide +kernel
theorem dX0_wanted_33 : decode cX0_wanted 33 = .ok (.iconst 2, 1) := by decide +kernel
theorem dX0_wanted_34 : decode cX0_wanted 34 = .ok (.iadd, 1) := by decide +kernel
theorem dX0_wanted_35 : decode cX0_wanted 35 = .ok (.iconst 3, 1) := by decide +kernel
theorem dX0_wanted_36 : decode cX0_wanted 36 = .ok (.idiv, 1) := by decide +kernel
theorem dX0_wanted_37 : decode cX0_wanted 37 = .ok (.ireturn, 1) := by decide +kernel
theorem dX0_smokeNow_0 : decode cX0_smokeNow 0 = .ok (.aload_n 0, 1) := by decide +kernel
theorem dX0_smokeNow_1 : decode cX0_smokeNow 1 = .ok (.getfield 49, 3) := by decide +kernel
theorem dX0_smokeNow_4 : decode cX0_smokeNow 4 = .ok (.iconst (-1), 1) := by decide +kernel
theorem dX0_smokeNow_5 : decode cX0_smokeNow 5 = .ok (.if_icmp .eq 5, 3) := by decide +kernel
theorem dX0_smokeNow_8 : decode cX0_smokeNow 8 = .ok (.iconst 0, 1) := by decide +kernel
theorem dX0_smokeNow_9 : decode cX0_smokeNow 9 = .ok (.ireturn, 1) := by decide +kernel
theorem dX0_smokeNow_10 : decode cX0_smokeNow 10 = .ok (.aload_n 0, 1) := by decide +kernel
theorem dX0_smokeNow_11 : decode cX0_smokeNow 11 = .ok (.getfield 37, 3) := by decide +kernel
theorem dX0_smokeNow_14 : decode cX0_smokeNow 14 = .ok (.aload_n 0, 1) := by decide +kernel
theorem dX0_smokeNow_15 : decode cX0_smokeNow 15 = .ok (.getfield 40, 3) := by decide +kernel
theorem dX0_smokeNow_18 : decode cX0_smokeNow 18 = .ok (.bipush 10, 2) := by decide +kernel
theorem dX0_smokeNow_20 : decode cX0_smokeNow 20 = .ok (.idiv, 1) := by decide +kernel
theorem dX0_smokeNow_21 : decode cX0_smokeNow 21 = .ok (.isub, 1) := by decide +kernel
theorem dX0_smokeNow_22 : decode cX0_smokeNow 22 = .ok (.istore_n 1, 1) := by decide +kernel
theorem dX0_smokeNow_23 : decode cX0_smokeNow 23 = .ok (.iconst 0, 1) := by decide +kernel
theorem dX0_smokeNow_24 : decode cX0_smokeNow 24 = .ok (.istore_n 2, 1) := by decide +kernel
theorem dX0_smokeNow_25 : decode cX0_smokeNow 25 = .ok (.iload_n 2, 1) := by decide +kernel
theorem dX0_smokeNow_26 : decode cX0_smokeNow 26 = .ok (.aload_n 0, 1) := by decide +kernel
theorem dX0_smokeNow_27 : decode cX0_smokeNow 27 = .ok (.getfield 33, 3) := by decide +kernel
theorem dX0_smokeNow_30 : decode cX0_smokeNow 30 = .ok (.if_icmp .ge 28, 3) := by decide +kernel
theorem dX0_smokeNow_33 : decode cX0_smokeNow 33 = .ok (.aload_n 0, 1) := by decide +kernel
theorem dX0_smokeNow_34 : decode cX0_smokeNow 34 = .ok (.getfield 27, 3) := by decide +kernel
theorem dX0_smokeNow_37 : decode cX0_smokeNow 37 = .ok (.iload_n 2, 1) := by decide +kernel
theorem dX0_smokeNow_38 : decode cX0_smokeNow 38 = .ok (.iaload, 1) := by decide +kernel
theorem dX0_smokeNow_39 : decode cX0_smokeNow 39 = .ok (.iconst (-1), 1) := by decide +kernel
theorem dX0_smokeNow_40 : decode cX0_smokeNow 40 = .ok (.if_icmp .eq 12, 3) := by decide +kernel
theorem dX0_smokeNow_43 : decode cX0_smokeNow 43 = .ok (.iload_n 1, 1) := by decide +kernel
theorem dX0_smokeNow_44 : decode cX0_smokeNow 44 = .ok (.aload_n 0, 1) := by decide +kernel
theorem dX0_smokeNow_45 : decode cX0_smokeNow 45 = .ok (.getfield 24, 3) := by decide +kernel
theorem dX0_smokeNow_48 : decode cX0_smokeNow 48 = .ok (.iload_n 2, 1) := by decide +kernel
theorem dX0_smokeNow_49 : decode cX0_smokeNow 49 = .ok (.iaload, 1) := by decide +kernel
theorem dX0_smokeNow_50 : decode cX0_smokeNow 50 = .ok (.iadd, 1) := by decide +kernel
theorem dX0_smokeNow_51 : decode cX0_smokeNow 51 = .ok (.istore_n 1, 1) := by decide +kernel
theorem dX0_smokeNow_52 : decode cX0_smokeNow 52 = .ok (.iinc 2 1, 3) := by decide +kernel
theorem dX0_smokeNow_55 : decode cX0_smokeNow 55 = .ok (.goto (-30), 3) := by decide +kernel
theorem dX0_smokeNow_58 : decode cX0_smokeNow 58 = .ok (.iload_n 1, 1) := by decide +kernel
theorem dX0_smokeNow_59 : decode cX0_smokeNow 59 = .ok (.bipush 10, 2) := by decide +kernel
theorem dX0_smokeNow_61 : decode cX0_smokeNow 61 = .ok (.if_icmp .ge 5, 3) := by decide +kernel
theorem dX0_smokeNow_64 : decode cX0_smokeNow 64 = .ok (.iconst 1, 1) := by decide +kernel
theorem dX0_smokeNow_65 : decode cX0_smokeNow 65 = .ok (.ireturn, 1) := by decide +kernel
theorem dX0_smokeNow_66 : decode cX0_smokeNow 66 = .ok (.iload_n 1, 1) := by decide +kernel
theorem dX0_smokeNow_67 : decode cX0_smokeNow 67 = .ok (.bipush 25, 2) := by decide +kernel
theorem dX0_smokeNow_69 : decode cX0_smokeNow 69 = .ok (.if_icmp .ge 7, 3) := by decide +kernel
theorem dX0_smokeNow_72 : decode cX0_smokeNow 72 = .ok (.iconst 2, 1) := by decide +kernel
theorem dX0_smokeNow_73 : decode cX0_smokeNow 73 = .ok (.goto 4, 3) := by decide +kernel
theorem dX0_smokeNow_76 : decode cX0_smokeNow 76 = .ok (.iconst 3, 1) := by decide +kernel
theorem dX0_smokeNow_77 : decode cX0_smokeNow 77 = .ok (.ireturn, 1) := by decide +kernel
theorem dX0_wetPapers_0 : decode cX0_wetPapers 0 = .ok (.iconst 0, 1) := by decide +kernel
theorem dX0_wetPapers_1 : decode cX0_wetPapers 1 = .ok (.istore_n 1, 1) := by decide +kernel
theorem dX0_wetPapers_2 : decode cX0_wetPapers 2 = .ok (.iload_n 1, 1) := by decide +kernel
theorem dX0_wetPapers_3 : decode cX0_wetPapers 3 = .ok (.aload_n 0, 1) := by decide +kernel
theorem dX0_wetPapers_4 : decode cX0_wetPapers 4 = .ok (.getfield 33, 3) := by decide +kernel
theorem dX0_wetPapers_7 : decode cX0_wetPapers 7 = .ok (.if_icmp .ge 32, 3) := by decide +kernel
theorem dX0_wetPapers_10 : decode cX0_wetPapers 10 = .ok (.aload_n 0, 1) := by decide +kernel
theorem dX0_wetPapers_11 : decode cX0_wetPapers 11 = .ok (.getfield 27, 3) := by decide +kernel
theorem dX0_wetPapers_14 : decode cX0_wetPapers 14 = .ok (.iload_n 1, 1) := by decide +kernel
theorem dX0_wetPapers_15 : decode cX0_wetPapers 15 = .ok (.iaload, 1) := by decide +kernel
theorem dX0_wetPapers_16 : decode cX0_wetPapers 16 = .ok (.iconst (-1), 1) := by decide +kernel
theorem dX0_wetPapers_17 : decode cX0_wetPapers 17 = .ok (.if_icmp .eq 16, 3) := by decide +kernel
theorem dX0_wetPapers_20 : decode cX0_wetPapers 20 = .ok (.aload_n 0, 1) := by decide +kernel
theorem dX0_wetPapers_21 : decode cX0_wetPapers 21 = .ok (.getfield 24, 3) := by decide +kernel
theorem dX0_wetPapers_24 : decode cX0_wetPapers 24 = .ok (.iload_n 1, 1) := by decide +kernel
theorem dX0_wetPapers_25 : decode cX0_wetPapers 25 = .ok (.aload_n 0, 1) := by decide +kernel
theorem dX0_wetPapers_26 : decode cX0_wetPapers 26 = .ok (.invokevirtual 77, 3) := by decide +kernel
theorem dX0_wetPapers_29 : decode cX0_wetPapers 29 = .ok (.bipush 10, 2) := by decide +kernel
theorem dX0_wetPapers_31 : decode cX0_wetPapers 31 = .ok (.irem, 1) := by decide +kernel
theorem dX0_wetPapers_32 : decode cX0_wetPapers 32 = .ok (.iastore, 1) := by decide +kernel
theorem dX0_wetPapers_33 : decode cX0_wetPapers 33 = .ok (.iinc 1 1, 3) := by decide +kernel
theorem dX0_wetPapers_36 : decode cX0_wetPapers 36 = .ok (.goto (-34), 3) := by decide +kernel
theorem dX0_wetPapers_39 : decode cX0_wetPapers 39 = .ok (.return_, 1) := by decide +kernel
theorem dX0_leader_0 : decode cX0_leader 0 = .ok (.aload_n 0, 1) := by decide +kernel
theorem dX0_leader_1 : decode cX0_leader 1 = .ok (.iconst 1, 1) := by decide +kernel
theorem dX0_leader_2 : decode cX0_leader 2 = .ok (.aload_n 0, 1) := by decide +kernel
theorem dX0_leader_3 : decode cX0_leader 3 = .ok (.getfield 33, 3) := by decide +kernel
theorem dX0_leader_6 : decode cX0_leader 6 = .ok (.ishl, 1) := by decide +kernel
theorem dX0_leader_7 : decode cX0_leader 7 = .ok (.iconst 1, 1) := by decide +kernel
theorem dX0_leader_8 : decode cX0_leader 8 = .ok (.isub, 1) := by decide +kernel
theorem dX0_leader_9 : decode cX0_leader 9 = .ok (.invokevirtual 128, 3) := by decide +kernel
theorem dX0_leader_12 : decode cX0_leader 12 = .ok (.ireturn, 1) := by decide +kernel
theorem dX0_mostVotes_0 : decode cX0_mostVotes 0 = .ok (.aload_n 0, 1) := by decide +kernel
theorem dX0_mostVotes_1 : decode cX0_mostVotes 1 = .ok (.invokevirtual 98, 3) := by decide +kernel
theorem dX0_mostVotes_4 : decode cX0_mostVotes 4 = .ok (.istore_n 1, 1) := by decide +kernel
theorem dX0_mostVotes_5 : decode cX0_mostVotes 5 = .ok (.aload_n 0, 1) := by decide +kernel
theorem dX0_mostVotes_6 : decode cX0_mostVotes 6 = .ok (.iload_n 1, 1) := by decide +kernel
theorem dX0_mostVotes_7 : decode cX0_mostVotes 7 = .ok (.invokevirtual 117, 3) := by decide +kernel
theorem dX0_mostVotes_10 : decode cX0_mostVotes 10 = .ok (.ifCond .eq 12, 3) := by decide +kernel
theorem dX0_mostVotes_13 : decode cX0_mostVotes 13 = .ok (.aload_n 0, 1) := by decide +kernel
theorem dX0_mostVotes_14 : decode cX0_mostVotes 14 = .ok (.getfield 30, 3) := by decide +kernel
theorem dX0_mostVotes_17 : decode cX0_mostVotes 17 = .ok (.iload_n 1, 1) := by decide +kernel
theorem dX0_mostVotes_18 : decode cX0_mostVotes 18 = .ok (.iaload, 1) := by decide +kernel
theorem dX0_mostVotes_19 : decode cX0_mostVotes 19 = .ok (.goto 4, 3) := by decide +kernel
theorem dX0_mostVotes_22 : decode cX0_mostVotes 22 = .ok (.iconst 0, 1) := by decide +kernel
theorem dX0_mostVotes_23 : decode cX0_mostVotes 23 = .ok (.ireturn, 1) := by decide +kernel
theorem dX0_runners_0 : decode cX0_runners 0 = .ok (.iconst 1, 1) := by decide +kernel
theorem dX0_runners_1 : decode cX0_runners 1 = .ok (.aload_n 0, 1) := by decide +kernel
theorem dX0_runners_2 : decode cX0_runners 2 = .ok (.getfield 33, 3) := by decide +kernel
theorem dX0_runners_5 : decode cX0_runners 5 = .ok (.ishl, 1) := by decide +kernel
theorem dX0_runners_6 : decode cX0_runners 6 = .ok (.iconst 1, 1) := by decide +kernel
theorem dX0_runners_7 : decode cX0_runners 7 = .ok (.isub, 1) := by decide +kernel
theorem dX0_runners_8 : decode cX0_runners 8 = .ok (.istore_n 1, 1) := by decide +kernel
theorem dX0_runners_9 : decode cX0_runners 9 = .ok (.aload_n 0, 1) := by decide +kernel
theorem dX0_runners_10 : decode cX0_runners 10 = .ok (.iload_n 1, 1) := by decide +kernel
theorem dX0_runners_11 : decode cX0_runners 11 = .ok (.invokevirtual 128, 3) := by decide +kernel
theorem dX0_runners_14 : decode cX0_runners 14 = .ok (.istore_n 2, 1) := by decide +kernel
theorem dX0_runners_15 : decode cX0_runners 15 = .ok (.aload_n 0, 1) := by decide +kernel
theorem dX0_runners_16 : decode cX0_runners 16 = .ok (.getfield 52, 3) := by decide +kernel
theorem dX0_runners_19 : decode cX0_runners 19 = .ok (.aload_n 0, 1) := by decide +kernel
theorem dX0_runners_20 : decode cX0_runners 20 = .ok (.getfield 43, 3) := by decide +kernel
theorem dX0_runners_23 : decode cX0_runners 23 = .ok (.if_icmp .lt 20, 3) := by decide +kernel
theorem dX0_runners_26 : decode cX0_runners 26 = .ok (.aload_n 0, 1) := by decide +kernel
theorem dX0_runners_27 : decode cX0_runners 27 = .ok (.iload_n 2, 1) := by decide +kernel
theorem dX0_runners_28 : decode cX0_runners 28 = .ok (.invokevirtual 117, 3) := by decide +kernel
theorem dX0_runners_31 : decode cX0_runners 31 = .ok (.ifCond .eq 12, 3) := by decide +kernel
theorem dX0_runners_34 : decode cX0_runners 34 = .ok (.aload_n 0, 1) := by decide +kernel
theorem dX0_runners_35 : decode cX0_runners 35 = .ok (.getfield 30, 3) := by decide +kernel
theorem dX0_runners_38 : decode cX0_runners 38 = .ok (.iload_n 2, 1) := by decide +kernel
theorem dX0_runners_39 : decode cX0_runners 39 = .ok (.iaload, 1) := by decide +kernel
theorem dX0_runners_40 : decode cX0_runners 40 = .ok (.ifCond .ne 5, 3) := by decide +kernel
theorem dX0_runners_43 : decode cX0_runners 43 = .ok (.iload_n 1, 1) := by decide +kernel
theorem dX0_runners_44 : decode cX0_runners 44 = .ok (.ireturn, 1) := by decide +kernel
theorem dX0_runners_45 : decode cX0_runners 45 = .ok (.aload_n 0, 1) := by decide +kernel
theorem dX0_runners_46 : decode cX0_runners 46 = .ok (.iload_n 1, 1) := by decide +kernel
theorem dX0_runners_47 : decode cX0_runners 47 = .ok (.iconst 1, 1) := by decide +kernel
theorem dX0_runners_48 : decode cX0_runners 48 = .ok (.iload_n 2, 1) := by decide +kernel
theorem dX0_runners_49 : decode cX0_runners 49 = .ok (.ishl, 1) := by decide +kernel
theorem dX0_runners_50 : decode cX0_runners 50 = .ok (.iconst (-1), 1) := by decide +kernel
theorem dX0_runners_51 : decode cX0_runners 51 = .ok (.ixor, 1) := by decide +kernel
theorem dX0_runners_52 : decode cX0_runners 52 = .ok (.iand, 1) := by decide +kernel
theorem dX0_runners_53 : decode cX0_runners 53 = .ok (.invokevirtual 128, 3) := by decide +kernel
theorem dX0_runners_56 : decode cX0_runners 56 = .ok (.istore_n 3, 1) := by decide +kernel
theorem dX0_runners_57 : decode cX0_runners 57 = .ok (.aload_n 0, 1) := by decide +kernel
theorem dX0_runners_58 : decode cX0_runners 58 = .ok (.iload_n 3, 1) := by decide +kernel
theorem dX0_runners_59 : decode cX0_runners 59 = .ok (.invokevirtual 117, 3) := by decide +kernel
theorem dX0_runners_62 : decode cX0_runners 62 = .ok (.ifCond .eq 12, 3) := by decide +kernel
theorem dX0_runners_65 : decode cX0_runners 65 = .ok (.aload_n 0, 1) := by decide +kernel
theorem dX0_runners_66 : decode cX0_runners 66 = .ok (.getfield 30, 3) := by decide +kernel
theorem dX0_runners_69 : decode cX0_runners 69 = .ok (.iload_n 3, 1) := by decide +kernel
theorem dX0_runners_70 : decode cX0_runners 70 = .ok (.iaload, 1) := by decide +kernel
theorem dX0_runners_71 : decode cX0_runners 71 = .ok (.ifCond .ne 7, 3) := by decide +kernel
theorem dX0_runners_74 : decode cX0_runners 74 = .ok (.iconst 1, 1) := by decide +kernel
theorem dX0_runners_75 : decode cX0_runners 75 = .ok (.iload_n 2, 1) := by decide +kernel
theorem dX0_runners_76 : decode cX0_runners 76 = .ok (.ishl, 1) := by decide +kernel
theorem dX0_runners_77 : decode cX0_runners 77 = .ok (.ireturn, 1) := by decide +kernel
theorem dX0_runners_78 : decode cX0_runners 78 = .ok (.iconst 1, 1) := by decide +kernel
theorem dX0_runners_79 : decode cX0_runners 79 = .ok (.iload_n 2, 1) := by decide +kernel
theorem dX0_runners_80 : decode cX0_runners 80 = .ok (.ishl, 1) := by decide +kernel
theorem dX0_runners_81 : decode cX0_runners 81 = .ok (.iconst 1, 1) := by decide +kernel
theorem dX0_runners_82 : decode cX0_runners 82 = .ok (.iload_n 3, 1) := by decide +kernel
theorem dX0_runners_83 : decode cX0_runners 83 = .ok (.ishl, 1) := by decide +kernel
theorem dX0_runners_84 : decode cX0_runners 84 = .ok (.ior, 1) := by decide +kernel
theorem dX0_runners_85 : decode cX0_runners 85 = .ok (.ireturn, 1) := by decide +kernel
theorem dX0_mostAmong_0 : decode cX0_mostAmong 0 = .ok (.iconst (-1), 1) := by decide +kernel
theorem dX0_mostAmong_1 : decode cX0_mostAmong 1 = .ok (.istore_n 2, 1) := by decide +kernel
theorem dX0_mostAmong_2 : decode cX0_mostAmong 2 = .ok (.iconst (-1), 1) := by decide +kernel
theorem dX0_mostAmong_3 : decode cX0_mostAmong 3 = .ok (.istore_n 3, 1) := by decide +kernel
theorem dX0_mostAmong_4 : decode cX0_mostAmong 4 = .ok (.iconst 0, 1) := by decide +kernel
theorem dX0_mostAmong_5 : decode cX0_mostAmong 5 = .ok (.istore 4, 2) := by decide +kernel
theorem dX0_mostAmong_7 : decode cX0_mostAmong 7 = .ok (.iload 4, 2) := by decide +kernel
theorem dX0_mostAmong_9 : decode cX0_mostAmong 9 = .ok (.aload_n 0, 1) := by decide +kernel
theorem dX0_mostAmong_10 : decode cX0_mostAmong 10 = .ok (.getfield 33, 3) := by decide +kernel
theorem dX0_mostAmong_13 : decode cX0_mostAmong 13 = .ok (.if_icmp .ge 41, 3) := by decide +kernel
theorem dX0_mostAmong_16 : decode cX0_mostAmong 16 = .ok (.iload_n 1, 1) := by decide +kernel
theorem dX0_mostAmong_17 : decode cX0_mostAmong 17 = .ok (.iload 4, 2) := by decide +kernel
theorem dX0_mostAmong_19 : decode cX0_mostAmong 19 = .ok (.ishr, 1) := by decide +kernel
theorem dX0_mostAmong_20 : decode cX0_mostAmong 20 = .ok (.iconst 1, 1) := by decide +kernel
theorem dX0_mostAmong_21 : decode cX0_mostAmong 21 = .ok (.iand, 1) := by decide +kernel
theorem dX0_mostAmong_22 : decode cX0_mostAmong 22 = .ok (.iconst 1, 1) := by decide +kernel
theorem dX0_mostAmong_23 : decode cX0_mostAmong 23 = .ok (.if_icmp .ne 25, 3) := by decide +kernel
theorem dX0_mostAmong_26 : decode cX0_mostAmong 26 = .ok (.aload_n 0, 1) := by decide +kernel
theorem dX0_mostAmong_27 : decode cX0_mostAmong 27 = .ok (.getfield 30, 3) := by decide +kernel
theorem dX0_mostAmong_30 : decode cX0_mostAmong 30 = .ok (.iload 4, 2) := by decide +kernel
theorem dX0_mostAmong_32 : decode cX0_mostAmong 32 = .ok (.iaload, 1) := by decide +kernel
theorem dX0_mostAmong_33 : decode cX0_mostAmong 33 = .ok (.iload_n 3, 1) := by decide +kernel
theorem dX0_mostAmong_34 : decode cX0_mostAmong 34 = .ok (.if_icmp .le 14, 3) := by decide +kernel
theorem dX0_mostAmong_37 : decode cX0_mostAmong 37 = .ok (.iload 4, 2) := by decide +kernel
theorem dX0_mostAmong_39 : decode cX0_mostAmong 39 = .ok (.istore_n 2, 1) := by decide +kernel
theorem dX0_mostAmong_40 : decode cX0_mostAmong 40 = .ok (.aload_n 0, 1) := by decide +kernel
theorem dX0_mostAmong_41 : decode cX0_mostAmong 41 = .ok (.getfield 30, 3) := by decide +kernel
theorem dX0_mostAmong_44 : decode cX0_mostAmong 44 = .ok (.iload 4, 2) := by decide +kernel
theorem dX0_mostAmong_46 : decode cX0_mostAmong 46 = .ok (.iaload, 1) := by decide +kernel
theorem dX0_mostAmong_47 : decode cX0_mostAmong 47 = .ok (.istore_n 3, 1) := by decide +kernel
theorem dX0_mostAmong_48 : decode cX0_mostAmong 48 = .ok (.iinc 4 1, 3) := by decide +kernel
theorem dX0_mostAmong_51 : decode cX0_mostAmong 51 = .ok (.goto (-44), 3) := by decide +kernel
theorem dX0_mostAmong_54 : decode cX0_mostAmong 54 = .ok (.iload_n 2, 1) := by decide +kernel
theorem dX0_mostAmong_55 : decode cX0_mostAmong 55 = .ok (.ireturn, 1) := by decide +kernel
theorem dX0_choice_0 : decode cX0_choice 0 = .ok (.aload_n 0, 1) := by decide +kernel
theorem dX0_choice_1 : decode cX0_choice 1 = .ok (.getfield 9, 3) := by decide +kernel
theorem dX0_choice_4 : decode cX0_choice 4 = .ok (.iload_n 1, 1) := by decide +kernel
theorem dX0_choice_5 : decode cX0_choice 5 = .ok (.iaload, 1) := by decide +kernel
theorem dX0_choice_6 : decode cX0_choice 6 = .ok (.tableswitch 111 1 4 #[30, 82, 38, 90], 30) := by decide +kernel
theorem dX0_choice_36 : decode cX0_choice 36 = .ok (.aload_n 0, 1) := by decide +kernel
theorem dX0_choice_37 : decode cX0_choice 37 = .ok (.iload_n 1, 1) := by decide +kernel
theorem dX0_choice_38 : decode cX0_choice 38 = .ok (.iload_n 2, 1) := by decide +kernel
theorem dX0_choice_39 : decode cX0_choice 39 = .ok (.iload_n 3, 1) := by decide +kernel
theorem dX0_choice_40 : decode cX0_choice 40 = .ok (.invokevirtual 131, 3) := by decide +kernel
theorem dX0_choice_43 : decode cX0_choice 43 = .ok (.ireturn, 1) := by decide +kernel
theorem dX0_choice_44 : decode cX0_choice 44 = .ok (.iload_n 2, 1) := by decide +kernel
theorem dX0_choice_45 : decode cX0_choice 45 = .ok (.iload_n 1, 1) := by decide +kernel
theorem dX0_choice_46 : decode cX0_choice 46 = .ok (.ishr, 1) := by decide +kernel
theorem dX0_choice_47 : decode cX0_choice 47 = .ok (.iconst 1, 1) := by decide +kernel
theorem dX0_choice_48 : decode cX0_choice 48 = .ok (.iand, 1) := by decide +kernel
theorem dX0_choice_49 : decode cX0_choice 49 = .ok (.iconst 1, 1) := by decide +kernel
theorem dX0_choice_50 : decode cX0_choice 50 = .ok (.if_icmp .ne 18, 3) := by decide +kernel
theorem dX0_choice_53 : decode cX0_choice 53 = .ok (.aload_n 0, 1) := by decide +kernel
theorem dX0_choice_54 : decode cX0_choice 54 = .ok (.getfield 21, 3) := by decide +kernel
theorem dX0_choice_57 : decode cX0_choice 57 = .ok (.iload_n 1, 1) := by decide +kernel
theorem dX0_choice_58 : decode cX0_choice 58 = .ok (.iaload, 1) := by decide +kernel
theorem dX0_choice_59 : decode cX0_choice 59 = .ok (.bipush 50, 2) := by decide +kernel
theorem dX0_choice_61 : decode cX0_choice 61 = .ok (.if_icmp .lt 7, 3) := by decide +kernel
theorem dX0_choice_64 : decode cX0_choice 64 = .ok (.iconst 1, 1) := by decide +kernel
theorem dX0_choice_65 : decode cX0_choice 65 = .ok (.goto 4, 3) := by decide +kernel
theorem dX0_choice_68 : decode cX0_choice 68 = .ok (.iconst 0, 1) := by decide +kernel
theorem dX0_choice_69 : decode cX0_choice 69 = .ok (.istore 4, 2) := by decide +kernel
theorem dX0_choice_71 : decode cX0_choice 71 = .ok (.iload 4, 2) := by decide +kernel
theorem dX0_choice_73 : decode cX0_choice 73 = .ok (.ifCond .eq 7, 3) := by decide +kernel
theorem dX0_choice_76 : decode cX0_choice 76 = .ok (.iload_n 1, 1) := by decide +kernel
theorem dX0_choice_77 : decode cX0_choice 77 = .ok (.goto 10, 3) := by decide +kernel
theorem dX0_choice_80 : decode cX0_choice 80 = .ok (.aload_n 0, 1) := by decide +kernel
theorem dX0_choice_81 : decode cX0_choice 81 = .ok (.iload_n 1, 1) := by decide +kernel
theorem dX0_choice_82 : decode cX0_choice 82 = .ok (.iload_n 2, 1) := by decide +kernel
theorem dX0_choice_83 : decode cX0_choice 83 = .ok (.iload_n 3, 1) := by decide +kernel
theorem dX0_choice_84 : decode cX0_choice 84 = .ok (.invokevirtual 131, 3) := by decide +kernel
theorem dX0_choice_87 : decode cX0_choice 87 = .ok (.ireturn, 1) := by decide +kernel
theorem dX0_choice_88 : decode cX0_choice 88 = .ok (.aload_n 0, 1) := by decide +kernel
theorem dX0_choice_89 : decode cX0_choice 89 = .ok (.iload_n 1, 1) := by decide +kernel
theorem dX0_choice_90 : decode cX0_choice 90 = .ok (.iload_n 2, 1) := by decide +kernel
theorem dX0_choice_91 : decode cX0_choice 91 = .ok (.iload_n 3, 1) := by decide +kernel
theorem dX0_choice_92 : decode cX0_choice 92 = .ok (.invokevirtual 134, 3) := by decide +kernel
theorem dX0_choice_95 : decode cX0_choice 95 = .ok (.ireturn, 1) := by decide +kernel
theorem dX0_choice_96 : decode cX0_choice 96 = .ok (.aload_n 0, 1) := by decide +kernel
theorem dX0_choice_97 : decode cX0_choice 97 = .ok (.getfield 52, 3) := by decide +kernel
theorem dX0_choice_100 : decode cX0_choice 100 = .ok (.iconst 2, 1) := by decide +kernel
theorem dX0_choice_101 : decode cX0_choice 101 = .ok (.irem, 1) := by decide +kernel
theorem dX0_choice_102 : decode cX0_choice 102 = .ok (.ifCond .eq 7, 3) := by decide +kernel
theorem dX0_choice_105 : decode cX0_choice 105 = .ok (.iconst (-1), 1) := by decide +kernel
theorem dX0_choice_106 : decode cX0_choice 106 = .ok (.goto 10, 3) := by decide +kernel
theorem dX0_choice_109 : decode cX0_choice 109 = .ok (.aload_n 0, 1) := by decide +kernel
theorem dX0_choice_110 : decode cX0_choice 110 = .ok (.iload_n 1, 1) := by decide +kernel
theorem dX0_choice_111 : decode cX0_choice 111 = .ok (.iload_n 2, 1) := by decide +kernel
theorem dX0_choice_112 : decode cX0_choice 112 = .ok (.iload_n 3, 1) := by decide +kernel
theorem dX0_choice_113 : decode cX0_choice 113 = .ok (.invokevirtual 134, 3) := by decide +kernel
theorem dX0_choice_116 : decode cX0_choice 116 = .ok (.ireturn, 1) := by decide +kernel
theorem dX0_choice_117 : decode cX0_choice 117 = .ok (.aload_n 0, 1) := by decide +kernel
theorem dX0_choice_118 : decode cX0_choice 118 = .ok (.iload_n 1, 1) := by decide +kernel
theorem dX0_choice_119 : decode cX0_choice 119 = .ok (.iload_n 2, 1) := by decide +kernel
theorem dX0_choice_120 : decode cX0_choice 120 = .ok (.iload_n 3, 1) := by decide +kernel
theorem dX0_choice_121 : decode cX0_choice 121 = .ok (.invokevirtual 137, 3) := by decide +kernel
theorem dX0_choice_124 : decode cX0_choice 124 = .ok (.ireturn, 1) := by decide +kernel
theorem dX0_choiceOfPlain_0 : decode cX0_choiceOfPlain 0 = .ok (.iload_n 2, 1) := by decide +kernel
theorem dX0_choiceOfPlain_1 : decode cX0_choiceOfPlain 1 = .ok (.aload_n 0, 1) := by decide +kernel
theorem dX0_choiceOfPlain_2 : decode cX0_choiceOfPlain 2 = .ok (.getfield 15, 3) := by decide +kernel
theorem dX0_choiceOfPlain_5 : decode cX0_choiceOfPlain 5 = .ok (.iload_n 1, 1) := by decide +kernel
theorem dX0_choiceOfPlain_6 : decode cX0_choiceOfPlain 6 = .ok (.iaload, 1) := by decide +kernel
theorem dX0_choiceOfPlain_7 : decode cX0_choiceOfPlain 7 = .ok (.ishr, 1) := by decide +kernel
theorem dX0_choiceOfPlain_8 : decode cX0_choiceOfPlain 8 = .ok (.iconst 1, 1) := by decide +kernel
theorem dX0_choiceOfPlain_9 : decode cX0_choiceOfPlain 9 = .ok (.iand, 1) := by decide +kernel
theorem dX0_choiceOfPlain_10 : decode cX0_choiceOfPlain 10 = .ok (.iconst 1, 1) := by decide +kernel
theorem dX0_choiceOfPlain_11 : decode cX0_choiceOfPlain 11 = .ok (.if_icmp .ne 12, 3) := by decide +kernel
theorem dX0_choiceOfPlain_14 : decode cX0_choiceOfPlain 14 = .ok (.aload_n 0, 1) := by decide +kernel
theorem dX0_choiceOfPlain_15 : decode cX0_choiceOfPlain 15 = .ok (.getfield 15, 3) := by decide +kernel
theorem dX0_choiceOfPlain_18 : decode cX0_choiceOfPlain 18 = .ok (.iload_n 1, 1) := by decide +kernel
theorem dX0_choiceOfPlain_19 : decode cX0_choiceOfPlain 19 = .ok (.iaload, 1) := by decide +kernel
theorem dX0_choiceOfPlain_20 : decode cX0_choiceOfPlain 20 = .ok (.goto 4, 3) := by decide +kernel
theorem dX0_choiceOfPlain_23 : decode cX0_choiceOfPlain 23 = .ok (.iload_n 3, 1) := by decide +kernel
theorem dX0_choiceOfPlain_24 : decode cX0_choiceOfPlain 24 = .ok (.ireturn, 1) := by decide +kernel
theorem dX0_choiceOfLoyal_0 : decode cX0_choiceOfLoyal 0 = .ok (.iconst 0, 1) := by decide +kernel
theorem dX0_choiceOfLoyal_1 : decode cX0_choiceOfLoyal 1 = .ok (.istore 4, 2) := by decide +kernel
theorem dX0_choiceOfLoyal_3 : decode cX0_choiceOfLoyal 3 = .ok (.iconst 0, 1) := by decide +kernel
theorem dX0_choiceOfLoyal_4 : decode cX0_choiceOfLoyal 4 = .ok (.istore 5, 2) := by decide +kernel
theorem dX0_choiceOfLoyal_6 : decode cX0_choiceOfLoyal 6 = .ok (.iload 5, 2) := by decide +kernel
theorem dX0_choiceOfLoyal_8 : decode cX0_choiceOfLoyal 8 = .ok (.aload_n 0, 1) := by decide +kernel
theorem dX0_choiceOfLoyal_9 : decode cX0_choiceOfLoyal 9 = .ok (.getfield 33, 3) := by decide +kernel
theorem dX0_choiceOfLoyal_12 : decode cX0_choiceOfLoyal 12 = .ok (.if_icmp .ge 34, 3) := by decide +kernel
theorem dX0_choiceOfLoyal_15 : decode cX0_choiceOfLoyal 15 = .ok (.aload_n 0, 1) := by decide +kernel
theorem dX0_choiceOfLoyal_16 : decode cX0_choiceOfLoyal 16 = .ok (.getfield 18, 3) := by decide +kernel
theorem dX0_choiceOfLoyal_19 : decode cX0_choiceOfLoyal 19 = .ok (.iload 5, 2) := by decide +kernel
theorem dX0_choiceOfLoyal_21 : decode cX0_choiceOfLoyal 21 = .ok (.iaload, 1) := by decide +kernel
theorem dX0_choiceOfLoyal_22 : decode cX0_choiceOfLoyal 22 = .ok (.aload_n 0, 1) := by decide +kernel
theorem dX0_choiceOfLoyal_23 : decode cX0_choiceOfLoyal 23 = .ok (.getfield 18, 3) := by decide +kernel
theorem dX0_choiceOfLoyal_26 : decode cX0_choiceOfLoyal 26 = .ok (.iload_n 1, 1) := by decide +kernel
theorem dX0_choiceOfLoyal_27 : decode cX0_choiceOfLoyal 27 = .ok (.iaload, 1) := by decide +kernel
theorem dX0_choiceOfLoyal_28 : decode cX0_choiceOfLoyal 28 = .ok (.if_icmp .ne 12, 3) := by decide +kernel
theorem dX0_choiceOfLoyal_31 : decode cX0_choiceOfLoyal 31 = .ok (.iload 4, 2) := by decide +kernel
theorem dX0_choiceOfLoyal_33 : decode cX0_choiceOfLoyal 33 = .ok (.iconst 1, 1) := by decide +kernel
theorem dX0_choiceOfLoyal_34 : decode cX0_choiceOfLoyal 34 = .ok (.iload 5, 2) := by decide +kernel
theorem dX0_choiceOfLoyal_36 : decode cX0_choiceOfLoyal 36 = .ok (.ishl, 1) := by decide +kernel
theorem dX0_choiceOfLoyal_37 : decode cX0_choiceOfLoyal 37 = .ok (.ior, 1) := by decide +kernel
theorem dX0_choiceOfLoyal_38 : decode cX0_choiceOfLoyal 38 = .ok (.istore 4, 2) := by decide +kernel
theorem dX0_choiceOfLoyal_40 : decode cX0_choiceOfLoyal 40 = .ok (.iinc 5 1, 3) := by decide +kernel
theorem dX0_choiceOfLoyal_43 : decode cX0_choiceOfLoyal 43 = .ok (.goto (-37), 3) := by decide +kernel
theorem dX0_choiceOfLoyal_46 : decode cX0_choiceOfLoyal 46 = .ok (.aload_n 0, 1) := by decide +kernel
theorem dX0_choiceOfLoyal_47 : decode cX0_choiceOfLoyal 47 = .ok (.iload_n 2, 1) := by decide +kernel
theorem dX0_choiceOfLoyal_48 : decode cX0_choiceOfLoyal 48 = .ok (.iload 4, 2) := by decide +kernel
theorem dX0_choiceOfLoyal_50 : decode cX0_choiceOfLoyal 50 = .ok (.iand, 1) := by decide +kernel
theorem dX0_choiceOfLoyal_51 : decode cX0_choiceOfLoyal 51 = .ok (.invokevirtual 128, 3) := by decide +kernel
theorem dX0_choiceOfLoyal_54 : decode cX0_choiceOfLoyal 54 = .ok (.istore 5, 2) := by decide +kernel
theorem dX0_choiceOfLoyal_56 : decode cX0_choiceOfLoyal 56 = .ok (.iload 5, 2) := by decide +kernel
theorem dX0_choiceOfLoyal_58 : decode cX0_choiceOfLoyal 58 = .ok (.iconst (-1), 1) := by decide +kernel
theorem dX0_choiceOfLoyal_59 : decode cX0_choiceOfLoyal 59 = .ok (.if_icmp .ne 13, 3) := by decide +kernel
theorem dX0_choiceOfLoyal_62 : decode cX0_choiceOfLoyal 62 = .ok (.aload_n 0, 1) := by decide +kernel
theorem dX0_choiceOfLoyal_63 : decode cX0_choiceOfLoyal 63 = .ok (.iload_n 1, 1) := by decide +kernel
theorem dX0_choiceOfLoyal_64 : decode cX0_choiceOfLoyal 64 = .ok (.iload_n 2, 1) := by decide +kernel
theorem dX0_choiceOfLoyal_65 : decode cX0_choiceOfLoyal 65 = .ok (.iload_n 3, 1) := by decide +kernel
theorem dX0_choiceOfLoyal_66 : decode cX0_choiceOfLoyal 66 = .ok (.invokevirtual 137, 3) := by decide +kernel
theorem dX0_choiceOfLoyal_69 : decode cX0_choiceOfLoyal 69 = .ok (.goto 5, 3) := by decide +kernel
theorem dX0_choiceOfLoyal_72 : decode cX0_choiceOfLoyal 72 = .ok (.iload 5, 2) := by decide +kernel
theorem dX0_choiceOfLoyal_74 : decode cX0_choiceOfLoyal 74 = .ok (.ireturn, 1) := by decide +kernel
theorem dX0_choiceOfSwayed_0 : decode cX0_choiceOfSwayed 0 = .ok (.aload_n 0, 1) := by decide +kernel
theorem dX0_choiceOfSwayed_1 : decode cX0_choiceOfSwayed 1 = .ok (.getfield 67, 3) := by decide +kernel
theorem dX0_choiceOfSwayed_4 : decode cX0_choiceOfSwayed 4 = .ok (.iconst 0, 1) := by decide +kernel
theorem dX0_choiceOfSwayed_5 : decode cX0_choiceOfSwayed 5 = .ok (.aload_n 0, 1) := by decide +kernel
theorem dX0_choiceOfSwayed_6 : decode cX0_choiceOfSwayed 6 = .ok (.getfield 64, 3) := by decide +kernel
theorem dX0_choiceOfSwayed_9 : decode cX0_choiceOfSwayed 9 = .ok (.invokevirtual 140, 3) := by decide +kernel
theorem dX0_choiceOfSwayed_12 : decode cX0_choiceOfSwayed 12 = .ok (.istore 4, 2) := by decide +kernel
theorem dX0_choiceOfSwayed_14 : decode cX0_choiceOfSwayed 14 = .ok (.iload 4, 2) := by decide +kernel
theorem dX0_choiceOfSwayed_16 : decode cX0_choiceOfSwayed 16 = .ok (.ifCond .ge 15, 3) := by decide +kernel
theorem dX0_choiceOfSwayed_19 : decode cX0_choiceOfSwayed 19 = .ok (.aload_n 0, 1) := by decide +kernel
theorem dX0_choiceOfSwayed_20 : decode cX0_choiceOfSwayed 20 = .ok (.getfield 21, 3) := by decide +kernel
theorem dX0_choiceOfSwayed_23 : decode cX0_choiceOfSwayed 23 = .ok (.iload_n 1, 1) := by decide +kernel
theorem dX0_choiceOfSwayed_24 : decode cX0_choiceOfSwayed 24 = .ok (.iaload, 1) := by decide +kernel
theorem dX0_choiceOfSwayed_25 : decode cX0_choiceOfSwayed 25 = .ok (.bipush 10, 2) := by decide +kernel
theorem dX0_choiceOfSwayed_27 : decode cX0_choiceOfSwayed 27 = .ok (.idiv, 1) := by decide +kernel
theorem dX0_choiceOfSwayed_28 : decode cX0_choiceOfSwayed 28 = .ok (.goto 28, 3) := by decide +kernel
theorem dX0_choiceOfSwayed_31 : decode cX0_choiceOfSwayed 31 = .ok (.aload_n 0, 1) := by decide +kernel
theorem dX0_choiceOfSwayed_32 : decode cX0_choiceOfSwayed 32 = .ok (.getfield 67, 3) := by decide +kernel
theorem dX0_choiceOfSwayed_35 : decode cX0_choiceOfSwayed 35 = .ok (.iload 4, 2) := by decide +kernel
theorem dX0_choiceOfSwayed_37 : decode cX0_choiceOfSwayed 37 = .ok (.aload_n 0, 1) := by decide +kernel
theorem dX0_choiceOfSwayed_38 : decode cX0_choiceOfSwayed 38 = .ok (.getfield 21, 3) := by decide +kernel
theorem dX0_choiceOfSwayed_41 : decode cX0_choiceOfSwayed 41 = .ok (.iload_n 1, 1) := by decide +kernel
theorem dX0_choiceOfSwayed_42 : decode cX0_choiceOfSwayed 42 = .ok (.iaload, 1) := by decide +kernel
theorem dX0_choiceOfSwayed_43 : decode cX0_choiceOfSwayed 43 = .ok (.aload_n 0, 1) := by decide +kernel
theorem dX0_choiceOfSwayed_44 : decode cX0_choiceOfSwayed 44 = .ok (.getfield 52, 3) := by decide +kernel
theorem dX0_choiceOfSwayed_47 : decode cX0_choiceOfSwayed 47 = .ok (.aload_n 0, 1) := by decide +kernel
theorem dX0_choiceOfSwayed_48 : decode cX0_choiceOfSwayed 48 = .ok (.getfield 18, 3) := by decide +kernel
theorem dX0_choiceOfSwayed_51 : decode cX0_choiceOfSwayed 51 = .ok (.iload_n 1, 1) := by decide +kernel
theorem dX0_choiceOfSwayed_52 : decode cX0_choiceOfSwayed 52 = .ok (.iaload, 1) := by decide +kernel
theorem dX0_choiceOfSwayed_53 : decode cX0_choiceOfSwayed 53 = .ok (.invokevirtual 146, 3) := by decide +kernel
theorem dX0_choiceOfSwayed_56 : decode cX0_choiceOfSwayed 56 = .ok (.istore 5, 2) := by decide +kernel
theorem dX0_choiceOfSwayed_58 : decode cX0_choiceOfSwayed 58 = .ok (.aload_n 0, 1) := by decide +kernel
theorem dX0_choiceOfSwayed_59 : decode cX0_choiceOfSwayed 59 = .ok (.iload_n 3, 1) := by decide +kernel
theorem dX0_choiceOfSwayed_60 : decode cX0_choiceOfSwayed 60 = .ok (.invokevirtual 117, 3) := by decide +kernel
theorem dX0_choiceOfSwayed_63 : decode cX0_choiceOfSwayed 63 = .ok (.ifCond .eq 24, 3) := by decide +kernel
theorem dX0_choiceOfSwayed_66 : decode cX0_choiceOfSwayed 66 = .ok (.aload_n 0, 1) := by decide +kernel
theorem dX0_choiceOfSwayed_67 : decode cX0_choiceOfSwayed 67 = .ok (.getfield 30, 3) := by decide +kernel
theorem dX0_choiceOfSwayed_70 : decode cX0_choiceOfSwayed 70 = .ok (.iload_n 3, 1) := by decide +kernel
theorem dX0_choiceOfSwayed_71 : decode cX0_choiceOfSwayed 71 = .ok (.iaload, 1) := by decide +kernel
theorem dX0_choiceOfSwayed_72 : decode cX0_choiceOfSwayed 72 = .ok (.iload 5, 2) := by decide +kernel
theorem dX0_choiceOfSwayed_74 : decode cX0_choiceOfSwayed 74 = .ok (.iconst 0, 1) := by decide +kernel
theorem dX0_choiceOfSwayed_75 : decode cX0_choiceOfSwayed 75 = .ok (.bipush 99, 2) := by decide +kernel
theorem dX0_choiceOfSwayed_77 : decode cX0_choiceOfSwayed 77 = .ok (.invokestatic 150, 3) := by decide +kernel
theorem dX0_choiceOfSwayed_80 : decode cX0_choiceOfSwayed 80 = .ok (.if_icmp .le 7, 3) := by decide +kernel
theorem dX0_choiceOfSwayed_83 : decode cX0_choiceOfSwayed 83 = .ok (.iconst 1, 1) := by decide +kernel
theorem dX0_choiceOfSwayed_84 : decode cX0_choiceOfSwayed 84 = .ok (.goto 4, 3) := by decide +kernel
theorem dX0_choiceOfSwayed_87 : decode cX0_choiceOfSwayed 87 = .ok (.iconst 0, 1) := by decide +kernel
theorem dX0_choiceOfSwayed_88 : decode cX0_choiceOfSwayed 88 = .ok (.istore 6, 2) := by decide +kernel
theorem dX0_choiceOfSwayed_90 : decode cX0_choiceOfSwayed 90 = .ok (.iload 6, 2) := by decide +kernel
theorem dX0_choiceOfSwayed_92 : decode cX0_choiceOfSwayed 92 = .ok (.ifCond .eq 7, 3) := by decide +kernel
theorem dX0_choiceOfSwayed_95 : decode cX0_choiceOfSwayed 95 = .ok (.iload_n 3, 1) := by decide +kernel
theorem dX0_choiceOfSwayed_96 : decode cX0_choiceOfSwayed 96 = .ok (.goto 10, 3) := by decide +kernel
theorem dX0_choiceOfSwayed_99 : decode cX0_choiceOfSwayed 99 = .ok (.aload_n 0, 1) := by decide +kernel
theorem dX0_choiceOfSwayed_100 : decode cX0_choiceOfSwayed 100 = .ok (.iload_n 1, 1) := by decide +kernel
theorem dX0_choiceOfSwayed_101 : decode cX0_choiceOfSwayed 101 = .ok (.iload_n 2, 1) := by decide +kernel
theorem dX0_choiceOfSwayed_102 : decode cX0_choiceOfSwayed 102 = .ok (.iload_n 3, 1) := by decide +kernel
theorem dX0_choiceOfSwayed_103 : decode cX0_choiceOfSwayed 103 = .ok (.invokevirtual 137, 3) := by decide +kernel
theorem dX0_choiceOfSwayed_106 : decode cX0_choiceOfSwayed 106 = .ok (.ireturn, 1) := by decide +kernel
theorem dX1_init_0 : decode cX1_init 0 = .ok (.aload_n 0, 1) := by decide +kernel
theorem dX1_init_1 : decode cX1_init 1 = .ok (.invokespecial 1, 3) := by decide +kernel
theorem dX1_init_4 : decode cX1_init 4 = .ok (.aload_n 0, 1) := by decide +kernel
theorem dX1_init_5 : decode cX1_init 5 = .ok (.iload_n 1, 1) := by decide +kernel
theorem dX1_init_6 : decode cX1_init 6 = .ok (.putfield 7, 3) := by decide +kernel
theorem dX1_init_9 : decode cX1_init 9 = .ok (.aload_n 0, 1) := by decide +kernel
theorem dX1_init_10 : decode cX1_init 10 = .ok (.iload_n 2, 1) := by decide +kernel
theorem dX1_init_11 : decode cX1_init 11 = .ok (.putfield 13, 3) := by decide +kernel
theorem dX1_init_14 : decode cX1_init 14 = .ok (.aload_n 0, 1) := by decide +kernel
theorem dX1_init_15 : decode cX1_init 15 = .ok (.aload_n 3, 1) := by decide +kernel
theorem dX1_init_16 : decode cX1_init 16 = .ok (.putfield 16, 3) := by decide +kernel
theorem dX1_init_19 : decode cX1_init 19 = .ok (.return_, 1) := by decide +kernel
theorem dX2_init_0 : decode cX2_init 0 = .ok (.aload_n 0, 1) := by decide +kernel
theorem dX2_init_1 : decode cX2_init 1 = .ok (.invokespecial 3, 3) := by decide +kernel
theorem dX2_init_4 : decode cX2_init 4 = .ok (.aload_n 0, 1) := by decide +kernel
theorem dX2_init_5 : decode cX2_init 5 = .ok (.bipush 14, 2) := by decide +kernel
theorem dX2_init_7 : decode cX2_init 7 = .ok (.anewarray 9, 3) := by decide +kernel
theorem dX2_init_10 : decode cX2_init 10 = .ok (.putfield 11, 3) := by decide +kernel
theorem dX2_init_13 : decode cX2_init 13 = .ok (.aload_n 0, 1) := by decide +kernel
theorem dX2_init_14 : decode cX2_init 14 = .ok (.bipush 96, 2) := by decide +kernel
theorem dX2_init_16 : decode cX2_init 16 = .ok (.newarray .int, 2) := by decide +kernel
theorem dX2_init_18 : decode cX2_init 18 = .ok (.putfield 17, 3) := by decide +kernel
theorem dX2_init_21 : decode cX2_init 21 = .ok (.return_, 1) := by decide +kernel
theorem dX2_latest_0 : decode cX2_latest 0 = .ok (.iload_n 2, 1) := by decide +kernel
theorem dX2_latest_1 : decode cX2_latest 1 = .ok (.bipush 14, 2) := by decide +kernel
theorem dX2_latest_3 : decode cX2_latest 3 = .ok (.invokestatic 21, 3) := by decide +kernel
theorem dX2_latest_6 : decode cX2_latest 6 = .ok (.iconst 1, 1) := by decide +kernel
theorem dX2_latest_7 : decode cX2_latest 7 = .ok (.isub, 1) := by decide +kernel
theorem dX2_latest_8 : decode cX2_latest 8 = .ok (.istore_n 3, 1) := by decide +kernel
theorem dX2_latest_9 : decode cX2_latest 9 = .ok (.iload_n 3, 1) := by decide +kernel
theorem dX2_latest_10 : decode cX2_latest 10 = .ok (.ifCond .lt 33, 3) := by decide +kernel
theorem dX2_latest_13 : decode cX2_latest 13 = .ok (.aload_n 0, 1) := by decide +kernel
theorem dX2_latest_14 : decode cX2_latest 14 = .ok (.getfield 11, 3) := by decide +kernel
theorem dX2_latest_17 : decode cX2_latest 17 = .ok (.iload_n 3, 1) := by decide +kernel
theorem dX2_latest_18 : decode cX2_latest 18 = .ok (.aaload, 1) := by decide +kernel
theorem dX2_latest_19 : decode cX2_latest 19 = .ok (.astore 4, 2) := by decide +kernel
theorem dX2_latest_21 : decode cX2_latest 21 = .ok (.aload 4, 2) := by decide +kernel
theorem dX2_latest_23 : decode cX2_latest 23 = .ok (.ifnull 14, 3) := by decide +kernel
theorem dX2_latest_26 : decode cX2_latest 26 = .ok (.aload 4, 2) := by decide +kernel
theorem dX2_latest_28 : decode cX2_latest 28 = .ok (.getfield 27, 3) := by decide +kernel
theorem dX2_latest_31 : decode cX2_latest 31 = .ok (.iload_n 1, 1) := by decide +kernel
theorem dX2_latest_32 : decode cX2_latest 32 = .ok (.if_icmp .ne 5, 3) := by decide +kernel
theorem dX2_latest_35 : decode cX2_latest 35 = .ok (.iload_n 3, 1) := by decide +kernel
theorem dX2_latest_36 : decode cX2_latest 36 = .ok (.ireturn, 1) := by decide +kernel
theorem dX2_latest_37 : decode cX2_latest 37 = .ok (.iinc 3 (-1), 3) := by decide +kernel
theorem dX2_latest_40 : decode cX2_latest 40 = .ok (.goto (-31), 3) := by decide +kernel
theorem dX2_latest_43 : decode cX2_latest 43 = .ok (.iconst (-1), 1) := by decide +kernel
theorem dX2_latest_44 : decode cX2_latest 44 = .ok (.ireturn, 1) := by decide +kernel
theorem dX2_value_0 : decode cX2_value 0 = .ok (.iload_n 1, 1) := by decide +kernel
theorem dX2_value_1 : decode cX2_value 1 = .ok (.iconst 0, 1) := by decide +kernel
theorem dX2_value_2 : decode cX2_value 2 = .ok (.bipush 13, 2) := by decide +kernel
theorem dX2_value_4 : decode cX2_value 4 = .ok (.invokestatic 31, 3) := by decide +kernel
theorem dX2_value_7 : decode cX2_value 7 = .ok (.ifCond .eq 12, 3) := by decide +kernel
theorem dX2_value_10 : decode cX2_value 10 = .ok (.aload_n 0, 1) := by decide +kernel
theorem dX2_value_11 : decode cX2_value 11 = .ok (.getfield 11, 3) := by decide +kernel
theorem dX2_value_14 : decode cX2_value 14 = .ok (.iload_n 1, 1) := by decide +kernel
theorem dX2_value_15 : decode cX2_value 15 = .ok (.aaload, 1) := by decide +kernel
theorem dX2_value_16 : decode cX2_value 16 = .ok (.goto 4, 3) := by decide +kernel
theorem dX2_value_19 : decode cX2_value 19 = .ok (.aconst_null, 1) := by decide +kernel
theorem dX2_value_20 : decode cX2_value 20 = .ok (.astore 5, 2) := by decide +kernel
theorem dX2_value_22 : decode cX2_value 22 = .ok (.aload 5, 2) := by decide +kernel
theorem dX2_value_24 : decode cX2_value 24 = .ok (.ifnonnull 5, 3) := by decide +kernel
theorem dX2_value_27 : decode cX2_value 27 = .ok (.iconst 0, 1) := by decide +kernel
theorem dX2_value_28 : decode cX2_value 28 = .ok (.ireturn, 1) := by decide +kernel
theorem dX2_value_29 : decode cX2_value 29 = .ok (.iconst 0, 1) := by decide +kernel
theorem dX2_value_30 : decode cX2_value 30 = .ok (.istore 6, 2) := by decide +kernel
theorem dX2_value_32 : decode cX2_value 32 = .ok (.iconst 0, 1) := by decide +kernel
theorem dX2_value_33 : decode cX2_value 33 = .ok (.istore 7, 2) := by decide +kernel
theorem dX2_value_35 : decode cX2_value 35 = .ok (.iload 7, 2) := by decide +kernel
theorem dX2_value_37 : decode cX2_value 37 = .ok (.aload 5, 2) := by decide +kernel
theorem dX2_value_39 : decode cX2_value 39 = .ok (.getfield 35, 3) := by decide +kernel
theorem dX2_value_42 : decode cX2_value 42 = .ok (.arraylength, 1) := by decide +kernel
theorem dX2_value_43 : decode cX2_value 43 = .ok (.if_icmp .ge 148, 3) := by decide +kernel
theorem dX2_value_46 : decode cX2_value 46 = .ok (.aload 5, 2) := by decide +kernel
theorem dX2_value_48 : decode cX2_value 48 = .ok (.getfield 35, 3) := by decide +kernel
theorem dX2_value_51 : decode cX2_value 51 = .ok (.iload 7, 2) := by decide +kernel
theorem dX2_value_53 : decode cX2_value 53 = .ok (.iaload, 1) := by decide +kernel
theorem dX2_value_54 : decode cX2_value 54 = .ok (.istore 8, 2) := by decide +kernel
theorem dX2_value_56 : decode cX2_value 56 = .ok (.iload 8, 2) := by decide +kernel
theorem dX2_value_58 : decode cX2_value 58 = .ok (.sipush 20000, 3) := by decide +kernel
theorem dX2_value_61 : decode cX2_value 61 = .ok (.if_icmp .ge 35, 3) := by decide +kernel
theorem dX2_value_64 : decode cX2_value 64 = .ok (.iload 6, 2) := by decide +kernel
theorem dX2_value_66 : decode cX2_value 66 = .ok (.aload_n 0, 1) := by decide +kernel
theorem dX2_value_67 : decode cX2_value 67 = .ok (.getfield 17, 3) := by decide +kernel
theorem dX2_value_70 : decode cX2_value 70 = .ok (.arraylength, 1) := by decide +kernel
theorem dX2_value_71 : decode cX2_value 71 = .ok (.if_icmp .ge 114, 3) := by decide +kernel
theorem dX2_value_74 : decode cX2_value 74 = .ok (.aload_n 0, 1) := by decide +kernel
theorem dX2_value_75 : decode cX2_value 75 = .ok (.getfield 17, 3) := by decide +kernel
theorem dX2_value_78 : decode cX2_value 78 = .ok (.iload 6, 2) := by decide +kernel
theorem dX2_value_80 : decode cX2_value 80 = .ok (.iload 8, 2) := by decide +kernel
theorem dX2_value_82 : decode cX2_value 82 = .ok (.iload_n 2, 1) := by decide +kernel
theorem dX2_value_83 : decode cX2_value 83 = .ok (.iload_n 3, 1) := by decide +kernel
theorem dX2_value_84 : decode cX2_value 84 = .ok (.iload 4, 2) := by decide +kernel
theorem dX2_value_86 : decode cX2_value 86 = .ok (.invokestatic 38, 3) := by decide +kernel
theorem dX2_value_89 : decode cX2_value 89 = .ok (.iastore, 1) := by decide +kernel
theorem dX2_value_90 : decode cX2_value 90 = .ok (.iinc 6 1, 3) := by decide +kernel
theorem dX2_value_93 : decode cX2_value 93 = .ok (.goto 92, 3) := by decide +kernel
theorem dX2_value_96 : decode cX2_value 96 = .ok (.iload 8, 2) := by decide +kernel
theorem dX2_value_98 : decode cX2_value 98 = .ok (.sipush 20033, 3) := by decide +kernel
theorem dX2_value_101 : decode cX2_value 101 = .ok (.if_icmp .ne 41, 3) := by decide +kernel
theorem dX2_value_104 : decode cX2_value 104 = .ok (.iload 6, 2) := by decide +kernel
theorem dX2_value_106 : decode cX2_value 106 = .ok (.iconst 1, 1) := by decide +kernel
theorem dX2_value_107 : decode cX2_value 107 = .ok (.if_icmp .lt 78, 3) := by decide +kernel
theorem dX2_value_110 : decode cX2_value 110 = .ok (.aload_n 0, 1) := by decide +kernel
theorem dX2_value_111 : decode cX2_value 111 = .ok (.getfield 17, 3) := by decide +kernel
theorem dX2_value_114 : decode cX2_value 114 = .ok (.iload 6, 2) := by decide +kernel
theorem dX2_value_116 : decode cX2_value 116 = .ok (.iconst 1, 1) := by decide +kernel
theorem dX2_value_117 : decode cX2_value 117 = .ok (.isub, 1) := by decide +kernel
theorem dX2_value_118 : decode cX2_value 118 = .ok (.aload_n 0, 1) := by decide +kernel
theorem dX2_value_119 : decode cX2_value 119 = .ok (.getfield 17, 3) := by decide +kernel
theorem dX2_value_122 : decode cX2_value 122 = .ok (.iload 6, 2) := by decide +kernel
theorem dX2_value_124 : decode cX2_value 124 = .ok (.iconst 1, 1) := by decide +kernel
theorem dX2_value_125 : decode cX2_value 125 = .ok (.isub, 1) := by decide +kernel
theorem dX2_value_126 : decode cX2_value 126 = .ok (.iaload, 1) := by decide +kernel
theorem dX2_value_127 : decode cX2_value 127 = .ok (.ifCond .ne 7, 3) := by decide +kernel
theorem dX2_value_130 : decode cX2_value 130 = .ok (.iconst 1, 1) := by decide +kernel
theorem dX2_value_131 : decode cX2_value 131 = .ok (.goto 4, 3) := by decide +kernel
theorem dX2_value_134 : decode cX2_value 134 = .ok (.iconst 0, 1) := by decide +kernel
theorem dX2_value_135 : decode cX2_value 135 = .ok (.invokestatic 42, 3) := by decide +kernel
theorem dX2_value_138 : decode cX2_value 138 = .ok (.iastore, 1) := by decide +kernel
theorem dX2_value_139 : decode cX2_value 139 = .ok (.goto 46, 3) := by decide +kernel
theorem dX2_value_142 : decode cX2_value 142 = .ok (.iload 6, 2) := by decide +kernel
theorem dX2_value_144 : decode cX2_value 144 = .ok (.iconst 2, 1) := by decide +kernel
theorem dX2_value_145 : decode cX2_value 145 = .ok (.if_icmp .lt 40, 3) := by decide +kernel
theorem dX2_value_148 : decode cX2_value 148 = .ok (.iinc 6 (-1), 3) := by decide +kernel
theorem dX2_value_151 : decode cX2_value 151 = .ok (.aload_n 0, 1) := by decide +kernel
theorem dX2_value_152 : decode cX2_value 152 = .ok (.getfield 17, 3) := by decide +kernel
theorem dX2_value_155 : decode cX2_value 155 = .ok (.iload 6, 2) := by decide +kernel
theorem dX2_value_157 : decode cX2_value 157 = .ok (.iconst 1, 1) := by decide +kernel
theorem dX2_value_158 : decode cX2_value 158 = .ok (.isub, 1) := by decide +kernel
theorem dX2_value_159 : decode cX2_value 159 = .ok (.iload 8, 2) := by decide +kernel
theorem dX2_value_161 : decode cX2_value 161 = .ok (.sipush 20000, 3) := by decide +kernel
theorem dX2_value_164 : decode cX2_value 164 = .ok (.isub, 1) := by decide +kernel
theorem dX2_value_165 : decode cX2_value 165 = .ok (.aload_n 0, 1) := by decide +kernel
theorem dX2_value_166 : decode cX2_value 166 = .ok (.getfield 17, 3) := by decide +kernel
theorem dX2_value_169 : decode cX2_value 169 = .ok (.iload 6, 2) := by decide +kernel
theorem dX2_value_171 : decode cX2_value 171 = .ok (.iconst 1, 1) := by decide +kernel
theorem dX2_value_172 : decode cX2_value 172 = .ok (.isub, 1) := by decide +kernel
theorem dX2_value_173 : decode cX2_value 173 = .ok (.iaload, 1) := by decide +kernel
theorem dX2_value_174 : decode cX2_value 174 = .ok (.aload_n 0, 1) := by decide +kernel
theorem dX2_value_175 : decode cX2_value 175 = .ok (.getfield 17, 3) := by decide +kernel
theorem dX2_value_178 : decode cX2_value 178 = .ok (.iload 6, 2) := by decide +kernel
theorem dX2_value_180 : decode cX2_value 180 = .ok (.iaload, 1) := by decide +kernel
theorem dX2_value_181 : decode cX2_value 181 = .ok (.invokestatic 46, 3) := by decide +kernel
theorem dX2_value_184 : decode cX2_value 184 = .ok (.iastore, 1) := by decide +kernel
theorem dX2_value_185 : decode cX2_value 185 = .ok (.iinc 7 1, 3) := by decide +kernel
theorem dX2_value_188 : decode cX2_value 188 = .ok (.goto (-153), 3) := by decide +kernel
theorem dX2_value_191 : decode cX2_value 191 = .ok (.iload 6, 2) := by decide +kernel
theorem dX2_value_193 : decode cX2_value 193 = .ok (.ifCond .le 12, 3) := by decide +kernel
theorem dX2_value_196 : decode cX2_value 196 = .ok (.aload_n 0, 1) := by decide +kernel
theorem dX2_value_197 : decode cX2_value 197 = .ok (.getfield 17, 3) := by decide +kernel
theorem dX2_value_200 : decode cX2_value 200 = .ok (.iconst 0, 1) := by decide +kernel
theorem dX2_value_201 : decode cX2_value 201 = .ok (.iaload, 1) := by decide +kernel
theorem dX2_value_202 : decode cX2_value 202 = .ok (.goto 4, 3) := by decide +kernel
theorem dX2_value_205 : decode cX2_value 205 = .ok (.iconst 0, 1) := by decide +kernel
theorem dX2_value_206 : decode cX2_value 206 = .ok (.ireturn, 1) := by decide +kernel
theorem dX2_leaf_0 : decode cX2_leaf 0 = .ok (.iload_n 0, 1) := by decide +kernel
theorem dX2_leaf_1 : decode cX2_leaf 1 = .ok (.tableswitch 33 10000 10002 #[27, 29, 31], 27) := by decide +kernel
theorem dX2_leaf_28 : decode cX2_leaf 28 = .ok (.iload_n 1, 1) := by decide +kernel
theorem dX2_leaf_29 : decode cX2_leaf 29 = .ok (.ireturn, 1) := by decide +kernel
theorem dX2_leaf_30 : decode cX2_leaf 30 = .ok (.iload_n 2, 1) := by decide +kernel
theorem dX2_leaf_31 : decode cX2_leaf 31 = .ok (.ireturn, 1) := by decide +kernel
theorem dX2_leaf_32 : decode cX2_leaf 32 = .ok (.iload_n 3, 1) := by decide +kernel
theorem dX2_leaf_33 : decode cX2_leaf 33 = .ok (.ireturn, 1) := by decide +kernel
theorem dX2_leaf_34 : decode cX2_leaf 34 = .ok (.iload_n 0, 1) := by decide +kernel
theorem dX2_leaf_35 : decode cX2_leaf 35 = .ok (.ireturn, 1) := by decide +kernel
theorem dX2_joined_0 : decode cX2_joined 0 = .ok (.iload_n 0, 1) := by decide +kernel
theorem dX2_joined_1 : decode cX2_joined 1 = .ok (.lookupswitch 163 #[(38, 92), (42, 159), (43, 151), (45, 155), (60, 109), (61, 123), (62, 137), (124, 75)], 75) := by decide +kernel
theorem dX2_joined_76 : decode cX2_joined 76 = .ok (.iload_n 1, 1) := by decide +kernel
theorem dX2_joined_77 : decode cX2_joined 77 = .ok (.ifCond .ne 7, 3) := by decide +kernel
theorem dX2_joined_80 : decode cX2_joined 80 = .ok (.iload_n 2, 1) := by decide +kernel
theorem dX2_joined_81 : decode cX2_joined 81 = .ok (.ifCond .eq 7, 3) := by decide +kernel
theorem dX2_joined_84 : decode cX2_joined 84 = .ok (.iconst 1, 1) := by decide +kernel
theorem dX2_joined_85 : decode cX2_joined 85 = .ok (.goto 4, 3) := by decide +kernel
theorem dX2_joined_88 : decode cX2_joined 88 = .ok (.iconst 0, 1) := by decide +kernel
theorem dX2_joined_89 : decode cX2_joined 89 = .ok (.invokestatic 42, 3) := by decide +kernel
theorem dX2_joined_92 : decode cX2_joined 92 = .ok (.ireturn, 1) := by decide +kernel
theorem dX2_joined_93 : decode cX2_joined 93 = .ok (.iload_n 1, 1) := by decide +kernel
theorem dX2_joined_94 : decode cX2_joined 94 = .ok (.ifCond .eq 11, 3) := by decide +kernel
theorem dX2_joined_97 : decode cX2_joined 97 = .ok (.iload_n 2, 1) := by decide +kernel
theorem dX2_joined_98 : decode cX2_joined 98 = .ok (.ifCond .eq 7, 3) := by decide +kernel
theorem dX2_joined_101 : decode cX2_joined 101 = .ok (.iconst 1, 1) := by decide +kernel
theorem dX2_joined_102 : decode cX2_joined 102 = .ok (.goto 4, 3) := by decide +kernel
theorem dX2_joined_105 : decode cX2_joined 105 = .ok (.iconst 0, 1) := by decide +kernel
theorem dX2_joined_106 : decode cX2_joined 106 = .ok (.invokestatic 42, 3) := by decide +kernel
theorem dX2_joined_109 : decode cX2_joined 109 = .ok (.ireturn, 1) := by decide +kernel
theorem dX2_joined_110 : decode cX2_joined 110 = .ok (.iload_n 1, 1) := by decide +kernel
theorem dX2_joined_111 : decode cX2_joined 111 = .ok (.iload_n 2, 1) := by decide +kernel
theorem dX2_joined_112 : decode cX2_joined 112 = .ok (.if_icmp .ge 7, 3) := by decide +kernel
theorem dX2_joined_115 : decode cX2_joined 115 = .ok (.iconst 1, 1) := by decide +kernel
theorem dX2_joined_116 : decode cX2_joined 116 = .ok (.goto 4, 3) := by decide +kernel
theorem dX2_joined_119 : decode cX2_joined 119 = .ok (.iconst 0, 1) := by decide +kernel
theorem dX2_joined_120 : decode cX2_joined 120 = .ok (.invokestatic 42, 3) := by decide +kernel
theorem dX2_joined_123 : decode cX2_joined 123 = .ok (.ireturn, 1) := by decide +kernel
theorem dX2_joined_124 : decode cX2_joined 124 = .ok (.iload_n 1, 1) := by decide +kernel
theorem dX2_joined_125 : decode cX2_joined 125 = .ok (.iload_n 2, 1) := by decide +kernel
theorem dX2_joined_126 : decode cX2_joined 126 = .ok (.if_icmp .ne 7, 3) := by decide +kernel
theorem dX2_joined_129 : decode cX2_joined 129 = .ok (.iconst 1, 1) := by decide +kernel
theorem dX2_joined_130 : decode cX2_joined 130 = .ok (.goto 4, 3) := by decide +kernel
theorem dX2_joined_133 : decode cX2_joined 133 = .ok (.iconst 0, 1) := by decide +kernel
theorem dX2_joined_134 : decode cX2_joined 134 = .ok (.invokestatic 42, 3) := by decide +kernel
theorem dX2_joined_137 : decode cX2_joined 137 = .ok (.ireturn, 1) := by decide +kernel
theorem dX2_joined_138 : decode cX2_joined 138 = .ok (.iload_n 1, 1) := by decide +kernel
theorem dX2_joined_139 : decode cX2_joined 139 = .ok (.iload_n 2, 1) := by decide +kernel
theorem dX2_joined_140 : decode cX2_joined 140 = .ok (.if_icmp .le 7, 3) := by decide +kernel
theorem dX2_joined_143 : decode cX2_joined 143 = .ok (.iconst 1, 1) := by decide +kernel
theorem dX2_joined_144 : decode cX2_joined 144 = .ok (.goto 4, 3) := by decide +kernel
theorem dX2_joined_147 : decode cX2_joined 147 = .ok (.iconst 0, 1) := by decide +kernel
theorem dX2_joined_148 : decode cX2_joined 148 = .ok (.invokestatic 42, 3) := by decide +kernel
theorem dX2_joined_151 : decode cX2_joined 151 = .ok (.ireturn, 1) := by decide +kernel
theorem dX2_joined_152 : decode cX2_joined 152 = .ok (.iload_n 1, 1) := by decide +kernel
theorem dX2_joined_153 : decode cX2_joined 153 = .ok (.iload_n 2, 1) := by decide +kernel
theorem dX2_joined_154 : decode cX2_joined 154 = .ok (.iadd, 1) := by decide +kernel
theorem dX2_joined_155 : decode cX2_joined 155 = .ok (.ireturn, 1) := by decide +kernel
theorem dX2_joined_156 : decode cX2_joined 156 = .ok (.iload_n 1, 1) := by decide +kernel
theorem dX2_joined_157 : decode cX2_joined 157 = .ok (.iload_n 2, 1) := by decide +kernel
theorem dX2_joined_158 : decode cX2_joined 158 = .ok (.isub, 1) := by decide +kernel
theorem dX2_joined_159 : decode cX2_joined 159 = .ok (.ireturn, 1) := by decide +kernel
theorem dX2_joined_160 : decode cX2_joined 160 = .ok (.iload_n 1, 1) := by decide +kernel
theorem dX2_joined_161 : decode cX2_joined 161 = .ok (.iload_n 2, 1) := by decide +kernel
theorem dX2_joined_162 : decode cX2_joined 162 = .ok (.imul, 1) := by decide +kernel
theorem dX2_joined_163 : decode cX2_joined 163 = .ok (.ireturn, 1) := by decide +kernel
theorem dX2_joined_164 : decode cX2_joined 164 = .ok (.iload_n 2, 1) := by decide +kernel
theorem dX2_joined_165 : decode cX2_joined 165 = .ok (.ifCond .ne 7, 3) := by decide +kernel
theorem dX2_joined_168 : decode cX2_joined 168 = .ok (.iconst 0, 1) := by decide +kernel
theorem dX2_joined_169 : decode cX2_joined 169 = .ok (.goto 6, 3) := by decide +kernel
theorem dX2_joined_172 : decode cX2_joined 172 = .ok (.iload_n 1, 1) := by decide +kernel
theorem dX2_joined_173 : decode cX2_joined 173 = .ok (.iload_n 2, 1) := by decide +kernel
theorem dX2_joined_174 : decode cX2_joined 174 = .ok (.idiv, 1) := by decide +kernel
theorem dX2_joined_175 : decode cX2_joined 175 = .ok (.ireturn, 1) := by decide +kernel
theorem dX2_truth_0 : decode cX2_truth 0 = .ok (.iload_n 0, 1) := by decide +kernel
theorem dX2_truth_1 : decode cX2_truth 1 = .ok (.ifCond .eq 7, 3) := by decide +kernel
theorem dX2_truth_4 : decode cX2_truth 4 = .ok (.iconst 1, 1) := by decide +kernel
theorem dX2_truth_5 : decode cX2_truth 5 = .ok (.goto 4, 3) := by decide +kernel
theorem dX2_truth_8 : decode cX2_truth 8 = .ok (.iconst 0, 1) := by decide +kernel
theorem dX2_truth_9 : decode cX2_truth 9 = .ok (.ireturn, 1) := by decide +kernel
theorem dX3_init_0 : decode cX3_init 0 = .ok (.aload_n 0, 1) := by decide +kernel
theorem dX3_init_1 : decode cX3_init 1 = .ok (.invokespecial 3, 3) := by decide +kernel
theorem dX3_init_4 : decode cX3_init 4 = .ok (.aload_n 0, 1) := by decide +kernel
theorem dX3_init_5 : decode cX3_init 5 = .ok (.bipush 96, 2) := by decide +kernel
theorem dX3_init_7 : decode cX3_init 7 = .ok (.newarray .int, 2) := by decide +kernel
theorem dX3_init_9 : decode cX3_init 9 = .ok (.putfield 9, 3) := by decide +kernel
theorem dX3_init_12 : decode cX3_init 12 = .ok (.aload_n 0, 1) := by decide +kernel
theorem dX3_init_13 : decode cX3_init 13 = .ok (.iconst 0, 1) := by decide +kernel
theorem dX3_init_14 : decode cX3_init 14 = .ok (.putfield 15, 3) := by decide +kernel
theorem dX3_init_17 : decode cX3_init 17 = .ok (.aload_n 0, 1) := by decide +kernel
theorem dX3_init_18 : decode cX3_init 18 = .ok (.iconst 0, 1) := by decide +kernel
theorem dX3_init_19 : decode cX3_init 19 = .ok (.putfield 19, 3) := by decide +kernel
theorem dX3_init_22 : decode cX3_init 22 = .ok (.aload_n 0, 1) := by decide +kernel
theorem dX3_init_23 : decode cX3_init 23 = .ok (.iconst 0, 1) := by decide +kernel
theorem dX3_init_24 : decode cX3_init 24 = .ok (.putfield 22, 3) := by decide +kernel
theorem dX3_init_27 : decode cX3_init 27 = .ok (.aload_n 0, 1) := by decide +kernel
theorem dX3_init_28 : decode cX3_init 28 = .ok (.iconst 0, 1) := by decide +kernel
theorem dX3_init_29 : decode cX3_init 29 = .ok (.putfield 25, 3) := by decide +kernel
theorem dX3_init_32 : decode cX3_init 32 = .ok (.aload_n 0, 1) := by decide +kernel
theorem dX3_init_33 : decode cX3_init 33 = .ok (.iconst 0, 1) := by decide +kernel
theorem dX3_init_34 : decode cX3_init 34 = .ok (.putfield 28, 3) := by decide +kernel
theorem dX3_init_37 : decode cX3_init 37 = .ok (.aload_n 0, 1) := by decide +kernel
theorem dX3_init_38 : decode cX3_init 38 = .ok (.iconst 0, 1) := by decide +kernel
theorem dX3_init_39 : decode cX3_init 39 = .ok (.putfield 31, 3) := by decide +kernel
theorem dX3_init_42 : decode cX3_init 42 = .ok (.aload_n 0, 1) := by decide +kernel
theorem dX3_init_43 : decode cX3_init 43 = .ok (.iconst 0, 1) := by decide +kernel
theorem dX3_init_44 : decode cX3_init 44 = .ok (.putfield 34, 3) := by decide +kernel
theorem dX3_init_47 : decode cX3_init 47 = .ok (.aload_n 0, 1) := by decide +kernel
theorem dX3_init_48 : decode cX3_init 48 = .ok (.bipush 96, 2) := by decide +kernel
theorem dX3_init_50 : decode cX3_init 50 = .ok (.newarray .int, 2) := by decide +kernel
theorem dX3_init_52 : decode cX3_init 52 = .ok (.putfield 37, 3) := by decide +kernel
theorem dX3_init_55 : decode cX3_init 55 = .ok (.aload_n 0, 1) := by decide +kernel
theorem dX3_init_56 : decode cX3_init 56 = .ok (.iconst 0, 1) := by decide +kernel
theorem dX3_init_57 : decode cX3_init 57 = .ok (.putfield 40, 3) := by decide +kernel
theorem dX3_init_60 : decode cX3_init 60 = .ok (.return_, 1) := by decide +kernel
theorem dX3_addFour_0 : decode cX3_addFour 0 = .ok (.bipush 24, 2) := by decide +kernel
theorem dX3_addFour_2 : decode cX3_addFour 2 = .ok (.istore_n 2, 1) := by decide +kernel
theorem dX3_addFour_3 : decode cX3_addFour 3 = .ok (.iload_n 2, 1) := by decide +kernel
theorem dX3_addFour_4 : decode cX3_addFour 4 = .ok (.ifCond .lt 44, 3) := by decide +kernel
theorem dX3_addFour_7 : decode cX3_addFour 7 = .ok (.aload_n 0, 1) := by decide +kernel
theorem dX3_addFour_8 : decode cX3_addFour 8 = .ok (.getfield 15, 3) := by decide +kernel
theorem dX3_addFour_11 : decode cX3_addFour 11 = .ok (.bipush 96, 2) := by decide +kernel
theorem dX3_addFour_13 : decode cX3_addFour 13 = .ok (.if_icmp .ge 35, 3) := by decide +kernel
theorem dX3_addFour_16 : decode cX3_addFour 16 = .ok (.aload_n 0, 1) := by decide +kernel
theorem dX3_addFour_17 : decode cX3_addFour 17 = .ok (.getfield 9, 3) := by decide +kernel
theorem dX3_addFour_20 : decode cX3_addFour 20 = .ok (.aload_n 0, 1) := by decide +kernel
theorem dX3_addFour_21 : decode cX3_addFour 21 = .ok (.getfield 15, 3) := by decide +kernel
theorem dX3_addFour_24 : decode cX3_addFour 24 = .ok (.iload_n 1, 1) := by decide +kernel
theorem dX3_addFour_25 : decode cX3_addFour 25 = .ok (.iload_n 2, 1) := by decide +kernel
theorem dX3_addFour_26 : decode cX3_addFour 26 = .ok (.iushr, 1) := by decide +kernel
theorem dX3_addFour_27 : decode cX3_addFour 27 = .ok (.sipush 255, 3) := by decide +kernel
theorem dX3_addFour_30 : decode cX3_addFour 30 = .ok (.iand, 1) := by decide +kernel
theorem dX3_addFour_31 : decode cX3_addFour 31 = .ok (.iastore, 1) := by decide +kernel
theorem dX3_addFour_32 : decode cX3_addFour 32 = .ok (.aload_n 0, 1) := by decide +kernel
theorem dX3_addFour_33 : decode cX3_addFour 33 = .ok (.dup, 1) := by decide +kernel
theorem dX3_addFour_34 : decode cX3_addFour 34 = .ok (.getfield 15, 3) := by decide +kernel
theorem dX3_addFour_37 : decode cX3_addFour 37 = .ok (.iconst 1, 1) := by decide +kernel
theorem dX3_addFour_38 : decode cX3_addFour 38 = .ok (.iadd, 1) := by decide +kernel
theorem dX3_addFour_39 : decode cX3_addFour 39 = .ok (.putfield 15, 3) := by decide +kernel
theorem dX3_addFour_42 : decode cX3_addFour 42 = .ok (.iinc 2 (-8), 3) := by decide +kernel
theorem dX3_addFour_45 : decode cX3_addFour 45 = .ok (.goto (-42), 3) := by decide +kernel
theorem dX3_addFour_48 : decode cX3_addFour 48 = .ok (.return_, 1) := by decide +kernel
theorem dX3_read_0 : decode cX3_read 0 = .ok (.aload_n 0, 1) := by decide +kernel
theorem dX3_read_1 : decode cX3_read 1 = .ok (.iconst 0, 1) := by decide +kernel
theorem dX3_read_2 : decode cX3_read 2 = .ok (.putfield 19, 3) := by decide +kernel
theorem dX3_read_5 : decode cX3_read 5 = .ok (.aload_n 0, 1) := by decide +kernel
theorem dX3_read_6 : decode cX3_read 6 = .ok (.iconst 0, 1) := by decide +kernel
theorem dX3_read_7 : decode cX3_read 7 = .ok (.putfield 25, 3) := by decide +kernel
theorem dX3_read_10 : decode cX3_read 10 = .ok (.aload_n 0, 1) := by decide +kernel
theorem dX3_read_11 : decode cX3_read 11 = .ok (.iconst 0, 1) := by decide +kernel
theorem dX3_read_12 : decode cX3_read 12 = .ok (.putfield 34, 3) := by decide +kernel
theorem dX3_read_15 : decode cX3_read 15 = .ok (.aload_n 0, 1) := by decide +kernel
theorem dX3_read_16 : decode cX3_read 16 = .ok (.iconst 0, 1) := by decide +kernel
theorem dX3_read_17 : decode cX3_read 17 = .ok (.putfield 40, 3) := by decide +kernel
theorem dX3_read_20 : decode cX3_read 20 = .ok (.aload_n 0, 1) := by decide +kernel
theorem dX3_read_21 : decode cX3_read 21 = .ok (.invokevirtual 43, 3) := by decide +kernel
theorem dX3_read_24 : decode cX3_read 24 = .ok (.aload_n 0, 1) := by decide +kernel
theorem dX3_read_25 : decode cX3_read 25 = .ok (.invokevirtual 46, 3) := by decide +kernel
theorem dX3_read_28 : decode cX3_read 28 = .ok (.ifCond .eq 24, 3) := by decide +kernel
theorem dX3_read_31 : decode cX3_read 31 = .ok (.aload_n 0, 1) := by decide +kernel
theorem dX3_read_32 : decode cX3_read 32 = .ok (.iconst 0, 1) := by decide +kernel
theorem dX3_read_33 : decode cX3_read 33 = .ok (.iconst 0, 1) := by decide +kernel
theorem dX3_read_34 : decode cX3_read 34 = .ok (.iconst 0, 1) := by decide +kernel
theorem dX3_read_35 : decode cX3_read 35 = .ok (.invokevirtual 50, 3) := by decide +kernel
theorem dX3_read_38 : decode cX3_read 38 = .ok (.ifCond .eq 14, 3) := by decide +kernel
theorem dX3_read_41 : decode cX3_read 41 = .ok (.aload_n 0, 1) := by decide +kernel
theorem dX3_read_42 : decode cX3_read 42 = .ok (.getfield 19, 3) := by decide +kernel
theorem dX3_read_45 : decode cX3_read 45 = .ok (.ifCond .ne 7, 3) := by decide +kernel
theorem dX3_read_48 : decode cX3_read 48 = .ok (.iconst 1, 1) := by decide +kernel
theorem dX3_read_49 : decode cX3_read 49 = .ok (.goto 4, 3) := by decide +kernel
theorem dX3_read_52 : decode cX3_read 52 = .ok (.iconst 0, 1) := by decide +kernel
theorem dX3_read_53 : decode cX3_read 53 = .ok (.istore_n 1, 1) := by decide +kernel
theorem dX3_read_54 : decode cX3_read 54 = .ok (.iload_n 1, 1) := by decide +kernel
theorem dX3_read_55 : decode cX3_read 55 = .ok (.ifCond .eq 7, 3) := by decide +kernel
theorem dX3_read_58 : decode cX3_read 58 = .ok (.iconst (-1), 1) := by decide +kernel
theorem dX3_read_59 : decode cX3_read 59 = .ok (.goto 7, 3) := by decide +kernel
theorem dX3_read_62 : decode cX3_read 62 = .ok (.aload_n 0, 1) := by decide +kernel
theorem dX3_read_63 : decode cX3_read 63 = .ok (.getfield 22, 3) := by decide +kernel
theorem dX3_read_66 : decode cX3_read 66 = .ok (.ireturn, 1) := by decide +kernel
theorem dX3_law_0 : decode cX3_law 0 = .ok (.new 54, 3) := by decide +kernel
theorem dX3_law_3 : decode cX3_law 3 = .ok (.dup, 1) := by decide +kernel
theorem dX3_law_4 : decode cX3_law 4 = .ok (.aload_n 0, 1) := by decide +kernel
theorem dX3_law_5 : decode cX3_law 5 = .ok (.getfield 31, 3) := by decide +kernel
theorem dX3_law_8 : decode cX3_law 8 = .ok (.aload_n 0, 1) := by decide +kernel
theorem dX3_law_9 : decode cX3_law 9 = .ok (.getfield 34, 3) := by decide +kernel
theorem dX3_law_12 : decode cX3_law 12 = .ok (.aload_n 0, 1) := by decide +kernel
theorem dX3_law_13 : decode cX3_law 13 = .ok (.getfield 37, 3) := by decide +kernel
theorem dX3_law_16 : decode cX3_law 16 = .ok (.aload_n 0, 1) := by decide +kernel
theorem dX3_law_17 : decode cX3_law 17 = .ok (.getfield 40, 3) := by decide +kernel
theorem dX3_law_20 : decode cX3_law 20 = .ok (.invokestatic 56, 3) := by decide +kernel
theorem dX3_law_23 : decode cX3_law 23 = .ok (.invokespecial 62, 3) := by decide +kernel
theorem dX3_law_26 : decode cX3_law 26 = .ok (.areturn, 1) := by decide +kernel
theorem dX3_next_0 : decode cX3_next 0 = .ok (.aload_n 0, 1) := by decide +kernel
theorem dX3_next_1 : decode cX3_next 1 = .ok (.getfield 19, 3) := by decide +kernel
theorem dX3_next_4 : decode cX3_next 4 = .ok (.iconst 1, 1) := by decide +kernel
theorem dX3_next_5 : decode cX3_next 5 = .ok (.if_icmp .eq 11, 3) := by decide +kernel
theorem dX3_next_8 : decode cX3_next 8 = .ok (.aload_n 0, 1) := by decide +kernel
theorem dX3_next_9 : decode cX3_next 9 = .ok (.getfield 19, 3) := by decide +kernel
theorem dX3_next_12 : decode cX3_next 12 = .ok (.iconst 2, 1) := by decide +kernel
theorem dX3_next_13 : decode cX3_next 13 = .ok (.if_icmp .ne 7, 3) := by decide +kernel
theorem dX3_next_16 : decode cX3_next 16 = .ok (.iconst 1, 1) := by decide +kernel
theorem dX3_next_17 : decode cX3_next 17 = .ok (.goto 4, 3) := by decide +kernel
theorem dX3_next_20 : decode cX3_next 20 = .ok (.iconst 0, 1) := by decide +kernel
theorem dX3_next_21 : decode cX3_next 21 = .ok (.istore_n 1, 1) := by decide +kernel
theorem dX3_next_22 : decode cX3_next 22 = .ok (.aload_n 0, 1) := by decide +kernel
theorem dX3_next_23 : decode cX3_next 23 = .ok (.getfield 25, 3) := by decide +kernel
theorem dX3_next_26 : decode cX3_next 26 = .ok (.istore_n 2, 1) := by decide +kernel
theorem dX3_next_27 : decode cX3_next 27 = .ok (.aload_n 0, 1) := by decide +kernel
theorem dX3_next_28 : decode cX3_next 28 = .ok (.aload_n 0, 1) := by decide +kernel
theorem dX3_next_29 : decode cX3_next 29 = .ok (.getfield 25, 3) := by decide +kernel
theorem dX3_next_32 : decode cX3_next 32 = .ok (.putfield 22, 3) := by decide +kernel
theorem dX3_next_35 : decode cX3_next 35 = .ok (.aload_n 0, 1) := by decide +kernel
theorem dX3_next_36 : decode cX3_next 36 = .ok (.getfield 22, 3) := by decide +kernel
theorem dX3_next_39 : decode cX3_next 39 = .ok (.aload_n 0, 1) := by decide +kernel
theorem dX3_next_40 : decode cX3_next 40 = .ok (.getfield 15, 3) := by decide +kernel
theorem dX3_next_43 : decode cX3_next 43 = .ok (.if_icmp .ge 30, 3) := by decide +kernel
theorem dX3_next_46 : decode cX3_next 46 = .ok (.aload_n 0, 1) := by decide +kernel
theorem dX3_next_47 : decode cX3_next 47 = .ok (.getfield 9, 3) := by decide +kernel
theorem dX3_next_50 : decode cX3_next 50 = .ok (.aload_n 0, 1) := by decide +kernel
theorem dX3_next_51 : decode cX3_next 51 = .ok (.getfield 22, 3) := by decide +kernel
theorem dX3_next_54 : decode cX3_next 54 = .ok (.iaload, 1) := by decide +kernel
theorem dX3_next_55 : decode cX3_next 55 = .ok (.bipush 32, 2) := by decide +kernel
theorem dX3_next_57 : decode cX3_next 57 = .ok (.if_icmp .ne 16, 3) := by decide +kernel
theorem dX3_next_60 : decode cX3_next 60 = .ok (.aload_n 0, 1) := by decide +kernel
theorem dX3_next_61 : decode cX3_next 61 = .ok (.dup, 1) := by decide +kernel
theorem dX3_next_62 : decode cX3_next 62 = .ok (.getfield 22, 3) := by decide +kernel
theorem dX3_next_65 : decode cX3_next 65 = .ok (.iconst 1, 1) := by decide +kernel
theorem dX3_next_66 : decode cX3_next 66 = .ok (.iadd, 1) := by decide +kernel
theorem dX3_next_67 : decode cX3_next 67 = .ok (.putfield 22, 3) := by decide +kernel
theorem dX3_next_70 : decode cX3_next 70 = .ok (.goto (-35), 3) := by decide +kernel
theorem dX3_next_73 : decode cX3_next 73 = .ok (.aload_n 0, 1) := by decide +kernel
theorem dX3_next_74 : decode cX3_next 74 = .ok (.aload_n 0, 1) := by decide +kernel
theorem dX3_next_75 : decode cX3_next 75 = .ok (.getfield 22, 3) := by decide +kernel
theorem dX3_next_78 : decode cX3_next 78 = .ok (.putfield 25, 3) := by decide +kernel
theorem dX3_next_81 : decode cX3_next 81 = .ok (.aload_n 0, 1) := by decide +kernel
theorem dX3_next_82 : decode cX3_next 82 = .ok (.getfield 22, 3) := by decide +kernel
theorem dX3_next_85 : decode cX3_next 85 = .ok (.aload_n 0, 1) := by decide +kernel
theorem dX3_next_86 : decode cX3_next 86 = .ok (.getfield 15, 3) := by decide +kernel
theorem dX3_next_89 : decode cX3_next 89 = .ok (.if_icmp .lt 9, 3) := by decide +kernel
theorem dX3_next_92 : decode cX3_next 92 = .ok (.aload_n 0, 1) := by decide +kernel
theorem dX3_next_93 : decode cX3_next 93 = .ok (.iconst 0, 1) := by decide +kernel
theorem dX3_next_94 : decode cX3_next 94 = .ok (.putfield 19, 3) := by decide +kernel
theorem dX3_next_97 : decode cX3_next 97 = .ok (.return_, 1) := by decide +kernel
theorem dX3_next_98 : decode cX3_next 98 = .ok (.aload_n 0, 1) := by decide +kernel
theorem dX3_next_99 : decode cX3_next 99 = .ok (.aload_n 0, 1) := by decide +kernel
theorem dX3_next_100 : decode cX3_next 100 = .ok (.getfield 9, 3) := by decide +kernel
theorem dX3_next_103 : decode cX3_next 103 = .ok (.aload_n 0, 1) := by decide +kernel
theorem dX3_next_104 : decode cX3_next 104 = .ok (.getfield 22, 3) := by decide +kernel
theorem dX3_next_107 : decode cX3_next 107 = .ok (.iaload, 1) := by decide +kernel
theorem dX3_next_108 : decode cX3_next 108 = .ok (.putfield 28, 3) := by decide +kernel
theorem dX3_next_111 : decode cX3_next 111 = .ok (.aload_n 0, 1) := by decide +kernel
theorem dX3_next_112 : decode cX3_next 112 = .ok (.aload_n 0, 1) := by decide +kernel
theorem dX3_next_113 : decode cX3_next 113 = .ok (.getfield 28, 3) := by decide +kernel
theorem dX3_next_116 : decode cX3_next 116 = .ok (.invokestatic 65, 3) := by decide +kernel
theorem dX3_next_119 : decode cX3_next 119 = .ok (.putfield 19, 3) := by decide +kernel
theorem dX3_next_122 : decode cX3_next 122 = .ok (.aload_n 0, 1) := by decide +kernel
theorem dX3_next_123 : decode cX3_next 123 = .ok (.aload_n 0, 1) := by decide +kernel
theorem dX3_next_124 : decode cX3_next 124 = .ok (.getfield 19, 3) := by decide +kernel
theorem dX3_next_127 : decode cX3_next 127 = .ok (.iconst 3, 1) := by decide +kernel
theorem dX3_next_128 : decode cX3_next 128 = .ok (.if_icmp .ne 12, 3) := by decide +kernel
theorem dX3_next_131 : decode cX3_next 131 = .ok (.aload_n 0, 1) := by decide +kernel
theorem dX3_next_132 : decode cX3_next 132 = .ok (.getfield 22, 3) := by decide +kernel
theorem dX3_next_135 : decode cX3_next 135 = .ok (.iconst 1, 1) := by decide +kernel
theorem dX3_next_136 : decode cX3_next 136 = .ok (.iadd, 1) := by decide +kernel
theorem dX3_next_137 : decode cX3_next 137 = .ok (.goto 7, 3) := by decide +kernel
theorem dX3_next_140 : decode cX3_next 140 = .ok (.aload_n 0, 1) := by decide +kernel
theorem dX3_next_141 : decode cX3_next 141 = .ok (.invokevirtual 69, 3) := by decide +kernel
theorem dX3_next_144 : decode cX3_next 144 = .ok (.putfield 25, 3) := by decide +kernel
theorem dX3_next_147 : decode cX3_next 147 = .ok (.aload_n 0, 1) := by decide +kernel
theorem dX3_next_148 : decode cX3_next 148 = .ok (.getfield 19, 3) := by decide +kernel
theorem dX3_next_151 : decode cX3_next 151 = .ok (.iconst 2, 1) := by decide +kernel
theorem dX3_next_152 : decode cX3_next 152 = .ok (.if_icmp .ne 7, 3) := by decide +kernel
theorem dX3_next_155 : decode cX3_next 155 = .ok (.aload_n 0, 1) := by decide +kernel
theorem dX3_next_156 : decode cX3_next 156 = .ok (.invokevirtual 73, 3) := by decide +kernel
theorem dX3_next_159 : decode cX3_next 159 = .ok (.aload_n 0, 1) := by decide +kernel
theorem dX3_next_160 : decode cX3_next 160 = .ok (.getfield 19, 3) := by decide +kernel
theorem dX3_next_163 : decode cX3_next 163 = .ok (.iconst 3, 1) := by decide +kernel
theorem dX3_next_164 : decode cX3_next 164 = .ok (.if_icmp .eq 20, 3) := by decide +kernel
theorem dX3_next_167 : decode cX3_next 167 = .ok (.iload_n 1, 1) := by decide +kernel
theorem dX3_next_168 : decode cX3_next 168 = .ok (.ifCond .eq 16, 3) := by decide +kernel
theorem dX3_next_171 : decode cX3_next 171 = .ok (.aload_n 0, 1) := by decide +kernel
theorem dX3_next_172 : decode cX3_next 172 = .ok (.getfield 22, 3) := by decide +kernel
theorem dX3_next_175 : decode cX3_next 175 = .ok (.iload_n 2, 1) := by decide +kernel
theorem dX3_next_176 : decode cX3_next 176 = .ok (.if_icmp .ne 8, 3) := by decide +kernel
theorem dX3_next_179 : decode cX3_next 179 = .ok (.aload_n 0, 1) := by decide +kernel
theorem dX3_next_180 : decode cX3_next 180 = .ok (.iconst 4, 1) := by decide +kernel
theorem dX3_next_181 : decode cX3_next 181 = .ok (.putfield 19, 3) := by decide +kernel
theorem dX3_next_184 : decode cX3_next 184 = .ok (.return_, 1) := by decide +kernel
theorem dX3_sortOf_0 : decode cX3_sortOf 0 = .ok (.iload_n 0, 1) := by decide +kernel
theorem dX3_sortOf_1 : decode cX3_sortOf 1 = .ok (.bipush 97, 2) := by decide +kernel
theorem dX3_sortOf_3 : decode cX3_sortOf 3 = .ok (.if_icmp .lt 11, 3) := by decide +kernel
theorem dX3_sortOf_6 : decode cX3_sortOf 6 = .ok (.iload_n 0, 1) := by decide +kernel
theorem dX3_sortOf_7 : decode cX3_sortOf 7 = .ok (.bipush 122, 2) := by decide +kernel
theorem dX3_sortOf_9 : decode cX3_sortOf 9 = .ok (.if_icmp .gt 5, 3) := by decide +kernel
theorem dX3_sortOf_12 : decode cX3_sortOf 12 = .ok (.iconst 1, 1) := by decide +kernel
theorem dX3_sortOf_13 : decode cX3_sortOf 13 = .ok (.ireturn, 1) := by decide +kernel
theorem dX3_sortOf_14 : decode cX3_sortOf 14 = .ok (.iload_n 0, 1) := by decide +kernel
theorem dX3_sortOf_15 : decode cX3_sortOf 15 = .ok (.bipush 48, 2) := by decide +kernel
theorem dX3_sortOf_17 : decode cX3_sortOf 17 = .ok (.if_icmp .lt 13, 3) := by decide +kernel
theorem dX3_sortOf_20 : decode cX3_sortOf 20 = .ok (.iload_n 0, 1) := by decide +kernel
theorem dX3_sortOf_21 : decode cX3_sortOf 21 = .ok (.bipush 57, 2) := by decide +kernel
theorem dX3_sortOf_23 : decode cX3_sortOf 23 = .ok (.if_icmp .gt 7, 3) := by decide +kernel
theorem dX3_sortOf_26 : decode cX3_sortOf 26 = .ok (.iconst 2, 1) := by decide +kernel
theorem dX3_sortOf_27 : decode cX3_sortOf 27 = .ok (.goto 4, 3) := by decide +kernel
theorem dX3_sortOf_30 : decode cX3_sortOf 30 = .ok (.iconst 3, 1) := by decide +kernel
theorem dX3_sortOf_31 : decode cX3_sortOf 31 = .ok (.ireturn, 1) := by decide +kernel
theorem dX3_endOfWord_0 : decode cX3_endOfWord 0 = .ok (.aload_n 0, 1) := by decide +kernel
theorem dX3_endOfWord_1 : decode cX3_endOfWord 1 = .ok (.getfield 22, 3) := by decide +kernel
theorem dX3_endOfWord_4 : decode cX3_endOfWord 4 = .ok (.istore_n 1, 1) := by decide +kernel
theorem dX3_endOfWord_5 : decode cX3_endOfWord 5 = .ok (.iload_n 1, 1) := by decide +kernel
theorem dX3_endOfWord_6 : decode cX3_endOfWord 6 = .ok (.aload_n 0, 1) := by decide +kernel
theorem dX3_endOfWord_7 : decode cX3_endOfWord 7 = .ok (.getfield 15, 3) := by decide +kernel
theorem dX3_endOfWord_10 : decode cX3_endOfWord 10 = .ok (.if_icmp .ge 25, 3) := by decide +kernel
theorem dX3_endOfWord_13 : decode cX3_endOfWord 13 = .ok (.aload_n 0, 1) := by decide +kernel
theorem dX3_endOfWord_14 : decode cX3_endOfWord 14 = .ok (.getfield 9, 3) := by decide +kernel
theorem dX3_endOfWord_17 : decode cX3_endOfWord 17 = .ok (.iload_n 1, 1) := by decide +kernel
theorem dX3_endOfWord_18 : decode cX3_endOfWord 18 = .ok (.iaload, 1) := by decide +kernel
theorem dX3_endOfWord_19 : decode cX3_endOfWord 19 = .ok (.invokestatic 65, 3) := by decide +kernel
theorem dX3_endOfWord_22 : decode cX3_endOfWord 22 = .ok (.aload_n 0, 1) := by decide +kernel
theorem dX3_endOfWord_23 : decode cX3_endOfWord 23 = .ok (.getfield 19, 3) := by decide +kernel
theorem dX3_endOfWord_26 : decode cX3_endOfWord 26 = .ok (.if_icmp .ne 9, 3) := by decide +kernel
theorem dX3_endOfWord_29 : decode cX3_endOfWord 29 = .ok (.iinc 1 1, 3) := by decide +kernel
theorem dX3_endOfWord_32 : decode cX3_endOfWord 32 = .ok (.goto (-27), 3) := by decide +kernel
theorem dX3_endOfWord_35 : decode cX3_endOfWord 35 = .ok (.iload_n 1, 1) := by decide +kernel
theorem dX3_endOfWord_36 : decode cX3_endOfWord 36 = .ok (.ireturn, 1) := by decide +kernel
theorem dX3_readValue_0 : decode cX3_readValue 0 = .ok (.aload_n 0, 1) := by decide +kernel
theorem dX3_readValue_1 : decode cX3_readValue 1 = .ok (.getfield 25, 3) := by decide +kernel
theorem dX3_readValue_4 : decode cX3_readValue 4 = .ok (.aload_n 0, 1) := by decide +kernel
theorem dX3_readValue_5 : decode cX3_readValue 5 = .ok (.getfield 22, 3) := by decide +kernel
theorem dX3_readValue_8 : decode cX3_readValue 8 = .ok (.isub, 1) := by decide +kernel
theorem dX3_readValue_9 : decode cX3_readValue 9 = .ok (.iconst 4, 1) := by decide +kernel
theorem dX3_readValue_10 : decode cX3_readValue 10 = .ok (.if_icmp .le 9, 3) := by decide +kernel
theorem dX3_readValue_13 : decode cX3_readValue 13 = .ok (.aload_n 0, 1) := by decide +kernel
theorem dX3_readValue_14 : decode cX3_readValue 14 = .ok (.iconst 4, 1) := by decide +kernel
theorem dX3_readValue_15 : decode cX3_readValue 15 = .ok (.putfield 19, 3) := by decide +kernel
theorem dX3_readValue_18 : decode cX3_readValue 18 = .ok (.return_, 1) := by decide +kernel
theorem dX3_readValue_19 : decode cX3_readValue 19 = .ok (.aload_n 0, 1) := by decide +kernel
theorem dX3_readValue_20 : decode cX3_readValue 20 = .ok (.iconst 0, 1) := by decide +kernel
theorem dX3_readValue_21 : decode cX3_readValue 21 = .ok (.putfield 28, 3) := by decide +kernel
theorem dX3_readValue_24 : decode cX3_readValue 24 = .ok (.aload_n 0, 1) := by decide +kernel
theorem dX3_readValue_25 : decode cX3_readValue 25 = .ok (.getfield 22, 3) := by decide +kernel
theorem dX3_readValue_28 : decode cX3_readValue 28 = .ok (.istore_n 1, 1) := by decide +kernel
theorem dX3_readValue_29 : decode cX3_readValue 29 = .ok (.iload_n 1, 1) := by decide +kernel
theorem dX3_readValue_30 : decode cX3_readValue 30 = .ok (.aload_n 0, 1) := by decide +kernel
theorem dX3_readValue_31 : decode cX3_readValue 31 = .ok (.getfield 25, 3) := by decide +kernel
theorem dX3_readValue_34 : decode cX3_readValue 34 = .ok (.if_icmp .ge 30, 3) := by decide +kernel
theorem dX3_readValue_37 : decode cX3_readValue 37 = .ok (.aload_n 0, 1) := by decide +kernel
theorem dX3_readValue_38 : decode cX3_readValue 38 = .ok (.aload_n 0, 1) := by decide +kernel
theorem dX3_readValue_39 : decode cX3_readValue 39 = .ok (.getfield 28, 3) := by decide +kernel
theorem dX3_readValue_42 : decode cX3_readValue 42 = .ok (.bipush 10, 2) := by decide +kernel
theorem dX3_readValue_44 : decode cX3_readValue 44 = .ok (.imul, 1) := by decide +kernel
theorem dX3_readValue_45 : decode cX3_readValue 45 = .ok (.aload_n 0, 1) := by decide +kernel
theorem dX3_readValue_46 : decode cX3_readValue 46 = .ok (.getfield 9, 3) := by decide +kernel
theorem dX3_readValue_49 : decode cX3_readValue 49 = .ok (.iload_n 1, 1) := by decide +kernel
theorem dX3_readValue_50 : decode cX3_readValue 50 = .ok (.iaload, 1) := by decide +kernel
theorem dX3_readValue_51 : decode cX3_readValue 51 = .ok (.iadd, 1) := by decide +kernel
theorem dX3_readValue_52 : decode cX3_readValue 52 = .ok (.bipush 48, 2) := by decide +kernel
theorem dX3_readValue_54 : decode cX3_readValue 54 = .ok (.isub, 1) := by decide +kernel
theorem dX3_readValue_55 : decode cX3_readValue 55 = .ok (.putfield 28, 3) := by decide +kernel
theorem dX3_readValue_58 : decode cX3_readValue 58 = .ok (.iinc 1 1, 3) := by decide +kernel
theorem dX3_readValue_61 : decode cX3_readValue 61 = .ok (.goto (-32), 3) := by decide +kernel
theorem dX3_readValue_64 : decode cX3_readValue 64 = .ok (.return_, 1) := by decide +kernel
theorem dX3_readKey_0 : decode cX3_readKey 0 = .ok (.iconst 0, 1) := by decide +kernel
theorem dX3_readKey_1 : decode cX3_readKey 1 = .ok (.istore_n 1, 1) := by decide +kernel
theorem dX3_readKey_2 : decode cX3_readKey 2 = .ok (.iload_n 1, 1) := by decide +kernel
theorem dX3_readKey_3 : decode cX3_readKey 3 = .ok (.iconst 3, 1) := by decide +kernel
theorem dX3_readKey_4 : decode cX3_readKey 4 = .ok (.if_icmp .ge 31, 3) := by decide +kernel
theorem dX3_readKey_7 : decode cX3_readKey 7 = .ok (.aload_n 0, 1) := by decide +kernel
theorem dX3_readKey_8 : decode cX3_readKey 8 = .ok (.iload_n 1, 1) := by decide +kernel
theorem dX3_readKey_9 : decode cX3_readKey 9 = .ok (.invokestatic 76, 3) := by decide +kernel
theorem dX3_readKey_12 : decode cX3_readKey 12 = .ok (.invokevirtual 80, 3) := by decide +kernel
theorem dX3_readKey_15 : decode cX3_readKey 15 = .ok (.ifCond .eq 14, 3) := by decide +kernel
theorem dX3_readKey_18 : decode cX3_readKey 18 = .ok (.aload_n 0, 1) := by decide +kernel
theorem dX3_readKey_19 : decode cX3_readKey 19 = .ok (.iload_n 1, 1) := by decide +kernel
theorem dX3_readKey_20 : decode cX3_readKey 20 = .ok (.putfield 31, 3) := by decide +kernel
theorem dX3_readKey_23 : decode cX3_readKey 23 = .ok (.aload_n 0, 1) := by decide +kernel
theorem dX3_readKey_24 : decode cX3_readKey 24 = .ok (.invokevirtual 43, 3) := by decide +kernel
theorem dX3_readKey_27 : decode cX3_readKey 27 = .ok (.iconst 1, 1) := by decide +kernel
theorem dX3_readKey_28 : decode cX3_readKey 28 = .ok (.ireturn, 1) := by decide +kernel
theorem dX3_readKey_29 : decode cX3_readKey 29 = .ok (.iinc 1 1, 3) := by decide +kernel
theorem dX3_readKey_32 : decode cX3_readKey 32 = .ok (.goto (-30), 3) := by decide +kernel
theorem dX3_readKey_35 : decode cX3_readKey 35 = .ok (.iconst 0, 1) := by decide +kernel
theorem dX3_readKey_36 : decode cX3_readKey 36 = .ok (.ireturn, 1) := by decide +kernel
theorem dX3_isWord_0 : decode cX3_isWord 0 = .ok (.aload_n 0, 1) := by decide +kernel
theorem dX3_isWord_1 : decode cX3_isWord 1 = .ok (.getfield 19, 3) := by decide +kernel
theorem dX3_isWord_4 : decode cX3_isWord 4 = .ok (.iconst 1, 1) := by decide +kernel
theorem dX3_isWord_5 : decode cX3_isWord 5 = .ok (.if_icmp .ne 19, 3) := by decide +kernel
theorem dX3_isWord_8 : decode cX3_isWord 8 = .ok (.aload_n 0, 1) := by decide +kernel
theorem dX3_isWord_9 : decode cX3_isWord 9 = .ok (.getfield 25, 3) := by decide +kernel
theorem dX3_isWord_12 : decode cX3_isWord 12 = .ok (.aload_n 0, 1) := by decide +kernel
theorem dX3_isWord_13 : decode cX3_isWord 13 = .ok (.getfield 22, 3) := by decide +kernel
theorem dX3_isWord_16 : decode cX3_isWord 16 = .ok (.isub, 1) := by decide +kernel
theorem dX3_isWord_17 : decode cX3_isWord 17 = .ok (.aload_n 1, 1) := by decide +kernel
theorem dX3_isWord_18 : decode cX3_isWord 18 = .ok (.invokevirtual 84, 3) := by decide +kernel
theorem dX3_isWord_21 : decode cX3_isWord 21 = .ok (.if_icmp .eq 5, 3) := by decide +kernel
theorem dX3_isWord_24 : decode cX3_isWord 24 = .ok (.iconst 0, 1) := by decide +kernel
theorem dX3_isWord_25 : decode cX3_isWord 25 = .ok (.ireturn, 1) := by decide +kernel
theorem dX3_isWord_26 : decode cX3_isWord 26 = .ok (.iconst 0, 1) := by decide +kernel
theorem dX3_isWord_27 : decode cX3_isWord 27 = .ok (.istore_n 2, 1) := by decide +kernel
theorem dX3_isWord_28 : decode cX3_isWord 28 = .ok (.iload_n 2, 1) := by decide +kernel
theorem dX3_isWord_29 : decode cX3_isWord 29 = .ok (.aload_n 1, 1) := by decide +kernel
theorem dX3_isWord_30 : decode cX3_isWord 30 = .ok (.invokevirtual 84, 3) := by decide +kernel
theorem dX3_isWord_33 : decode cX3_isWord 33 = .ok (.if_icmp .ge 30, 3) := by decide +kernel
theorem dX3_isWord_36 : decode cX3_isWord 36 = .ok (.aload_n 0, 1) := by decide +kernel
theorem dX3_isWord_37 : decode cX3_isWord 37 = .ok (.getfield 9, 3) := by decide +kernel
theorem dX3_isWord_40 : decode cX3_isWord 40 = .ok (.aload_n 0, 1) := by decide +kernel
theorem dX3_isWord_41 : decode cX3_isWord 41 = .ok (.getfield 22, 3) := by decide +kernel
theorem dX3_isWord_44 : decode cX3_isWord 44 = .ok (.iload_n 2, 1) := by decide +kernel
theorem dX3_isWord_45 : decode cX3_isWord 45 = .ok (.iadd, 1) := by decide +kernel
theorem dX3_isWord_46 : decode cX3_isWord 46 = .ok (.iaload, 1) := by decide +kernel
theorem dX3_isWord_47 : decode cX3_isWord 47 = .ok (.aload_n 1, 1) := by decide +kernel
theorem dX3_isWord_48 : decode cX3_isWord 48 = .ok (.iload_n 2, 1) := by decide +kernel
theorem dX3_isWord_49 : decode cX3_isWord 49 = .ok (.invokevirtual 88, 3) := by decide +kernel
theorem dX3_isWord_52 : decode cX3_isWord 52 = .ok (.if_icmp .eq 5, 3) := by decide +kernel
theorem dX3_isWord_55 : decode cX3_isWord 55 = .ok (.iconst 0, 1) := by decide +kernel
theorem dX3_isWord_56 : decode cX3_isWord 56 = .ok (.ireturn, 1) := by decide +kernel
theorem dX3_isWord_57 : decode cX3_isWord 57 = .ok (.iinc 2 1, 3) := by decide +kernel
theorem dX3_isWord_60 : decode cX3_isWord 60 = .ok (.goto (-32), 3) := by decide +kernel
theorem dX3_isWord_63 : decode cX3_isWord 63 = .ok (.iconst 1, 1) := by decide +kernel
theorem dX3_isWord_64 : decode cX3_isWord 64 = .ok (.ireturn, 1) := by decide +kernel
theorem dX3_nameOfKey_0 : decode cX3_nameOfKey 0 = .ok (.iload_n 0, 1) := by decide +kernel
theorem dX3_nameOfKey_1 : decode cX3_nameOfKey 1 = .ok (.lookupswitch 33 #[(0, 27), (1, 30)], 27) := by decide +kernel
theorem dX3_nameOfKey_28 : decode cX3_nameOfKey 28 = .ok (.ldc 92, 2) := by decide +kernel
theorem dX3_nameOfKey_30 : decode cX3_nameOfKey 30 = .ok (.areturn, 1) := by decide +kernel
theorem dX3_nameOfKey_31 : decode cX3_nameOfKey 31 = .ok (.ldc 94, 2) := by decide +kernel
theorem dX3_nameOfKey_33 : decode cX3_nameOfKey 33 = .ok (.areturn, 1) := by decide +kernel
theorem dX3_nameOfKey_34 : decode cX3_nameOfKey 34 = .ok (.ldc 96, 2) := by decide +kernel
theorem dX3_nameOfKey_36 : decode cX3_nameOfKey 36 = .ok (.areturn, 1) := by decide +kernel
theorem dX3_namesOfKey_0 : decode cX3_namesOfKey 0 = .ok (.iload_n 0, 1) := by decide +kernel
theorem dX3_namesOfKey_1 : decode cX3_namesOfKey 1 = .ok (.lookupswitch 33 #[(0, 27), (1, 30)], 27) := by decide +kernel
theorem dX3_namesOfKey_28 : decode cX3_namesOfKey 28 = .ok (.ldc 98, 2) := by decide +kernel
theorem dX3_namesOfKey_30 : decode cX3_namesOfKey 30 = .ok (.areturn, 1) := by decide +kernel
theorem dX3_namesOfKey_31 : decode cX3_namesOfKey 31 = .ok (.ldc 100, 2) := by decide +kernel
theorem dX3_namesOfKey_33 : decode cX3_namesOfKey 33 = .ok (.areturn, 1) := by decide +kernel
theorem dX3_namesOfKey_34 : decode cX3_namesOfKey 34 = .ok (.ldc 102, 2) := by decide +kernel
theorem dX3_namesOfKey_36 : decode cX3_namesOfKey 36 = .ok (.areturn, 1) := by decide +kernel
theorem dX3_signsOf_0 : decode cX3_signsOf 0 = .ok (.iload_n 0, 1) := by decide +kernel
theorem dX3_signsOf_1 : decode cX3_signsOf 1 = .ok (.tableswitch 43 0 3 #[31, 34, 37, 40], 31) := by decide +kernel
theorem dX3_signsOf_32 : decode cX3_signsOf 32 = .ok (.ldc 104, 2) := by decide +kernel
theorem dX3_signsOf_34 : decode cX3_signsOf 34 = .ok (.areturn, 1) := by decide +kernel
theorem dX3_signsOf_35 : decode cX3_signsOf 35 = .ok (.ldc 106, 2) := by decide +kernel
theorem dX3_signsOf_37 : decode cX3_signsOf 37 = .ok (.areturn, 1) := by decide +kernel
theorem dX3_signsOf_38 : decode cX3_signsOf 38 = .ok (.ldc 108, 2) := by decide +kernel
theorem dX3_signsOf_40 : decode cX3_signsOf 40 = .ok (.areturn, 1) := by decide +kernel
theorem dX3_signsOf_41 : decode cX3_signsOf 41 = .ok (.ldc 110, 2) := by decide +kernel
theorem dX3_signsOf_43 : decode cX3_signsOf 43 = .ok (.areturn, 1) := by decide +kernel
theorem dX3_signsOf_44 : decode cX3_signsOf 44 = .ok (.ldc 112, 2) := by decide +kernel
theorem dX3_signsOf_46 : decode cX3_signsOf 46 = .ok (.areturn, 1) := by decide +kernel
theorem dX3_readChain_0 : decode cX3_readChain 0 = .ok (.iload_n 1, 1) := by decide +kernel
theorem dX3_readChain_1 : decode cX3_readChain 1 = .ok (.iconst 4, 1) := by decide +kernel
theorem dX3_readChain_2 : decode cX3_readChain 2 = .ok (.if_icmp .le 10, 3) := by decide +kernel
theorem dX3_readChain_5 : decode cX3_readChain 5 = .ok (.aload_n 0, 1) := by decide +kernel
theorem dX3_readChain_6 : decode cX3_readChain 6 = .ok (.iload_n 2, 1) := by decide +kernel
theorem dX3_readChain_7 : decode cX3_readChain 7 = .ok (.iload_n 3, 1) := by decide +kernel
theorem dX3_readChain_8 : decode cX3_readChain 8 = .ok (.invokevirtual 114, 3) := by decide +kernel
theorem dX3_readChain_11 : decode cX3_readChain 11 = .ok (.ireturn, 1) := by decide +kernel
theorem dX3_readChain_12 : decode cX3_readChain 12 = .ok (.aload_n 0, 1) := by decide +kernel
theorem dX3_readChain_13 : decode cX3_readChain 13 = .ok (.iload_n 1, 1) := by decide +kernel
theorem dX3_readChain_14 : decode cX3_readChain 14 = .ok (.iconst 1, 1) := by decide +kernel
theorem dX3_readChain_15 : decode cX3_readChain 15 = .ok (.iadd, 1) := by decide +kernel
theorem dX3_readChain_16 : decode cX3_readChain 16 = .ok (.iload_n 2, 1) := by decide +kernel
theorem dX3_readChain_17 : decode cX3_readChain 17 = .ok (.iload_n 3, 1) := by decide +kernel
theorem dX3_readChain_18 : decode cX3_readChain 18 = .ok (.invokevirtual 50, 3) := by decide +kernel
theorem dX3_readChain_21 : decode cX3_readChain 21 = .ok (.ifCond .ne 5, 3) := by decide +kernel
theorem dX3_readChain_24 : decode cX3_readChain 24 = .ok (.iconst 0, 1) := by decide +kernel
theorem dX3_readChain_25 : decode cX3_readChain 25 = .ok (.ireturn, 1) := by decide +kernel
theorem dX3_readChain_26 : decode cX3_readChain 26 = .ok (.iload_n 1, 1) := by decide +kernel
theorem dX3_readChain_27 : decode cX3_readChain 27 = .ok (.iconst 2, 1) := by decide +kernel
theorem dX3_readChain_28 : decode cX3_readChain 28 = .ok (.if_icmp .ne 7, 3) := by decide +kernel
theorem dX3_readChain_31 : decode cX3_readChain 31 = .ok (.iconst 1, 1) := by decide +kernel
theorem dX3_readChain_32 : decode cX3_readChain 32 = .ok (.goto 5, 3) := by decide +kernel
theorem dX3_readChain_35 : decode cX3_readChain 35 = .ok (.bipush 96, 2) := by decide +kernel
theorem dX3_readChain_37 : decode cX3_readChain 37 = .ok (.istore 4, 2) := by decide +kernel
theorem dX3_readChain_39 : decode cX3_readChain 39 = .ok (.iconst 0, 1) := by decide +kernel
theorem dX3_readChain_40 : decode cX3_readChain 40 = .ok (.istore 5, 2) := by decide +kernel
theorem dX3_readChain_42 : decode cX3_readChain 42 = .ok (.iload 5, 2) := by decide +kernel
theorem dX3_readChain_44 : decode cX3_readChain 44 = .ok (.iload 4, 2) := by decide +kernel
theorem dX3_readChain_46 : decode cX3_readChain 46 = .ok (.if_icmp .ge 55, 3) := by decide +kernel
theorem dX3_readChain_49 : decode cX3_readChain 49 = .ok (.aload_n 0, 1) := by decide +kernel
theorem dX3_readChain_50 : decode cX3_readChain 50 = .ok (.iload_n 1, 1) := by decide +kernel
theorem dX3_readChain_51 : decode cX3_readChain 51 = .ok (.invokestatic 118, 3) := by decide +kernel
theorem dX3_readChain_54 : decode cX3_readChain 54 = .ok (.invokevirtual 121, 3) := by decide +kernel
theorem dX3_readChain_57 : decode cX3_readChain 57 = .ok (.ifCond .eq 44, 3) := by decide +kernel
theorem dX3_readChain_60 : decode cX3_readChain 60 = .ok (.aload_n 0, 1) := by decide +kernel
theorem dX3_readChain_61 : decode cX3_readChain 61 = .ok (.getfield 28, 3) := by decide +kernel
theorem dX3_readChain_64 : decode cX3_readChain 64 = .ok (.istore 6, 2) := by decide +kernel
theorem dX3_readChain_66 : decode cX3_readChain 66 = .ok (.aload_n 0, 1) := by decide +kernel
theorem dX3_readChain_67 : decode cX3_readChain 67 = .ok (.invokevirtual 43, 3) := by decide +kernel
theorem dX3_readChain_70 : decode cX3_readChain 70 = .ok (.aload_n 0, 1) := by decide +kernel
theorem dX3_readChain_71 : decode cX3_readChain 71 = .ok (.iload_n 1, 1) := by decide +kernel
theorem dX3_readChain_72 : decode cX3_readChain 72 = .ok (.iconst 1, 1) := by decide +kernel
theorem dX3_readChain_73 : decode cX3_readChain 73 = .ok (.iadd, 1) := by decide +kernel
theorem dX3_readChain_74 : decode cX3_readChain 74 = .ok (.iload_n 2, 1) := by decide +kernel
theorem dX3_readChain_75 : decode cX3_readChain 75 = .ok (.iload_n 3, 1) := by decide +kernel
theorem dX3_readChain_76 : decode cX3_readChain 76 = .ok (.invokevirtual 50, 3) := by decide +kernel
theorem dX3_readChain_79 : decode cX3_readChain 79 = .ok (.ifCond .ne 5, 3) := by decide +kernel
theorem dX3_readChain_82 : decode cX3_readChain 82 = .ok (.iconst 0, 1) := by decide +kernel
theorem dX3_readChain_83 : decode cX3_readChain 83 = .ok (.ireturn, 1) := by decide +kernel
theorem dX3_readChain_84 : decode cX3_readChain 84 = .ok (.aload_n 0, 1) := by decide +kernel
theorem dX3_readChain_85 : decode cX3_readChain 85 = .ok (.sipush 20000, 3) := by decide +kernel
theorem dX3_readChain_88 : decode cX3_readChain 88 = .ok (.iload 6, 2) := by decide +kernel
theorem dX3_readChain_90 : decode cX3_readChain 90 = .ok (.iadd, 1) := by decide +kernel
theorem dX3_readChain_91 : decode cX3_readChain 91 = .ok (.invokevirtual 124, 3) := by decide +kernel
theorem dX3_readChain_94 : decode cX3_readChain 94 = .ok (.pop, 1) := by decide +kernel
theorem dX3_readChain_95 : decode cX3_readChain 95 = .ok (.iinc 5 1, 3) := by decide +kernel
theorem dX3_readChain_98 : decode cX3_readChain 98 = .ok (.goto (-56), 3) := by decide +kernel
theorem dX3_readChain_101 : decode cX3_readChain 101 = .ok (.iconst 1, 1) := by decide +kernel
theorem dX3_readChain_102 : decode cX3_readChain 102 = .ok (.ireturn, 1) := by decide +kernel
theorem dX3_isOneOf_0 : decode cX3_isOneOf 0 = .ok (.aload_n 0, 1) := by decide +kernel
theorem dX3_isOneOf_1 : decode cX3_isOneOf 1 = .ok (.getfield 19, 3) := by decide +kernel
theorem dX3_isOneOf_4 : decode cX3_isOneOf 4 = .ok (.iconst 3, 1) := by decide +kernel
theorem dX3_isOneOf_5 : decode cX3_isOneOf 5 = .ok (.if_icmp .ne 19, 3) := by decide +kernel
theorem dX3_isOneOf_8 : decode cX3_isOneOf 8 = .ok (.aload_n 1, 1) := by decide +kernel
theorem dX3_isOneOf_9 : decode cX3_isOneOf 9 = .ok (.aload_n 0, 1) := by decide +kernel
theorem dX3_isOneOf_10 : decode cX3_isOneOf 10 = .ok (.getfield 28, 3) := by decide +kernel
theorem dX3_isOneOf_13 : decode cX3_isOneOf 13 = .ok (.i2c, 1) := by decide +kernel
theorem dX3_isOneOf_14 : decode cX3_isOneOf 14 = .ok (.invokevirtual 128, 3) := by decide +kernel
theorem dX3_isOneOf_17 : decode cX3_isOneOf 17 = .ok (.ifCond .lt 7, 3) := by decide +kernel
theorem dX3_isOneOf_20 : decode cX3_isOneOf 20 = .ok (.iconst 1, 1) := by decide +kernel
theorem dX3_isOneOf_21 : decode cX3_isOneOf 21 = .ok (.goto 4, 3) := by decide +kernel
theorem dX3_isOneOf_24 : decode cX3_isOneOf 24 = .ok (.iconst 0, 1) := by decide +kernel
theorem dX3_isOneOf_25 : decode cX3_isOneOf 25 = .ok (.ireturn, 1) := by decide +kernel
theorem dX3_readPiece_0 : decode cX3_readPiece 0 = .ok (.aload_n 0, 1) := by decide +kernel
theorem dX3_readPiece_1 : decode cX3_readPiece 1 = .ok (.getfield 19, 3) := by decide +kernel
theorem dX3_readPiece_4 : decode cX3_readPiece 4 = .ok (.iconst 2, 1) := by decide +kernel
theorem dX3_readPiece_5 : decode cX3_readPiece 5 = .ok (.if_icmp .ne 12, 3) := by decide +kernel
theorem dX3_readPiece_8 : decode cX3_readPiece 8 = .ok (.aload_n 0, 1) := by decide +kernel
theorem dX3_readPiece_9 : decode cX3_readPiece 9 = .ok (.aload_n 0, 1) := by decide +kernel
theorem dX3_readPiece_10 : decode cX3_readPiece 10 = .ok (.getfield 28, 3) := by decide +kernel
theorem dX3_readPiece_13 : decode cX3_readPiece 13 = .ok (.invokevirtual 131, 3) := by decide +kernel
theorem dX3_readPiece_16 : decode cX3_readPiece 16 = .ok (.ireturn, 1) := by decide +kernel
theorem dX3_readPiece_17 : decode cX3_readPiece 17 = .ok (.aload_n 0, 1) := by decide +kernel
theorem dX3_readPiece_18 : decode cX3_readPiece 18 = .ok (.getfield 19, 3) := by decide +kernel
theorem dX3_readPiece_21 : decode cX3_readPiece 21 = .ok (.iconst 1, 1) := by decide +kernel
theorem dX3_readPiece_22 : decode cX3_readPiece 22 = .ok (.if_icmp .ne 54, 3) := by decide +kernel
theorem dX3_readPiece_25 : decode cX3_readPiece 25 = .ok (.aload_n 0, 1) := by decide +kernel
theorem dX3_readPiece_26 : decode cX3_readPiece 26 = .ok (.getfield 31, 3) := by decide +kernel
theorem dX3_readPiece_29 : decode cX3_readPiece 29 = .ok (.invokestatic 134, 3) := by decide +kernel
theorem dX3_readPiece_32 : decode cX3_readPiece 32 = .ok (.aload_n 0, 1) := by decide +kernel
theorem dX3_readPiece_33 : decode cX3_readPiece 33 = .ok (.getfield 28, 3) := by decide +kernel
theorem dX3_readPiece_36 : decode cX3_readPiece 36 = .ok (.i2c, 1) := by decide +kernel
theorem dX3_readPiece_37 : decode cX3_readPiece 37 = .ok (.invokevirtual 128, 3) := by decide +kernel
theorem dX3_readPiece_40 : decode cX3_readPiece 40 = .ok (.istore_n 3, 1) := by decide +kernel
theorem dX3_readPiece_41 : decode cX3_readPiece 41 = .ok (.aload_n 0, 1) := by decide +kernel
theorem dX3_readPiece_42 : decode cX3_readPiece 42 = .ok (.getfield 25, 3) := by decide +kernel
theorem dX3_readPiece_45 : decode cX3_readPiece 45 = .ok (.aload_n 0, 1) := by decide +kernel
theorem dX3_readPiece_46 : decode cX3_readPiece 46 = .ok (.getfield 22, 3) := by decide +kernel
theorem dX3_readPiece_49 : decode cX3_readPiece 49 = .ok (.isub, 1) := by decide +kernel
theorem dX3_readPiece_50 : decode cX3_readPiece 50 = .ok (.iconst 1, 1) := by decide +kernel
theorem dX3_readPiece_51 : decode cX3_readPiece 51 = .ok (.if_icmp .ne 23, 3) := by decide +kernel
theorem dX3_readPiece_54 : decode cX3_readPiece 54 = .ok (.iload_n 3, 1) := by decide +kernel
theorem dX3_readPiece_55 : decode cX3_readPiece 55 = .ok (.ifCond .lt 19, 3) := by decide +kernel
theorem dX3_readPiece_58 : decode cX3_readPiece 58 = .ok (.aload_n 0, 1) := by decide +kernel
theorem dX3_readPiece_59 : decode cX3_readPiece 59 = .ok (.sipush 10000, 3) := by decide +kernel
theorem dX3_readPiece_62 : decode cX3_readPiece 62 = .ok (.iload_n 3, 1) := by decide +kernel
theorem dX3_readPiece_63 : decode cX3_readPiece 63 = .ok (.iadd, 1) := by decide +kernel
theorem dX3_readPiece_64 : decode cX3_readPiece 64 = .ok (.invokevirtual 131, 3) := by decide +kernel
theorem dX3_readPiece_67 : decode cX3_readPiece 67 = .ok (.ifCond .eq 7, 3) := by decide +kernel
theorem dX3_readPiece_70 : decode cX3_readPiece 70 = .ok (.iconst 1, 1) := by decide +kernel
theorem dX3_readPiece_71 : decode cX3_readPiece 71 = .ok (.goto 4, 3) := by decide +kernel
theorem dX3_readPiece_74 : decode cX3_readPiece 74 = .ok (.iconst 0, 1) := by decide +kernel
theorem dX3_readPiece_75 : decode cX3_readPiece 75 = .ok (.ireturn, 1) := by decide +kernel
theorem dX3_readPiece_76 : decode cX3_readPiece 76 = .ok (.aload_n 0, 1) := by decide +kernel
theorem dX3_readPiece_77 : decode cX3_readPiece 77 = .ok (.ldc 137, 2) := by decide +kernel
theorem dX3_readPiece_79 : decode cX3_readPiece 79 = .ok (.invokevirtual 121, 3) := by decide +kernel
theorem dX3_readPiece_82 : decode cX3_readPiece 82 = .ok (.ifCond .eq 40, 3) := by decide +kernel
theorem dX3_readPiece_85 : decode cX3_readPiece 85 = .ok (.iload_n 2, 1) := by decide +kernel
theorem dX3_readPiece_86 : decode cX3_readPiece 86 = .ok (.bipush 8, 2) := by decide +kernel
theorem dX3_readPiece_88 : decode cX3_readPiece 88 = .ok (.if_icmp .ge 34, 3) := by decide +kernel
theorem dX3_readPiece_91 : decode cX3_readPiece 91 = .ok (.aload_n 0, 1) := by decide +kernel
theorem dX3_readPiece_92 : decode cX3_readPiece 92 = .ok (.invokevirtual 43, 3) := by decide +kernel
theorem dX3_readPiece_95 : decode cX3_readPiece 95 = .ok (.aload_n 0, 1) := by decide +kernel
theorem dX3_readPiece_96 : decode cX3_readPiece 96 = .ok (.iload_n 1, 1) := by decide +kernel
theorem dX3_readPiece_97 : decode cX3_readPiece 97 = .ok (.iload_n 2, 1) := by decide +kernel
theorem dX3_readPiece_98 : decode cX3_readPiece 98 = .ok (.iconst 1, 1) := by decide +kernel
theorem dX3_readPiece_99 : decode cX3_readPiece 99 = .ok (.iadd, 1) := by decide +kernel
theorem dX3_readPiece_100 : decode cX3_readPiece 100 = .ok (.invokevirtual 114, 3) := by decide +kernel
theorem dX3_readPiece_103 : decode cX3_readPiece 103 = .ok (.ifCond .eq 17, 3) := by decide +kernel
theorem dX3_readPiece_106 : decode cX3_readPiece 106 = .ok (.aload_n 0, 1) := by decide +kernel
theorem dX3_readPiece_107 : decode cX3_readPiece 107 = .ok (.sipush 20033, 3) := by decide +kernel
theorem dX3_readPiece_110 : decode cX3_readPiece 110 = .ok (.invokevirtual 124, 3) := by decide +kernel
theorem dX3_readPiece_113 : decode cX3_readPiece 113 = .ok (.ifCond .eq 7, 3) := by decide +kernel
theorem dX3_readPiece_116 : decode cX3_readPiece 116 = .ok (.iconst 1, 1) := by decide +kernel
theorem dX3_readPiece_117 : decode cX3_readPiece 117 = .ok (.goto 4, 3) := by decide +kernel
theorem dX3_readPiece_120 : decode cX3_readPiece 120 = .ok (.iconst 0, 1) := by decide +kernel
theorem dX3_readPiece_121 : decode cX3_readPiece 121 = .ok (.ireturn, 1) := by decide +kernel
theorem dX3_readPiece_122 : decode cX3_readPiece 122 = .ok (.aload_n 0, 1) := by decide +kernel
theorem dX3_readPiece_123 : decode cX3_readPiece 123 = .ok (.ldc 139, 2) := by decide +kernel
theorem dX3_readPiece_125 : decode cX3_readPiece 125 = .ok (.invokevirtual 121, 3) := by decide +kernel
theorem dX3_readPiece_128 : decode cX3_readPiece 128 = .ok (.ifCond .eq 38, 3) := by decide +kernel
theorem dX3_readPiece_131 : decode cX3_readPiece 131 = .ok (.iload_n 1, 1) := by decide +kernel
theorem dX3_readPiece_132 : decode cX3_readPiece 132 = .ok (.bipush 8, 2) := by decide +kernel
theorem dX3_readPiece_134 : decode cX3_readPiece 134 = .ok (.if_icmp .ge 32, 3) := by decide +kernel
theorem dX3_readPiece_137 : decode cX3_readPiece 137 = .ok (.aload_n 0, 1) := by decide +kernel
theorem dX3_readPiece_138 : decode cX3_readPiece 138 = .ok (.invokevirtual 43, 3) := by decide +kernel
theorem dX3_readPiece_141 : decode cX3_readPiece 141 = .ok (.aload_n 0, 1) := by decide +kernel
theorem dX3_readPiece_142 : decode cX3_readPiece 142 = .ok (.iconst 0, 1) := by decide +kernel
theorem dX3_readPiece_143 : decode cX3_readPiece 143 = .ok (.iload_n 1, 1) := by decide +kernel
theorem dX3_readPiece_144 : decode cX3_readPiece 144 = .ok (.iconst 1, 1) := by decide +kernel
theorem dX3_readPiece_145 : decode cX3_readPiece 145 = .ok (.iadd, 1) := by decide +kernel
theorem dX3_readPiece_146 : decode cX3_readPiece 146 = .ok (.iload_n 2, 1) := by decide +kernel
theorem dX3_readPiece_147 : decode cX3_readPiece 147 = .ok (.invokevirtual 50, 3) := by decide +kernel
theorem dX3_readPiece_150 : decode cX3_readPiece 150 = .ok (.ifCond .eq 14, 3) := by decide +kernel
theorem dX3_readPiece_153 : decode cX3_readPiece 153 = .ok (.aload_n 0, 1) := by decide +kernel
theorem dX3_readPiece_154 : decode cX3_readPiece 154 = .ok (.invokevirtual 141, 3) := by decide +kernel
theorem dX3_readPiece_157 : decode cX3_readPiece 157 = .ok (.ifCond .eq 7, 3) := by decide +kernel
theorem dX3_readPiece_160 : decode cX3_readPiece 160 = .ok (.iconst 1, 1) := by decide +kernel
theorem dX3_readPiece_161 : decode cX3_readPiece 161 = .ok (.goto 4, 3) := by decide +kernel
theorem dX3_readPiece_164 : decode cX3_readPiece 164 = .ok (.iconst 0, 1) := by decide +kernel
theorem dX3_readPiece_165 : decode cX3_readPiece 165 = .ok (.ireturn, 1) := by decide +kernel
theorem dX3_readPiece_166 : decode cX3_readPiece 166 = .ok (.iconst 0, 1) := by decide +kernel
theorem dX3_readPiece_167 : decode cX3_readPiece 167 = .ok (.ireturn, 1) := by decide +kernel
theorem dX3_readClosing_0 : decode cX3_readClosing 0 = .ok (.aload_n 0, 1) := by decide +kernel
theorem dX3_readClosing_1 : decode cX3_readClosing 1 = .ok (.ldc 144, 2) := by decide +kernel
theorem dX3_readClosing_3 : decode cX3_readClosing 3 = .ok (.invokevirtual 121, 3) := by decide +kernel
theorem dX3_readClosing_6 : decode cX3_readClosing 6 = .ok (.ifCond .ne 5, 3) := by decide +kernel
theorem dX3_readClosing_9 : decode cX3_readClosing 9 = .ok (.iconst 0, 1) := by decide +kernel
theorem dX3_readClosing_10 : decode cX3_readClosing 10 = .ok (.ireturn, 1) := by decide +kernel
theorem dX3_readClosing_11 : decode cX3_readClosing 11 = .ok (.aload_n 0, 1) := by decide +kernel
theorem dX3_readClosing_12 : decode cX3_readClosing 12 = .ok (.invokevirtual 43, 3) := by decide +kernel
theorem dX3_readClosing_15 : decode cX3_readClosing 15 = .ok (.iconst 1, 1) := by decide +kernel
theorem dX3_readClosing_16 : decode cX3_readClosing 16 = .ok (.ireturn, 1) := by decide +kernel
theorem dX3_addLeaf_0 : decode cX3_addLeaf 0 = .ok (.aload_n 0, 1) := by decide +kernel
theorem dX3_addLeaf_1 : decode cX3_addLeaf 1 = .ok (.dup, 1) := by decide +kernel
theorem dX3_addLeaf_2 : decode cX3_addLeaf 2 = .ok (.getfield 34, 3) := by decide +kernel
theorem dX3_addLeaf_5 : decode cX3_addLeaf 5 = .ok (.iconst 1, 1) := by decide +kernel
theorem dX3_addLeaf_6 : decode cX3_addLeaf 6 = .ok (.iadd, 1) := by decide +kernel
theorem dX3_addLeaf_7 : decode cX3_addLeaf 7 = .ok (.putfield 34, 3) := by decide +kernel
theorem dX3_addLeaf_10 : decode cX3_addLeaf 10 = .ok (.aload_n 0, 1) := by decide +kernel
theorem dX3_addLeaf_11 : decode cX3_addLeaf 11 = .ok (.invokevirtual 43, 3) := by decide +kernel
theorem dX3_addLeaf_14 : decode cX3_addLeaf 14 = .ok (.aload_n 0, 1) := by decide +kernel
theorem dX3_addLeaf_15 : decode cX3_addLeaf 15 = .ok (.iload_n 1, 1) := by decide +kernel
theorem dX3_addLeaf_16 : decode cX3_addLeaf 16 = .ok (.invokevirtual 124, 3) := by decide +kernel
theorem dX3_addLeaf_19 : decode cX3_addLeaf 19 = .ok (.ireturn, 1) := by decide +kernel
theorem dX3_add_0 : decode cX3_add 0 = .ok (.aload_n 0, 1) := by decide +kernel
theorem dX3_add_1 : decode cX3_add 1 = .ok (.getfield 40, 3) := by decide +kernel
theorem dX3_add_4 : decode cX3_add 4 = .ok (.bipush 96, 2) := by decide +kernel
theorem dX3_add_6 : decode cX3_add 6 = .ok (.if_icmp .lt 5, 3) := by decide +kernel
theorem dX3_add_9 : decode cX3_add 9 = .ok (.iconst 0, 1) := by decide +kernel
theorem dX3_add_10 : decode cX3_add 10 = .ok (.ireturn, 1) := by decide +kernel
theorem dX3_add_11 : decode cX3_add 11 = .ok (.aload_n 0, 1) := by decide +kernel
theorem dX3_add_12 : decode cX3_add 12 = .ok (.getfield 37, 3) := by decide +kernel
theorem dX3_add_15 : decode cX3_add 15 = .ok (.aload_n 0, 1) := by decide +kernel
theorem dX3_add_16 : decode cX3_add 16 = .ok (.getfield 40, 3) := by decide +kernel
theorem dX3_add_19 : decode cX3_add 19 = .ok (.iload_n 1, 1) := by decide +kernel
theorem dX3_add_20 : decode cX3_add 20 = .ok (.iastore, 1) := by decide +kernel
theorem dX3_add_21 : decode cX3_add 21 = .ok (.aload_n 0, 1) := by decide +kernel
theorem dX3_add_22 : decode cX3_add 22 = .ok (.dup, 1) := by decide +kernel
theorem dX3_add_23 : decode cX3_add 23 = .ok (.getfield 40, 3) := by decide +kernel
theorem dX3_add_26 : decode cX3_add 26 = .ok (.iconst 1, 1) := by decide +kernel
theorem dX3_add_27 : decode cX3_add 27 = .ok (.iadd, 1) := by decide +kernel
theorem dX3_add_28 : decode cX3_add 28 = .ok (.putfield 40, 3) := by decide +kernel
theorem dX3_add_31 : decode cX3_add 31 = .ok (.iconst 1, 1) := by decide +kernel
theorem dX3_add_32 : decode cX3_add 32 = .ok (.ireturn, 1) := by decide +kernel
theorem dX4_init_0 : decode cX4_init 0 = .ok (.aload_n 0, 1) := by decide +kernel
theorem dX4_init_1 : decode cX4_init 1 = .ok (.invokespecial 3, 3) := by decide +kernel
theorem dX4_init_4 : decode cX4_init 4 = .ok (.aload_n 0, 1) := by decide +kernel
theorem dX4_init_5 : decode cX4_init 5 = .ok (.bipush 24, 2) := by decide +kernel
theorem dX4_init_7 : decode cX4_init 7 = .ok (.newarray .int, 2) := by decide +kernel
theorem dX4_init_9 : decode cX4_init 9 = .ok (.putfield 9, 3) := by decide +kernel
theorem dX4_init_12 : decode cX4_init 12 = .ok (.aload_n 0, 1) := by decide +kernel
theorem dX4_init_13 : decode cX4_init 13 = .ok (.iconst (-1), 1) := by decide +kernel
theorem dX4_init_14 : decode cX4_init 14 = .ok (.putfield 15, 3) := by decide +kernel
theorem dX4_init_17 : decode cX4_init 17 = .ok (.aload_n 0, 1) := by decide +kernel
theorem dX4_init_18 : decode cX4_init 18 = .ok (.iconst 0, 1) := by decide +kernel
theorem dX4_init_19 : decode cX4_init 19 = .ok (.putfield 19, 3) := by decide +kernel
theorem dX4_init_22 : decode cX4_init 22 = .ok (.return_, 1) := by decide +kernel
theorem dX4_isMissing_0 : decode cX4_isMissing 0 = .ok (.aload_n 0, 1) := by decide +kernel
theorem dX4_isMissing_1 : decode cX4_isMissing 1 = .ok (.getfield 15, 3) := by decide +kernel
theorem dX4_isMissing_4 : decode cX4_isMissing 4 = .ok (.iconst (-1), 1) := by decide +kernel
theorem dX4_isMissing_5 : decode cX4_isMissing 5 = .ok (.if_icmp .ne 7, 3) := by decide +kernel
theorem dX4_isMissing_8 : decode cX4_isMissing 8 = .ok (.iconst 1, 1) := by decide +kernel
theorem dX4_isMissing_9 : decode cX4_isMissing 9 = .ok (.goto 4, 3) := by decide +kernel
theorem dX4_isMissing_12 : decode cX4_isMissing 12 = .ok (.iconst 0, 1) := by decide +kernel
theorem dX4_isMissing_13 : decode cX4_isMissing 13 = .ok (.ireturn, 1) := by decide +kernel
theorem dX4_hasPlace_0 : decode cX4_hasPlace 0 = .ok (.iload_n 1, 1) := by decide +kernel
theorem dX4_hasPlace_1 : decode cX4_hasPlace 1 = .ok (.ifCond .lt 15, 3) := by decide +kernel
theorem dX4_hasPlace_4 : decode cX4_hasPlace 4 = .ok (.iload_n 1, 1) := by decide +kernel
theorem dX4_hasPlace_5 : decode cX4_hasPlace 5 = .ok (.aload_n 0, 1) := by decide +kernel
theorem dX4_hasPlace_6 : decode cX4_hasPlace 6 = .ok (.getfield 19, 3) := by decide +kernel
theorem dX4_hasPlace_9 : decode cX4_hasPlace 9 = .ok (.if_icmp .ge 7, 3) := by decide +kernel
theorem dX4_hasPlace_12 : decode cX4_hasPlace 12 = .ok (.iconst 1, 1) := by decide +kernel
theorem dX4_hasPlace_13 : decode cX4_hasPlace 13 = .ok (.goto 4, 3) := by decide +kernel
theorem dX4_hasPlace_16 : decode cX4_hasPlace 16 = .ok (.iconst 0, 1) := by decide +kernel
theorem dX4_hasPlace_17 : decode cX4_hasPlace 17 = .ok (.ireturn, 1) := by decide +kernel
theorem dX4_hasStretch_0 : decode cX4_hasStretch 0 = .ok (.iload_n 1, 1) := by decide +kernel
theorem dX4_hasStretch_1 : decode cX4_hasStretch 1 = .ok (.ifCond .lt 29, 3) := by decide +kernel
theorem dX4_hasStretch_4 : decode cX4_hasStretch 4 = .ok (.iload_n 2, 1) := by decide +kernel
theorem dX4_hasStretch_5 : decode cX4_hasStretch 5 = .ok (.ifCond .lt 25, 3) := by decide +kernel
theorem dX4_hasStretch_8 : decode cX4_hasStretch 8 = .ok (.iload_n 1, 1) := by decide +kernel
theorem dX4_hasStretch_9 : decode cX4_hasStretch 9 = .ok (.aload_n 0, 1) := by decide +kernel
theorem dX4_hasStretch_10 : decode cX4_hasStretch 10 = .ok (.getfield 19, 3) := by decide +kernel
theorem dX4_hasStretch_13 : decode cX4_hasStretch 13 = .ok (.if_icmp .gt 17, 3) := by decide +kernel
theorem dX4_hasStretch_16 : decode cX4_hasStretch 16 = .ok (.iload_n 2, 1) := by decide +kernel
theorem dX4_hasStretch_17 : decode cX4_hasStretch 17 = .ok (.aload_n 0, 1) := by decide +kernel
theorem dX4_hasStretch_18 : decode cX4_hasStretch 18 = .ok (.getfield 19, 3) := by decide +kernel
theorem dX4_hasStretch_21 : decode cX4_hasStretch 21 = .ok (.iload_n 1, 1) := by decide +kernel
theorem dX4_hasStretch_22 : decode cX4_hasStretch 22 = .ok (.isub, 1) := by decide +kernel
theorem dX4_hasStretch_23 : decode cX4_hasStretch 23 = .ok (.if_icmp .gt 7, 3) := by decide +kernel
theorem dX4_hasStretch_26 : decode cX4_hasStretch 26 = .ok (.iconst 1, 1) := by decide +kernel
theorem dX4_hasStretch_27 : decode cX4_hasStretch 27 = .ok (.goto 4, 3) := by decide +kernel
theorem dX4_hasStretch_30 : decode cX4_hasStretch 30 = .ok (.iconst 0, 1) := by decide +kernel
theorem dX4_hasStretch_31 : decode cX4_hasStretch 31 = .ok (.ireturn, 1) := by decide +kernel
theorem dX4_isNumber_0 : decode cX4_isNumber 0 = .ok (.aload_n 0, 1) := by decide +kernel
theorem dX4_isNumber_1 : decode cX4_isNumber 1 = .ok (.iload_n 1, 1) := by decide +kernel
theorem dX4_isNumber_2 : decode cX4_isNumber 2 = .ok (.invokevirtual 22, 3) := by decide +kernel
theorem dX4_isNumber_5 : decode cX4_isNumber 5 = .ok (.ifCond .eq 18, 3) := by decide +kernel
theorem dX4_isNumber_8 : decode cX4_isNumber 8 = .ok (.aload_n 0, 1) := by decide +kernel
theorem dX4_isNumber_9 : decode cX4_isNumber 9 = .ok (.getfield 9, 3) := by decide +kernel
theorem dX4_isNumber_12 : decode cX4_isNumber 12 = .ok (.iload_n 1, 1) := by decide +kernel
theorem dX4_isNumber_13 : decode cX4_isNumber 13 = .ok (.iaload, 1) := by decide +kernel
theorem dX4_isNumber_14 : decode cX4_isNumber 14 = .ok (.ldc 26, 2) := by decide +kernel
theorem dX4_isNumber_16 : decode cX4_isNumber 16 = .ok (.if_icmp .eq 7, 3) := by decide +kernel
theorem dX4_isNumber_19 : decode cX4_isNumber 19 = .ok (.iconst 1, 1) := by decide +kernel
theorem dX4_isNumber_20 : decode cX4_isNumber 20 = .ok (.goto 4, 3) := by decide +kernel
theorem dX4_isNumber_23 : decode cX4_isNumber 23 = .ok (.iconst 0, 1) := by decide +kernel
theorem dX4_isNumber_24 : decode cX4_isNumber 24 = .ok (.ireturn, 1) := by decide +kernel
theorem dX4_clear_0 : decode cX4_clear 0 = .ok (.aload_n 0, 1) := by decide +kernel
theorem dX4_clear_1 : decode cX4_clear 1 = .ok (.iload_n 1, 1) := by decide +kernel
theorem dX4_clear_2 : decode cX4_clear 2 = .ok (.putfield 15, 3) := by decide +kernel
theorem dX4_clear_5 : decode cX4_clear 5 = .ok (.aload_n 0, 1) := by decide +kernel
theorem dX4_clear_6 : decode cX4_clear 6 = .ok (.iload_n 2, 1) := by decide +kernel
theorem dX4_clear_7 : decode cX4_clear 7 = .ok (.putfield 19, 3) := by decide +kernel
theorem dX4_clear_10 : decode cX4_clear 10 = .ok (.aload_n 0, 1) := by decide +kernel
theorem dX4_clear_11 : decode cX4_clear 11 = .ok (.getfield 9, 3) := by decide +kernel
theorem dX4_clear_14 : decode cX4_clear 14 = .ok (.iconst 0, 1) := by decide +kernel
theorem dX4_clear_15 : decode cX4_clear 15 = .ok (.invokestatic 27, 3) := by decide +kernel
theorem dX4_clear_18 : decode cX4_clear 18 = .ok (.return_, 1) := by decide +kernel
theorem dX4_become_0 : decode cX4_become 0 = .ok (.aload_n 0, 1) := by decide +kernel
theorem dX4_become_1 : decode cX4_become 1 = .ok (.aload_n 1, 1) := by decide +kernel
theorem dX4_become_2 : decode cX4_become 2 = .ok (.getfield 15, 3) := by decide +kernel
theorem dX4_become_5 : decode cX4_become 5 = .ok (.putfield 15, 3) := by decide +kernel
theorem dX4_become_8 : decode cX4_become 8 = .ok (.aload_n 0, 1) := by decide +kernel
theorem dX4_become_9 : decode cX4_become 9 = .ok (.aload_n 1, 1) := by decide +kernel
theorem dX4_become_10 : decode cX4_become 10 = .ok (.getfield 19, 3) := by decide +kernel
theorem dX4_become_13 : decode cX4_become 13 = .ok (.putfield 19, 3) := by decide +kernel
theorem dX4_become_16 : decode cX4_become 16 = .ok (.aload_n 1, 1) := by decide +kernel
theorem dX4_become_17 : decode cX4_become 17 = .ok (.getfield 9, 3) := by decide +kernel
theorem dX4_become_20 : decode cX4_become 20 = .ok (.iconst 0, 1) := by decide +kernel
theorem dX4_become_21 : decode cX4_become 21 = .ok (.aload_n 0, 1) := by decide +kernel
theorem dX4_become_22 : decode cX4_become 22 = .ok (.getfield 9, 3) := by decide +kernel
theorem dX4_become_25 : decode cX4_become 25 = .ok (.iconst 0, 1) := by decide +kernel
theorem dX4_become_26 : decode cX4_become 26 = .ok (.bipush 24, 2) := by decide +kernel
theorem dX4_become_28 : decode cX4_become 28 = .ok (.invokestatic 33, 3) := by decide +kernel
theorem dX4_become_31 : decode cX4_become 31 = .ok (.return_, 1) := by decide +kernel
theorem dX5_init_0 : decode cX5_init 0 = .ok (.aload_n 0, 1) := by decide +kernel
theorem dX5_init_1 : decode cX5_init 1 = .ok (.invokespecial 3, 3) := by decide +kernel
theorem dX5_init_4 : decode cX5_init 4 = .ok (.aload_n 0, 1) := by decide +kernel
theorem dX5_init_5 : decode cX5_init 5 = .ok (.new 9, 3) := by decide +kernel
theorem dX5_init_8 : decode cX5_init 8 = .ok (.dup, 1) := by decide +kernel
theorem dX5_init_9 : decode cX5_init 9 = .ok (.invokespecial 11, 3) := by decide +kernel
theorem dX5_init_12 : decode cX5_init 12 = .ok (.putfield 12, 3) := by decide +kernel
theorem dX5_init_15 : decode cX5_init 15 = .ok (.aload_n 0, 1) := by decide +kernel
theorem dX5_init_16 : decode cX5_init 16 = .ok (.iconst 0, 1) := by decide +kernel
theorem dX5_init_17 : decode cX5_init 17 = .ok (.putfield 18, 3) := by decide +kernel
theorem dX5_init_20 : decode cX5_init 20 = .ok (.aload_n 0, 1) := by decide +kernel
theorem dX5_init_21 : decode cX5_init 21 = .ok (.iconst 0, 1) := by decide +kernel
theorem dX5_init_22 : decode cX5_init 22 = .ok (.putfield 22, 3) := by decide +kernel
theorem dX5_init_25 : decode cX5_init 25 = .ok (.aload_n 0, 1) := by decide +kernel
theorem dX5_init_26 : decode cX5_init 26 = .ok (.iconst 0, 1) := by decide +kernel
theorem dX5_init_27 : decode cX5_init 27 = .ok (.putfield 25, 3) := by decide +kernel
theorem dX5_init_30 : decode cX5_init 30 = .ok (.aload_n 0, 1) := by decide +kernel
theorem dX5_init_31 : decode cX5_init 31 = .ok (.iconst 0, 1) := by decide +kernel
theorem dX5_init_32 : decode cX5_init 32 = .ok (.putfield 28, 3) := by decide +kernel
theorem dX5_init_35 : decode cX5_init 35 = .ok (.return_, 1) := by decide +kernel
theorem dX6_init_0 : decode cX6_init 0 = .ok (.aload_n 0, 1) := by decide +kernel
theorem dX6_init_1 : decode cX6_init 1 = .ok (.invokespecial 1, 3) := by decide +kernel
theorem dX6_init_4 : decode cX6_init 4 = .ok (.aload_n 0, 1) := by decide +kernel
theorem dX6_init_5 : decode cX6_init 5 = .ok (.new 7, 3) := by decide +kernel
theorem dX6_init_8 : decode cX6_init 8 = .ok (.dup, 1) := by decide +kernel
theorem dX6_init_9 : decode cX6_init 9 = .ok (.invokespecial 9, 3) := by decide +kernel
theorem dX6_init_12 : decode cX6_init 12 = .ok (.putfield 10, 3) := by decide +kernel
theorem dX6_init_15 : decode cX6_init 15 = .ok (.aload_n 0, 1) := by decide +kernel
theorem dX6_init_16 : decode cX6_init 16 = .ok (.new 16, 3) := by decide +kernel
theorem dX6_init_19 : decode cX6_init 19 = .ok (.dup, 1) := by decide +kernel
theorem dX6_init_20 : decode cX6_init 20 = .ok (.invokespecial 18, 3) := by decide +kernel
theorem dX6_init_23 : decode cX6_init 23 = .ok (.putfield 19, 3) := by decide +kernel
theorem dX6_init_26 : decode cX6_init 26 = .ok (.aload_n 0, 1) := by decide +kernel
theorem dX6_init_27 : decode cX6_init 27 = .ok (.new 23, 3) := by decide +kernel
theorem dX6_init_30 : decode cX6_init 30 = .ok (.dup, 1) := by decide +kernel
theorem dX6_init_31 : decode cX6_init 31 = .ok (.aload_n 0, 1) := by decide +kernel
theorem dX6_init_32 : decode cX6_init 32 = .ok (.getfield 10, 3) := by decide +kernel
theorem dX6_init_35 : decode cX6_init 35 = .ok (.invokespecial 25, 3) := by decide +kernel
theorem dX6_init_38 : decode cX6_init 38 = .ok (.putfield 28, 3) := by decide +kernel
theorem dX6_init_41 : decode cX6_init 41 = .ok (.aload_n 0, 1) := by decide +kernel
theorem dX6_init_42 : decode cX6_init 42 = .ok (.new 23, 3) := by decide +kernel
theorem dX6_init_45 : decode cX6_init 45 = .ok (.dup, 1) := by decide +kernel
theorem dX6_init_46 : decode cX6_init 46 = .ok (.aload_n 0, 1) := by decide +kernel
theorem dX6_init_47 : decode cX6_init 47 = .ok (.getfield 10, 3) := by decide +kernel
theorem dX6_init_50 : decode cX6_init 50 = .ok (.invokespecial 25, 3) := by decide +kernel
theorem dX6_init_53 : decode cX6_init 53 = .ok (.putfield 32, 3) := by decide +kernel
theorem dX6_init_56 : decode cX6_init 56 = .ok (.aload_n 0, 1) := by decide +kernel
theorem dX6_init_57 : decode cX6_init 57 = .ok (.new 23, 3) := by decide +kernel
theorem dX6_init_60 : decode cX6_init 60 = .ok (.dup, 1) := by decide +kernel
theorem dX6_init_61 : decode cX6_init 61 = .ok (.aload_n 0, 1) := by decide +kernel
theorem dX6_init_62 : decode cX6_init 62 = .ok (.getfield 10, 3) := by decide +kernel
theorem dX6_init_65 : decode cX6_init 65 = .ok (.invokespecial 25, 3) := by decide +kernel
theorem dX6_init_68 : decode cX6_init 68 = .ok (.putfield 35, 3) := by decide +kernel
theorem dX6_init_71 : decode cX6_init 71 = .ok (.aload_n 0, 1) := by decide +kernel
theorem dX6_init_72 : decode cX6_init 72 = .ok (.iconst 4, 1) := by decide +kernel
theorem dX6_init_73 : decode cX6_init 73 = .ok (.anewarray 38, 3) := by decide +kernel
theorem dX6_init_76 : decode cX6_init 76 = .ok (.putfield 40, 3) := by decide +kernel
theorem dX6_init_79 : decode cX6_init 79 = .ok (.iconst 0, 1) := by decide +kernel
theorem dX6_init_80 : decode cX6_init 80 = .ok (.istore_n 1, 1) := by decide +kernel
theorem dX6_init_81 : decode cX6_init 81 = .ok (.iload_n 1, 1) := by decide +kernel
theorem dX6_init_82 : decode cX6_init 82 = .ok (.iconst 4, 1) := by decide +kernel
theorem dX6_init_83 : decode cX6_init 83 = .ok (.if_icmp .ge 22, 3) := by decide +kernel
theorem dX6_init_86 : decode cX6_init 86 = .ok (.aload_n 0, 1) := by decide +kernel
theorem dX6_init_87 : decode cX6_init 87 = .ok (.getfield 40, 3) := by decide +kernel
theorem dX6_init_90 : decode cX6_init 90 = .ok (.iload_n 1, 1) := by decide +kernel
theorem dX6_init_91 : decode cX6_init 91 = .ok (.new 38, 3) := by decide +kernel
theorem dX6_init_94 : decode cX6_init 94 = .ok (.dup, 1) := by decide +kernel
theorem dX6_init_95 : decode cX6_init 95 = .ok (.invokespecial 44, 3) := by decide +kernel
theorem dX6_init_98 : decode cX6_init 98 = .ok (.aastore, 1) := by decide +kernel
theorem dX6_init_99 : decode cX6_init 99 = .ok (.iinc 1 1, 3) := by decide +kernel
theorem dX6_init_102 : decode cX6_init 102 = .ok (.goto (-21), 3) := by decide +kernel
theorem dX6_init_105 : decode cX6_init 105 = .ok (.aload_n 0, 1) := by decide +kernel
theorem dX6_init_106 : decode cX6_init 106 = .ok (.iconst 5, 1) := by decide +kernel
theorem dX6_init_107 : decode cX6_init 107 = .ok (.anewarray 45, 3) := by decide +kernel
theorem dX6_init_110 : decode cX6_init 110 = .ok (.putfield 47, 3) := by decide +kernel
theorem dX6_init_113 : decode cX6_init 113 = .ok (.iconst 0, 1) := by decide +kernel
theorem dX6_init_114 : decode cX6_init 114 = .ok (.istore_n 1, 1) := by decide +kernel
theorem dX6_init_115 : decode cX6_init 115 = .ok (.iload_n 1, 1) := by decide +kernel
theorem dX6_init_116 : decode cX6_init 116 = .ok (.iconst 5, 1) := by decide +kernel
theorem dX6_init_117 : decode cX6_init 117 = .ok (.if_icmp .ge 22, 3) := by decide +kernel
theorem dX6_init_120 : decode cX6_init 120 = .ok (.aload_n 0, 1) := by decide +kernel
theorem dX6_init_121 : decode cX6_init 121 = .ok (.getfield 47, 3) := by decide +kernel
theorem dX6_init_124 : decode cX6_init 124 = .ok (.iload_n 1, 1) := by decide +kernel
theorem dX6_init_125 : decode cX6_init 125 = .ok (.new 45, 3) := by decide +kernel
theorem dX6_init_128 : decode cX6_init 128 = .ok (.dup, 1) := by decide +kernel
theorem dX6_init_129 : decode cX6_init 129 = .ok (.invokespecial 51, 3) := by decide +kernel
theorem dX6_init_132 : decode cX6_init 132 = .ok (.aastore, 1) := by decide +kernel
theorem dX6_init_133 : decode cX6_init 133 = .ok (.iinc 1 1, 3) := by decide +kernel
theorem dX6_init_136 : decode cX6_init 136 = .ok (.goto (-21), 3) := by decide +kernel
theorem dX6_init_139 : decode cX6_init 139 = .ok (.aload_n 0, 1) := by decide +kernel
theorem dX6_init_140 : decode cX6_init 140 = .ok (.bipush 60, 2) := by decide +kernel
theorem dX6_init_142 : decode cX6_init 142 = .ok (.newarray .int, 2) := by decide +kernel
theorem dX6_init_144 : decode cX6_init 144 = .ok (.putfield 52, 3) := by decide +kernel
theorem dX6_init_147 : decode cX6_init 147 = .ok (.aload_n 0, 1) := by decide +kernel
theorem dX6_init_148 : decode cX6_init 148 = .ok (.bipush 13, 2) := by decide +kernel
theorem dX6_init_150 : decode cX6_init 150 = .ok (.newarray .int, 2) := by decide +kernel
theorem dX6_init_152 : decode cX6_init 152 = .ok (.putfield 56, 3) := by decide +kernel
theorem dX6_init_155 : decode cX6_init 155 = .ok (.aload_n 0, 1) := by decide +kernel
theorem dX6_init_156 : decode cX6_init 156 = .ok (.iconst 0, 1) := by decide +kernel
theorem dX6_init_157 : decode cX6_init 157 = .ok (.putfield 59, 3) := by decide +kernel
theorem dX6_init_160 : decode cX6_init 160 = .ok (.aload_n 0, 1) := by decide +kernel
theorem dX6_init_161 : decode cX6_init 161 = .ok (.iconst 0, 1) := by decide +kernel
theorem dX6_init_162 : decode cX6_init 162 = .ok (.putfield 63, 3) := by decide +kernel
theorem dX6_init_165 : decode cX6_init 165 = .ok (.return_, 1) := by decide +kernel
theorem dX6_voter_0 : decode cX6_voter 0 = .ok (.iload_n 1, 1) := by decide +kernel
theorem dX6_voter_1 : decode cX6_voter 1 = .ok (.iconst 0, 1) := by decide +kernel
theorem dX6_voter_2 : decode cX6_voter 2 = .ok (.iconst 5, 1) := by decide +kernel
theorem dX6_voter_3 : decode cX6_voter 3 = .ok (.invokestatic 67, 3) := by decide +kernel
theorem dX6_voter_6 : decode cX6_voter 6 = .ok (.ifCond .eq 37, 3) := by decide +kernel
theorem dX6_voter_9 : decode cX6_voter 9 = .ok (.iload_n 2, 1) := by decide +kernel
theorem dX6_voter_10 : decode cX6_voter 10 = .ok (.iconst 0, 1) := by decide +kernel
theorem dX6_voter_11 : decode cX6_voter 11 = .ok (.bipush 9, 2) := by decide +kernel
theorem dX6_voter_13 : decode cX6_voter 13 = .ok (.invokestatic 67, 3) := by decide +kernel
theorem dX6_voter_16 : decode cX6_voter 16 = .ok (.ifCond .eq 27, 3) := by decide +kernel
theorem dX6_voter_19 : decode cX6_voter 19 = .ok (.iload_n 3, 1) := by decide +kernel
theorem dX6_voter_20 : decode cX6_voter 20 = .ok (.iconst 0, 1) := by decide +kernel
theorem dX6_voter_21 : decode cX6_voter 21 = .ok (.iconst 3, 1) := by decide +kernel
theorem dX6_voter_22 : decode cX6_voter 22 = .ok (.invokestatic 67, 3) := by decide +kernel
theorem dX6_voter_25 : decode cX6_voter 25 = .ok (.ifCond .eq 18, 3) := by decide +kernel
theorem dX6_voter_28 : decode cX6_voter 28 = .ok (.iload 4, 2) := by decide +kernel
theorem dX6_voter_30 : decode cX6_voter 30 = .ok (.iconst 0, 1) := by decide +kernel
theorem dX6_voter_31 : decode cX6_voter 31 = .ok (.bipush 99, 2) := by decide +kernel
theorem dX6_voter_33 : decode cX6_voter 33 = .ok (.invokestatic 67, 3) := by decide +kernel
theorem dX6_voter_36 : decode cX6_voter 36 = .ok (.ifCond .eq 7, 3) := by decide +kernel
theorem dX6_voter_39 : decode cX6_voter 39 = .ok (.iconst 1, 1) := by decide +kernel
theorem dX6_voter_40 : decode cX6_voter 40 = .ok (.goto 4, 3) := by decide +kernel
theorem dX6_voter_43 : decode cX6_voter 43 = .ok (.iconst 0, 1) := by decide +kernel
theorem dX6_voter_44 : decode cX6_voter 44 = .ok (.istore 5, 2) := by decide +kernel
theorem dX6_voter_46 : decode cX6_voter 46 = .ok (.iload 5, 2) := by decide +kernel
theorem dX6_voter_48 : decode cX6_voter 48 = .ok (.ifCond .ne 6, 3) := by decide +kernel
theorem dX6_voter_51 : decode cX6_voter 51 = .ok (.ldc 71, 2) := by decide +kernel
theorem dX6_voter_53 : decode cX6_voter 53 = .ok (.ireturn, 1) := by decide +kernel
theorem dX6_voter_54 : decode cX6_voter 54 = .ok (.aload_n 0, 1) := by decide +kernel
theorem dX6_voter_55 : decode cX6_voter 55 = .ok (.getfield 28, 3) := by decide +kernel
theorem dX6_voter_58 : decode cX6_voter 58 = .ok (.getfield 72, 3) := by decide +kernel
theorem dX6_voter_61 : decode cX6_voter 61 = .ok (.bipush 10, 2) := by decide +kernel
theorem dX6_voter_63 : decode cX6_voter 63 = .ok (.if_icmp .lt 6, 3) := by decide +kernel
theorem dX6_voter_66 : decode cX6_voter 66 = .ok (.ldc 75, 2) := by decide +kernel
theorem dX6_voter_68 : decode cX6_voter 68 = .ok (.ireturn, 1) := by decide +kernel
theorem dX6_voter_69 : decode cX6_voter 69 = .ok (.aload_n 0, 1) := by decide +kernel
theorem dX6_voter_70 : decode cX6_voter 70 = .ok (.getfield 28, 3) := by decide +kernel
theorem dX6_voter_73 : decode cX6_voter 73 = .ok (.iload_n 1, 1) := by decide +kernel
theorem dX6_voter_74 : decode cX6_voter 74 = .ok (.iload_n 2, 1) := by decide +kernel
theorem dX6_voter_75 : decode cX6_voter 75 = .ok (.iload_n 3, 1) := by decide +kernel
theorem dX6_voter_76 : decode cX6_voter 76 = .ok (.iload 4, 2) := by decide +kernel
theorem dX6_voter_78 : decode cX6_voter 78 = .ok (.invokevirtual 76, 3) := by decide +kernel
theorem dX6_voter_81 : decode cX6_voter 81 = .ok (.aload_n 0, 1) := by decide +kernel
theorem dX6_voter_82 : decode cX6_voter 82 = .ok (.getfield 28, 3) := by decide +kernel
theorem dX6_voter_85 : decode cX6_voter 85 = .ok (.getfield 72, 3) := by decide +kernel
theorem dX6_voter_88 : decode cX6_voter 88 = .ok (.iconst 1, 1) := by decide +kernel
theorem dX6_voter_89 : decode cX6_voter 89 = .ok (.isub, 1) := by decide +kernel
theorem dX6_voter_90 : decode cX6_voter 90 = .ok (.ireturn, 1) := by decide +kernel
theorem dX6_told_0 : decode cX6_told 0 = .ok (.aload_n 0, 1) := by decide +kernel
theorem dX6_told_1 : decode cX6_told 1 = .ok (.getfield 28, 3) := by decide +kernel
theorem dX6_told_4 : decode cX6_told 4 = .ok (.iload_n 1, 1) := by decide +kernel
theorem dX6_told_5 : decode cX6_told 5 = .ok (.invokevirtual 80, 3) := by decide +kernel
theorem dX6_told_8 : decode cX6_told 8 = .ok (.ifCond .ne 6, 3) := by decide +kernel
theorem dX6_told_11 : decode cX6_told 11 = .ok (.ldc 71, 2) := by decide +kernel
theorem dX6_told_13 : decode cX6_told 13 = .ok (.ireturn, 1) := by decide +kernel
theorem dX6_told_14 : decode cX6_told 14 = .ok (.iload_n 2, 1) := by decide +kernel
theorem dX6_told_15 : decode cX6_told 15 = .ok (.tableswitch 181 0 9 #[53, 63, 73, 83, 93, 103, 113, 123, 146, 159], 53) := by decide +kernel
theorem dX6_told_68 : decode cX6_told 68 = .ok (.aload_n 0, 1) := by decide +kernel
theorem dX6_told_69 : decode cX6_told 69 = .ok (.getfield 28, 3) := by decide +kernel
theorem dX6_told_72 : decode cX6_told 72 = .ok (.getfield 84, 3) := by decide +kernel
theorem dX6_told_75 : decode cX6_told 75 = .ok (.iload_n 1, 1) := by decide +kernel
theorem dX6_told_76 : decode cX6_told 76 = .ok (.iaload, 1) := by decide +kernel
theorem dX6_told_77 : decode cX6_told 77 = .ok (.ireturn, 1) := by decide +kernel
theorem dX6_told_78 : decode cX6_told 78 = .ok (.aload_n 0, 1) := by decide +kernel
theorem dX6_told_79 : decode cX6_told 79 = .ok (.getfield 28, 3) := by decide +kernel
theorem dX6_told_82 : decode cX6_told 82 = .ok (.getfield 87, 3) := by decide +kernel
theorem dX6_told_85 : decode cX6_told 85 = .ok (.iload_n 1, 1) := by decide +kernel
theorem dX6_told_86 : decode cX6_told 86 = .ok (.iaload, 1) := by decide +kernel
theorem dX6_told_87 : decode cX6_told 87 = .ok (.ireturn, 1) := by decide +kernel
theorem dX6_told_88 : decode cX6_told 88 = .ok (.aload_n 0, 1) := by decide +kernel
theorem dX6_told_89 : decode cX6_told 89 = .ok (.getfield 28, 3) := by decide +kernel
theorem dX6_told_92 : decode cX6_told 92 = .ok (.getfield 90, 3) := by decide +kernel
theorem dX6_told_95 : decode cX6_told 95 = .ok (.iload_n 1, 1) := by decide +kernel
theorem dX6_told_96 : decode cX6_told 96 = .ok (.iaload, 1) := by decide +kernel
theorem dX6_told_97 : decode cX6_told 97 = .ok (.ireturn, 1) := by decide +kernel
theorem dX6_told_98 : decode cX6_told 98 = .ok (.aload_n 0, 1) := by decide +kernel
theorem dX6_told_99 : decode cX6_told 99 = .ok (.getfield 28, 3) := by decide +kernel
theorem dX6_told_102 : decode cX6_told 102 = .ok (.getfield 93, 3) := by decide +kernel
theorem dX6_told_105 : decode cX6_told 105 = .ok (.iload_n 1, 1) := by decide +kernel
theorem dX6_told_106 : decode cX6_told 106 = .ok (.iaload, 1) := by decide +kernel
theorem dX6_told_107 : decode cX6_told 107 = .ok (.ireturn, 1) := by decide +kernel
theorem dX6_told_108 : decode cX6_told 108 = .ok (.aload_n 0, 1) := by decide +kernel
theorem dX6_told_109 : decode cX6_told 109 = .ok (.getfield 28, 3) := by decide +kernel
theorem dX6_told_112 : decode cX6_told 112 = .ok (.getfield 96, 3) := by decide +kernel
theorem dX6_told_115 : decode cX6_told 115 = .ok (.iload_n 1, 1) := by decide +kernel
theorem dX6_told_116 : decode cX6_told 116 = .ok (.iaload, 1) := by decide +kernel
theorem dX6_told_117 : decode cX6_told 117 = .ok (.ireturn, 1) := by decide +kernel
theorem dX6_told_118 : decode cX6_told 118 = .ok (.aload_n 0, 1) := by decide +kernel
theorem dX6_told_119 : decode cX6_told 119 = .ok (.getfield 28, 3) := by decide +kernel
theorem dX6_told_122 : decode cX6_told 122 = .ok (.getfield 99, 3) := by decide +kernel
theorem dX6_told_125 : decode cX6_told 125 = .ok (.iload_n 1, 1) := by decide +kernel
theorem dX6_told_126 : decode cX6_told 126 = .ok (.iaload, 1) := by decide +kernel
theorem dX6_told_127 : decode cX6_told 127 = .ok (.ireturn, 1) := by decide +kernel
theorem dX6_told_128 : decode cX6_told 128 = .ok (.aload_n 0, 1) := by decide +kernel
theorem dX6_told_129 : decode cX6_told 129 = .ok (.getfield 28, 3) := by decide +kernel
theorem dX6_told_132 : decode cX6_told 132 = .ok (.getfield 102, 3) := by decide +kernel
theorem dX6_told_135 : decode cX6_told 135 = .ok (.iload_n 1, 1) := by decide +kernel
theorem dX6_told_136 : decode cX6_told 136 = .ok (.iaload, 1) := by decide +kernel
theorem dX6_told_137 : decode cX6_told 137 = .ok (.ireturn, 1) := by decide +kernel
theorem dX6_told_138 : decode cX6_told 138 = .ok (.aload_n 0, 1) := by decide +kernel
theorem dX6_told_139 : decode cX6_told 139 = .ok (.getfield 28, 3) := by decide +kernel
theorem dX6_told_142 : decode cX6_told 142 = .ok (.iload_n 1, 1) := by decide +kernel
theorem dX6_told_143 : decode cX6_told 143 = .ok (.aload_n 0, 1) := by decide +kernel
theorem dX6_told_144 : decode cX6_told 144 = .ok (.getfield 28, 3) := by decide +kernel
theorem dX6_told_147 : decode cX6_told 147 = .ok (.invokevirtual 105, 3) := by decide +kernel
theorem dX6_told_150 : decode cX6_told 150 = .ok (.aload_n 0, 1) := by decide +kernel
theorem dX6_told_151 : decode cX6_told 151 = .ok (.getfield 28, 3) := by decide +kernel
theorem dX6_told_154 : decode cX6_told 154 = .ok (.invokevirtual 109, 3) := by decide +kernel
theorem dX6_told_157 : decode cX6_told 157 = .ok (.invokevirtual 112, 3) := by decide +kernel
theorem dX6_told_160 : decode cX6_told 160 = .ok (.ireturn, 1) := by decide +kernel
theorem dX6_told_161 : decode cX6_told 161 = .ok (.aload_n 0, 1) := by decide +kernel
theorem dX6_told_162 : decode cX6_told 162 = .ok (.getfield 28, 3) := by decide +kernel
theorem dX6_told_165 : decode cX6_told 165 = .ok (.getfield 84, 3) := by decide +kernel
theorem dX6_told_168 : decode cX6_told 168 = .ok (.iload_n 1, 1) := by decide +kernel
theorem dX6_told_169 : decode cX6_told 169 = .ok (.iaload, 1) := by decide +kernel
theorem dX6_told_170 : decode cX6_told 170 = .ok (.invokestatic 116, 3) := by decide +kernel
theorem dX6_told_173 : decode cX6_told 173 = .ok (.ireturn, 1) := by decide +kernel
theorem dX6_told_174 : decode cX6_told 174 = .ok (.aload_n 0, 1) := by decide +kernel
theorem dX6_told_175 : decode cX6_told 175 = .ok (.getfield 28, 3) := by decide +kernel
theorem dX6_told_178 : decode cX6_told 178 = .ok (.getfield 84, 3) := by decide +kernel
theorem dX6_told_181 : decode cX6_told 181 = .ok (.iload_n 1, 1) := by decide +kernel
theorem dX6_told_182 : decode cX6_told 182 = .ok (.iaload, 1) := by decide +kernel
theorem dX6_told_183 : decode cX6_told 183 = .ok (.aload_n 0, 1) := by decide +kernel
theorem dX6_told_184 : decode cX6_told 184 = .ok (.getfield 28, 3) := by decide +kernel
theorem dX6_told_187 : decode cX6_told 187 = .ok (.getfield 93, 3) := by decide +kernel
theorem dX6_told_190 : decode cX6_told 190 = .ok (.iload_n 1, 1) := by decide +kernel
theorem dX6_told_191 : decode cX6_told 191 = .ok (.iaload, 1) := by decide +kernel
theorem dX6_told_192 : decode cX6_told 192 = .ok (.invokestatic 120, 3) := by decide +kernel
theorem dX6_told_195 : decode cX6_told 195 = .ok (.ireturn, 1) := by decide +kernel
theorem dX6_told_196 : decode cX6_told 196 = .ok (.ldc 71, 2) := by decide +kernel
theorem dX6_told_198 : decode cX6_told 198 = .ok (.ireturn, 1) := by decide +kernel
theorem dX6_as_0 : decode cX6_as 0 = .ok (.aload_n 0, 1) := by decide +kernel
theorem dX6_as_1 : decode cX6_as 1 = .ok (.getfield 28, 3) := by decide +kernel
theorem dX6_as_4 : decode cX6_as 4 = .ok (.iload_n 1, 1) := by decide +kernel
theorem dX6_as_5 : decode cX6_as 5 = .ok (.invokevirtual 80, 3) := by decide +kernel
theorem dX6_as_8 : decode cX6_as 8 = .ok (.ifCond .eq 12, 3) := by decide +kernel
theorem dX6_as_11 : decode cX6_as 11 = .ok (.iload_n 2, 1) := by decide +kernel
theorem dX6_as_12 : decode cX6_as 12 = .ok (.iconst 0, 1) := by decide +kernel
theorem dX6_as_13 : decode cX6_as 13 = .ok (.iconst 5, 1) := by decide +kernel
theorem dX6_as_14 : decode cX6_as 14 = .ok (.invokestatic 67, 3) := by decide +kernel
theorem dX6_as_17 : decode cX6_as 17 = .ok (.ifCond .ne 6, 3) := by decide +kernel
theorem dX6_as_20 : decode cX6_as 20 = .ok (.ldc 71, 2) := by decide +kernel
theorem dX6_as_22 : decode cX6_as 22 = .ok (.ireturn, 1) := by decide +kernel
theorem dX6_as_23 : decode cX6_as 23 = .ok (.aload_n 0, 1) := by decide +kernel
theorem dX6_as_24 : decode cX6_as 24 = .ok (.getfield 28, 3) := by decide +kernel
theorem dX6_as_27 : decode cX6_as 27 = .ok (.getfield 84, 3) := by decide +kernel
theorem dX6_as_30 : decode cX6_as 30 = .ok (.iload_n 1, 1) := by decide +kernel
theorem dX6_as_31 : decode cX6_as 31 = .ok (.iaload, 1) := by decide +kernel
theorem dX6_as_32 : decode cX6_as 32 = .ok (.iload_n 2, 1) := by decide +kernel
theorem dX6_as_33 : decode cX6_as 33 = .ok (.invokestatic 124, 3) := by decide +kernel
theorem dX6_as_36 : decode cX6_as 36 = .ok (.ifCond .eq 15, 3) := by decide +kernel
theorem dX6_as_39 : decode cX6_as 39 = .ok (.aload_n 0, 1) := by decide +kernel
theorem dX6_as_40 : decode cX6_as 40 = .ok (.getfield 28, 3) := by decide +kernel
theorem dX6_as_43 : decode cX6_as 43 = .ok (.getfield 93, 3) := by decide +kernel
theorem dX6_as_46 : decode cX6_as 46 = .ok (.iload_n 1, 1) := by decide +kernel
theorem dX6_as_47 : decode cX6_as 47 = .ok (.iaload, 1) := by decide +kernel
theorem dX6_as_48 : decode cX6_as 48 = .ok (.goto 5, 3) := by decide +kernel
theorem dX6_as_51 : decode cX6_as 51 = .ok (.ldc 128, 2) := by decide +kernel
theorem dX6_as_53 : decode cX6_as 53 = .ok (.ireturn, 1) := by decide +kernel
theorem dX6_turns_0 : decode cX6_turns 0 = .ok (.aload_n 0, 1) := by decide +kernel
theorem dX6_turns_1 : decode cX6_turns 1 = .ok (.getfield 28, 3) := by decide +kernel
theorem dX6_turns_4 : decode cX6_turns 4 = .ok (.iload_n 1, 1) := by decide +kernel
theorem dX6_turns_5 : decode cX6_turns 5 = .ok (.invokevirtual 80, 3) := by decide +kernel
theorem dX6_turns_8 : decode cX6_turns 8 = .ok (.ifCond .eq 12, 3) := by decide +kernel
theorem dX6_turns_11 : decode cX6_turns 11 = .ok (.iload_n 2, 1) := by decide +kernel
theorem dX6_turns_12 : decode cX6_turns 12 = .ok (.iconst 0, 1) := by decide +kernel
theorem dX6_turns_13 : decode cX6_turns 13 = .ok (.iconst 5, 1) := by decide +kernel
theorem dX6_turns_14 : decode cX6_turns 14 = .ok (.invokestatic 67, 3) := by decide +kernel
theorem dX6_turns_17 : decode cX6_turns 17 = .ok (.ifCond .ne 6, 3) := by decide +kernel
theorem dX6_turns_20 : decode cX6_turns 20 = .ok (.ldc 71, 2) := by decide +kernel
theorem dX6_turns_22 : decode cX6_turns 22 = .ok (.ireturn, 1) := by decide +kernel
theorem dX6_turns_23 : decode cX6_turns 23 = .ok (.aload_n 0, 1) := by decide +kernel
theorem dX6_turns_24 : decode cX6_turns 24 = .ok (.getfield 28, 3) := by decide +kernel
theorem dX6_turns_27 : decode cX6_turns 27 = .ok (.getfield 84, 3) := by decide +kernel
theorem dX6_turns_30 : decode cX6_turns 30 = .ok (.iload_n 1, 1) := by decide +kernel
theorem dX6_turns_31 : decode cX6_turns 31 = .ok (.iaload, 1) := by decide +kernel
theorem dX6_turns_32 : decode cX6_turns 32 = .ok (.istore_n 3, 1) := by decide +kernel
theorem dX6_turns_33 : decode cX6_turns 33 = .ok (.aload_n 0, 1) := by decide +kernel
theorem dX6_turns_34 : decode cX6_turns 34 = .ok (.getfield 28, 3) := by decide +kernel
theorem dX6_turns_37 : decode cX6_turns 37 = .ok (.getfield 84, 3) := by decide +kernel
theorem dX6_turns_40 : decode cX6_turns 40 = .ok (.iload_n 1, 1) := by decide +kernel
theorem dX6_turns_41 : decode cX6_turns 41 = .ok (.iload_n 2, 1) := by decide +kernel
theorem dX6_turns_42 : decode cX6_turns 42 = .ok (.iastore, 1) := by decide +kernel
theorem dX6_turns_43 : decode cX6_turns 43 = .ok (.aload_n 0, 1) := by decide +kernel
theorem dX6_turns_44 : decode cX6_turns 44 = .ok (.getfield 28, 3) := by decide +kernel
theorem dX6_turns_47 : decode cX6_turns 47 = .ok (.invokevirtual 129, 3) := by decide +kernel
theorem dX6_turns_50 : decode cX6_turns 50 = .ok (.iload_n 3, 1) := by decide +kernel
theorem dX6_turns_51 : decode cX6_turns 51 = .ok (.ireturn, 1) := by decide +kernel
theorem dX6_set_0 : decode cX6_set 0 = .ok (.aload_n 0, 1) := by decide +kernel
theorem dX6_set_1 : decode cX6_set 1 = .ok (.getfield 28, 3) := by decide +kernel
theorem dX6_set_4 : decode cX6_set 4 = .ok (.iload_n 1, 1) := by decide +kernel
theorem dX6_set_5 : decode cX6_set 5 = .ok (.invokevirtual 80, 3) := by decide +kernel
theorem dX6_set_8 : decode cX6_set 8 = .ok (.ifCond .ne 6, 3) := by decide +kernel
theorem dX6_set_11 : decode cX6_set 11 = .ok (.ldc 71, 2) := by decide +kernel
theorem dX6_set_13 : decode cX6_set 13 = .ok (.ireturn, 1) := by decide +kernel
theorem dX6_set_14 : decode cX6_set 14 = .ok (.iload_n 2, 1) := by decide +kernel
theorem dX6_set_15 : decode cX6_set 15 = .ok (.tableswitch 88 1 4 #[29, 44, 58, 73], 29) := by decide +kernel
theorem dX6_set_44 : decode cX6_set 44 = .ok (.aload_n 0, 1) := by decide +kernel
theorem dX6_set_45 : decode cX6_set 45 = .ok (.getfield 28, 3) := by decide +kernel
theorem dX6_set_48 : decode cX6_set 48 = .ok (.getfield 87, 3) := by decide +kernel
theorem dX6_set_51 : decode cX6_set 51 = .ok (.iload_n 1, 1) := by decide +kernel
theorem dX6_set_52 : decode cX6_set 52 = .ok (.iload_n 3, 1) := by decide +kernel
theorem dX6_set_53 : decode cX6_set 53 = .ok (.bipush 9, 2) := by decide +kernel
theorem dX6_set_55 : decode cX6_set 55 = .ok (.invokestatic 132, 3) := by decide +kernel
theorem dX6_set_58 : decode cX6_set 58 = .ok (.ireturn, 1) := by decide +kernel
theorem dX6_set_59 : decode cX6_set 59 = .ok (.aload_n 0, 1) := by decide +kernel
theorem dX6_set_60 : decode cX6_set 60 = .ok (.getfield 28, 3) := by decide +kernel
theorem dX6_set_63 : decode cX6_set 63 = .ok (.getfield 90, 3) := by decide +kernel
theorem dX6_set_66 : decode cX6_set 66 = .ok (.iload_n 1, 1) := by decide +kernel
theorem dX6_set_67 : decode cX6_set 67 = .ok (.iload_n 3, 1) := by decide +kernel
theorem dX6_set_68 : decode cX6_set 68 = .ok (.iconst 3, 1) := by decide +kernel
theorem dX6_set_69 : decode cX6_set 69 = .ok (.invokestatic 132, 3) := by decide +kernel
theorem dX6_set_72 : decode cX6_set 72 = .ok (.ireturn, 1) := by decide +kernel
theorem dX6_set_73 : decode cX6_set 73 = .ok (.aload_n 0, 1) := by decide +kernel
theorem dX6_set_74 : decode cX6_set 74 = .ok (.getfield 28, 3) := by decide +kernel
theorem dX6_set_77 : decode cX6_set 77 = .ok (.getfield 93, 3) := by decide +kernel
theorem dX6_set_80 : decode cX6_set 80 = .ok (.iload_n 1, 1) := by decide +kernel
theorem dX6_set_81 : decode cX6_set 81 = .ok (.iload_n 3, 1) := by decide +kernel
theorem dX6_set_82 : decode cX6_set 82 = .ok (.bipush 99, 2) := by decide +kernel
theorem dX6_set_84 : decode cX6_set 84 = .ok (.invokestatic 132, 3) := by decide +kernel
theorem dX6_set_87 : decode cX6_set 87 = .ok (.ireturn, 1) := by decide +kernel
theorem dX6_set_88 : decode cX6_set 88 = .ok (.aload_n 0, 1) := by decide +kernel
theorem dX6_set_89 : decode cX6_set 89 = .ok (.getfield 28, 3) := by decide +kernel
theorem dX6_set_92 : decode cX6_set 92 = .ok (.getfield 96, 3) := by decide +kernel
theorem dX6_set_95 : decode cX6_set 95 = .ok (.iload_n 1, 1) := by decide +kernel
theorem dX6_set_96 : decode cX6_set 96 = .ok (.iload_n 3, 1) := by decide +kernel
theorem dX6_set_97 : decode cX6_set 97 = .ok (.bipush 9, 2) := by decide +kernel
theorem dX6_set_99 : decode cX6_set 99 = .ok (.invokestatic 132, 3) := by decide +kernel
theorem dX6_set_102 : decode cX6_set 102 = .ok (.ireturn, 1) := by decide +kernel
theorem dX6_set_103 : decode cX6_set 103 = .ok (.ldc 71, 2) := by decide +kernel
theorem dX6_set_105 : decode cX6_set 105 = .ok (.ireturn, 1) := by decide +kernel
theorem dX6_rule_0 : decode cX6_rule 0 = .ok (.iload_n 1, 1) := by decide +kernel
theorem dX6_rule_1 : decode cX6_rule 1 = .ok (.iconst 2, 1) := by decide +kernel
theorem dX6_rule_2 : decode cX6_rule 2 = .ok (.if_icmp .ne 7, 3) := by decide +kernel
theorem dX6_rule_5 : decode cX6_rule 5 = .ok (.iconst 1, 1) := by decide +kernel
theorem dX6_rule_6 : decode cX6_rule 6 = .ok (.goto 4, 3) := by decide +kernel
theorem dX6_rule_9 : decode cX6_rule 9 = .ok (.iconst 0, 1) := by decide +kernel
theorem dX6_rule_10 : decode cX6_rule 10 = .ok (.istore_n 3, 1) := by decide +kernel
theorem dX6_rule_11 : decode cX6_rule 11 = .ok (.iload_n 1, 1) := by decide +kernel
theorem dX6_rule_12 : decode cX6_rule 12 = .ok (.iconst 0, 1) := by decide +kernel
theorem dX6_rule_13 : decode cX6_rule 13 = .ok (.iconst 2, 1) := by decide +kernel
theorem dX6_rule_14 : decode cX6_rule 14 = .ok (.invokestatic 67, 3) := by decide +kernel
theorem dX6_rule_17 : decode cX6_rule 17 = .ok (.ifCond .eq 13, 3) := by decide +kernel
theorem dX6_rule_20 : decode cX6_rule 20 = .ok (.iload_n 2, 1) := by decide +kernel
theorem dX6_rule_21 : decode cX6_rule 21 = .ok (.iload_n 3, 1) := by decide +kernel
theorem dX6_rule_22 : decode cX6_rule 22 = .ok (.bipush 99, 2) := by decide +kernel
theorem dX6_rule_24 : decode cX6_rule 24 = .ok (.invokestatic 67, 3) := by decide +kernel
theorem dX6_rule_27 : decode cX6_rule 27 = .ok (.ifCond .ne 6, 3) := by decide +kernel
theorem dX6_rule_30 : decode cX6_rule 30 = .ok (.ldc 71, 2) := by decide +kernel
theorem dX6_rule_32 : decode cX6_rule 32 = .ok (.ireturn, 1) := by decide +kernel
theorem dX6_rule_33 : decode cX6_rule 33 = .ok (.iload_n 1, 1) := by decide +kernel
theorem dX6_rule_34 : decode cX6_rule 34 = .ok (.ifCond .ne 23, 3) := by decide +kernel
theorem dX6_rule_37 : decode cX6_rule 37 = .ok (.aload_n 0, 1) := by decide +kernel
theorem dX6_rule_38 : decode cX6_rule 38 = .ok (.getfield 28, 3) := by decide +kernel
theorem dX6_rule_41 : decode cX6_rule 41 = .ok (.getfield 136, 3) := by decide +kernel
theorem dX6_rule_44 : decode cX6_rule 44 = .ok (.istore 4, 2) := by decide +kernel
theorem dX6_rule_46 : decode cX6_rule 46 = .ok (.aload_n 0, 1) := by decide +kernel
theorem dX6_rule_47 : decode cX6_rule 47 = .ok (.getfield 28, 3) := by decide +kernel
theorem dX6_rule_50 : decode cX6_rule 50 = .ok (.iload_n 2, 1) := by decide +kernel
theorem dX6_rule_51 : decode cX6_rule 51 = .ok (.putfield 136, 3) := by decide +kernel
theorem dX6_rule_54 : decode cX6_rule 54 = .ok (.goto 45, 3) := by decide +kernel
theorem dX6_rule_57 : decode cX6_rule 57 = .ok (.iload_n 1, 1) := by decide +kernel
theorem dX6_rule_58 : decode cX6_rule 58 = .ok (.iconst 1, 1) := by decide +kernel
theorem dX6_rule_59 : decode cX6_rule 59 = .ok (.if_icmp .ne 23, 3) := by decide +kernel
theorem dX6_rule_62 : decode cX6_rule 62 = .ok (.aload_n 0, 1) := by decide +kernel
theorem dX6_rule_63 : decode cX6_rule 63 = .ok (.getfield 28, 3) := by decide +kernel
theorem dX6_rule_66 : decode cX6_rule 66 = .ok (.getfield 139, 3) := by decide +kernel
theorem dX6_rule_69 : decode cX6_rule 69 = .ok (.istore 4, 2) := by decide +kernel
theorem dX6_rule_71 : decode cX6_rule 71 = .ok (.aload_n 0, 1) := by decide +kernel
theorem dX6_rule_72 : decode cX6_rule 72 = .ok (.getfield 28, 3) := by decide +kernel
theorem dX6_rule_75 : decode cX6_rule 75 = .ok (.iload_n 2, 1) := by decide +kernel
theorem dX6_rule_76 : decode cX6_rule 76 = .ok (.putfield 139, 3) := by decide +kernel
theorem dX6_rule_79 : decode cX6_rule 79 = .ok (.goto 20, 3) := by decide +kernel
theorem dX6_rule_82 : decode cX6_rule 82 = .ok (.aload_n 0, 1) := by decide +kernel
theorem dX6_rule_83 : decode cX6_rule 83 = .ok (.getfield 28, 3) := by decide +kernel
theorem dX6_rule_86 : decode cX6_rule 86 = .ok (.getfield 142, 3) := by decide +kernel
theorem dX6_rule_89 : decode cX6_rule 89 = .ok (.istore 4, 2) := by decide +kernel
theorem dX6_rule_91 : decode cX6_rule 91 = .ok (.aload_n 0, 1) := by decide +kernel
theorem dX6_rule_92 : decode cX6_rule 92 = .ok (.getfield 28, 3) := by decide +kernel
theorem dX6_rule_95 : decode cX6_rule 95 = .ok (.iload_n 2, 1) := by decide +kernel
theorem dX6_rule_96 : decode cX6_rule 96 = .ok (.putfield 142, 3) := by decide +kernel
theorem dX6_rule_99 : decode cX6_rule 99 = .ok (.iload 4, 2) := by decide +kernel
theorem dX6_rule_101 : decode cX6_rule 101 = .ok (.ireturn, 1) := by decide +kernel
theorem dX6_again_0 : decode cX6_again 0 = .ok (.aload_n 0, 1) := by decide +kernel
theorem dX6_again_1 : decode cX6_again 1 = .ok (.getfield 28, 3) := by decide +kernel
theorem dX6_again_4 : decode cX6_again 4 = .ok (.getfield 145, 3) := by decide +kernel
theorem dX6_again_7 : decode cX6_again 7 = .ok (.istore_n 1, 1) := by decide +kernel
theorem dX6_again_8 : decode cX6_again 8 = .ok (.aload_n 0, 1) := by decide +kernel
theorem dX6_again_9 : decode cX6_again 9 = .ok (.getfield 28, 3) := by decide +kernel
theorem dX6_again_12 : decode cX6_again 12 = .ok (.invokevirtual 148, 3) := by decide +kernel
theorem dX6_again_15 : decode cX6_again 15 = .ok (.iload_n 1, 1) := by decide +kernel
theorem dX6_again_16 : decode cX6_again 16 = .ok (.ireturn, 1) := by decide +kernel
theorem dX6_deal_0 : decode cX6_deal 0 = .ok (.iload_n 1, 1) := by decide +kernel
theorem dX6_deal_1 : decode cX6_deal 1 = .ok (.iconst 1, 1) := by decide +kernel
theorem dX6_deal_2 : decode cX6_deal 2 = .ok (.bipush 10, 2) := by decide +kernel
theorem dX6_deal_4 : decode cX6_deal 4 = .ok (.invokestatic 67, 3) := by decide +kernel
theorem dX6_deal_7 : decode cX6_deal 7 = .ok (.ifCond .ne 6, 3) := by decide +kernel
theorem dX6_deal_10 : decode cX6_deal 10 = .ok (.ldc 71, 2) := by decide +kernel
theorem dX6_deal_12 : decode cX6_deal 12 = .ok (.ireturn, 1) := by decide +kernel
theorem dX6_deal_13 : decode cX6_deal 13 = .ok (.iload_n 1, 1) := by decide +kernel
theorem dX6_deal_14 : decode cX6_deal 14 = .ok (.bipush 10, 2) := by decide +kernel
theorem dX6_deal_16 : decode cX6_deal 16 = .ok (.aload_n 0, 1) := by decide +kernel
theorem dX6_deal_17 : decode cX6_deal 17 = .ok (.getfield 28, 3) := by decide +kernel
theorem dX6_deal_20 : decode cX6_deal 20 = .ok (.getfield 72, 3) := by decide +kernel
theorem dX6_deal_23 : decode cX6_deal 23 = .ok (.isub, 1) := by decide +kernel
theorem dX6_deal_24 : decode cX6_deal 24 = .ok (.invokestatic 151, 3) := by decide +kernel
theorem dX6_deal_27 : decode cX6_deal 27 = .ok (.istore_n 2, 1) := by decide +kernel
theorem dX6_deal_28 : decode cX6_deal 28 = .ok (.iconst 0, 1) := by decide +kernel
theorem dX6_deal_29 : decode cX6_deal 29 = .ok (.istore_n 3, 1) := by decide +kernel
theorem dX6_deal_30 : decode cX6_deal 30 = .ok (.iload_n 3, 1) := by decide +kernel
theorem dX6_deal_31 : decode cX6_deal 31 = .ok (.iload_n 2, 1) := by decide +kernel
theorem dX6_deal_32 : decode cX6_deal 32 = .ok (.if_icmp .ge 16, 3) := by decide +kernel
theorem dX6_deal_35 : decode cX6_deal 35 = .ok (.aload_n 0, 1) := by decide +kernel
theorem dX6_deal_36 : decode cX6_deal 36 = .ok (.getfield 28, 3) := by decide +kernel
theorem dX6_deal_39 : decode cX6_deal 39 = .ok (.invokevirtual 156, 3) := by decide +kernel
theorem dX6_deal_42 : decode cX6_deal 42 = .ok (.iinc 3 1, 3) := by decide +kernel
theorem dX6_deal_45 : decode cX6_deal 45 = .ok (.goto (-15), 3) := by decide +kernel
theorem dX6_deal_48 : decode cX6_deal 48 = .ok (.iload_n 2, 1) := by decide +kernel
theorem dX6_deal_49 : decode cX6_deal 49 = .ok (.ireturn, 1) := by decide +kernel
theorem dX6_seed_0 : decode cX6_seed 0 = .ok (.aload_n 0, 1) := by decide +kernel
theorem dX6_seed_1 : decode cX6_seed 1 = .ok (.getfield 28, 3) := by decide +kernel
theorem dX6_seed_4 : decode cX6_seed 4 = .ok (.getfield 159, 3) := by decide +kernel
theorem dX6_seed_7 : decode cX6_seed 7 = .ok (.istore_n 2, 1) := by decide +kernel
theorem dX6_seed_8 : decode cX6_seed 8 = .ok (.aload_n 0, 1) := by decide +kernel
theorem dX6_seed_9 : decode cX6_seed 9 = .ok (.getfield 28, 3) := by decide +kernel
theorem dX6_seed_12 : decode cX6_seed 12 = .ok (.iload_n 1, 1) := by decide +kernel
theorem dX6_seed_13 : decode cX6_seed 13 = .ok (.putfield 159, 3) := by decide +kernel
theorem dX6_seed_16 : decode cX6_seed 16 = .ok (.iload_n 2, 1) := by decide +kernel
theorem dX6_seed_17 : decode cX6_seed 17 = .ok (.ireturn, 1) := by decide +kernel
theorem dX6_rounds_0 : decode cX6_rounds 0 = .ok (.iload_n 1, 1) := by decide +kernel
theorem dX6_rounds_1 : decode cX6_rounds 1 = .ok (.iconst 1, 1) := by decide +kernel
theorem dX6_rounds_2 : decode cX6_rounds 2 = .ok (.bipush 100, 2) := by decide +kernel
theorem dX6_rounds_4 : decode cX6_rounds 4 = .ok (.invokestatic 67, 3) := by decide +kernel
theorem dX6_rounds_7 : decode cX6_rounds 7 = .ok (.ifCond .ne 6, 3) := by decide +kernel
theorem dX6_rounds_10 : decode cX6_rounds 10 = .ok (.ldc 71, 2) := by decide +kernel
theorem dX6_rounds_12 : decode cX6_rounds 12 = .ok (.ireturn, 1) := by decide +kernel
theorem dX6_rounds_13 : decode cX6_rounds 13 = .ok (.aload_n 0, 1) := by decide +kernel
theorem dX6_rounds_14 : decode cX6_rounds 14 = .ok (.getfield 28, 3) := by decide +kernel
theorem dX6_rounds_17 : decode cX6_rounds 17 = .ok (.iload_n 1, 1) := by decide +kernel
theorem dX6_rounds_18 : decode cX6_rounds 18 = .ok (.sipush 9999, 3) := by decide +kernel
theorem dX6_rounds_21 : decode cX6_rounds 21 = .ok (.aload_n 0, 1) := by decide +kernel
theorem dX6_rounds_22 : decode cX6_rounds 22 = .ok (.getfield 28, 3) := by decide +kernel
theorem dX6_rounds_25 : decode cX6_rounds 25 = .ok (.getfield 162, 3) := by decide +kernel
theorem dX6_rounds_28 : decode cX6_rounds 28 = .ok (.isub, 1) := by decide +kernel
theorem dX6_rounds_29 : decode cX6_rounds 29 = .ok (.invokestatic 151, 3) := by decide +kernel
theorem dX6_rounds_32 : decode cX6_rounds 32 = .ok (.invokevirtual 165, 3) := by decide +kernel
theorem dX6_rounds_35 : decode cX6_rounds 35 = .ok (.aload_n 0, 1) := by decide +kernel
theorem dX6_rounds_36 : decode cX6_rounds 36 = .ok (.getfield 28, 3) := by decide +kernel
theorem dX6_rounds_39 : decode cX6_rounds 39 = .ok (.getfield 169, 3) := by decide +kernel
theorem dX6_rounds_42 : decode cX6_rounds 42 = .ok (.ireturn, 1) := by decide +kernel
theorem dX6_conclave_0 : decode cX6_conclave 0 = .ok (.iload_n 1, 1) := by decide +kernel
theorem dX6_conclave_1 : decode cX6_conclave 1 = .ok (.tableswitch 102 0 5 #[39, 47, 55, 63, 71, 79], 39) := by decide +kernel
theorem dX6_conclave_40 : decode cX6_conclave 40 = .ok (.aload_n 0, 1) := by decide +kernel
theorem dX6_conclave_41 : decode cX6_conclave 41 = .ok (.getfield 28, 3) := by decide +kernel
theorem dX6_conclave_44 : decode cX6_conclave 44 = .ok (.getfield 169, 3) := by decide +kernel
theorem dX6_conclave_47 : decode cX6_conclave 47 = .ok (.ireturn, 1) := by decide +kernel
theorem dX6_conclave_48 : decode cX6_conclave 48 = .ok (.aload_n 0, 1) := by decide +kernel
theorem dX6_conclave_49 : decode cX6_conclave 49 = .ok (.getfield 28, 3) := by decide +kernel
theorem dX6_conclave_52 : decode cX6_conclave 52 = .ok (.invokevirtual 172, 3) := by decide +kernel
theorem dX6_conclave_55 : decode cX6_conclave 55 = .ok (.ireturn, 1) := by decide +kernel
theorem dX6_conclave_56 : decode cX6_conclave 56 = .ok (.aload_n 0, 1) := by decide +kernel
theorem dX6_conclave_57 : decode cX6_conclave 57 = .ok (.getfield 28, 3) := by decide +kernel
theorem dX6_conclave_60 : decode cX6_conclave 60 = .ok (.getfield 175, 3) := by decide +kernel
theorem dX6_conclave_63 : decode cX6_conclave 63 = .ok (.ireturn, 1) := by decide +kernel
theorem dX6_conclave_64 : decode cX6_conclave 64 = .ok (.aload_n 0, 1) := by decide +kernel
theorem dX6_conclave_65 : decode cX6_conclave 65 = .ok (.getfield 28, 3) := by decide +kernel
theorem dX6_conclave_68 : decode cX6_conclave 68 = .ok (.getfield 178, 3) := by decide +kernel
theorem dX6_conclave_71 : decode cX6_conclave 71 = .ok (.ireturn, 1) := by decide +kernel
theorem dX6_conclave_72 : decode cX6_conclave 72 = .ok (.aload_n 0, 1) := by decide +kernel
theorem dX6_conclave_73 : decode cX6_conclave 73 = .ok (.getfield 28, 3) := by decide +kernel
theorem dX6_conclave_76 : decode cX6_conclave 76 = .ok (.invokevirtual 105, 3) := by decide +kernel
theorem dX6_conclave_79 : decode cX6_conclave 79 = .ok (.ireturn, 1) := by decide +kernel
theorem dX6_conclave_80 : decode cX6_conclave 80 = .ok (.aload_n 0, 1) := by decide +kernel
theorem dX6_conclave_81 : decode cX6_conclave 81 = .ok (.getfield 28, 3) := by decide +kernel
theorem dX6_conclave_84 : decode cX6_conclave 84 = .ok (.invokevirtual 181, 3) := by decide +kernel
theorem dX6_conclave_87 : decode cX6_conclave 87 = .ok (.ifCond .le 13, 3) := by decide +kernel
theorem dX6_conclave_90 : decode cX6_conclave 90 = .ok (.aload_n 0, 1) := by decide +kernel
theorem dX6_conclave_91 : decode cX6_conclave 91 = .ok (.getfield 28, 3) := by decide +kernel
theorem dX6_conclave_94 : decode cX6_conclave 94 = .ok (.invokevirtual 109, 3) := by decide +kernel
theorem dX6_conclave_97 : decode cX6_conclave 97 = .ok (.goto 5, 3) := by decide +kernel
theorem dX6_conclave_100 : decode cX6_conclave 100 = .ok (.ldc 184, 2) := by decide +kernel
theorem dX6_conclave_102 : decode cX6_conclave 102 = .ok (.ireturn, 1) := by decide +kernel
theorem dX6_conclave_103 : decode cX6_conclave 103 = .ok (.ldc 71, 2) := by decide +kernel
theorem dX6_conclave_105 : decode cX6_conclave 105 = .ok (.ireturn, 1) := by decide +kernel
theorem dX6_butOne_0 : decode cX6_butOne 0 = .ok (.aload_n 0, 1) := by decide +kernel
theorem dX6_butOne_1 : decode cX6_butOne 1 = .ok (.getfield 28, 3) := by decide +kernel
theorem dX6_butOne_4 : decode cX6_butOne 4 = .ok (.invokevirtual 172, 3) := by decide +kernel
theorem dX6_butOne_7 : decode cX6_butOne 7 = .ok (.iconst 1, 1) := by decide +kernel
theorem dX6_butOne_8 : decode cX6_butOne 8 = .ok (.isub, 1) := by decide +kernel
theorem dX6_butOne_9 : decode cX6_butOne 9 = .ok (.istore_n 1, 1) := by decide +kernel
theorem dX6_butOne_10 : decode cX6_butOne 10 = .ok (.iconst 0, 1) := by decide +kernel
theorem dX6_butOne_11 : decode cX6_butOne 11 = .ok (.istore_n 2, 1) := by decide +kernel
theorem dX6_butOne_12 : decode cX6_butOne 12 = .ok (.iconst 0, 1) := by decide +kernel
theorem dX6_butOne_13 : decode cX6_butOne 13 = .ok (.istore_n 3, 1) := by decide +kernel
theorem dX6_butOne_14 : decode cX6_butOne 14 = .ok (.iload_n 3, 1) := by decide +kernel
theorem dX6_butOne_15 : decode cX6_butOne 15 = .ok (.aload_n 0, 1) := by decide +kernel
theorem dX6_butOne_16 : decode cX6_butOne 16 = .ok (.getfield 28, 3) := by decide +kernel
theorem dX6_butOne_19 : decode cX6_butOne 19 = .ok (.getfield 72, 3) := by decide +kernel
theorem dX6_butOne_22 : decode cX6_butOne 22 = .ok (.if_icmp .ge 28, 3) := by decide +kernel
theorem dX6_butOne_25 : decode cX6_butOne 25 = .ok (.aload_n 0, 1) := by decide +kernel
theorem dX6_butOne_26 : decode cX6_butOne 26 = .ok (.getfield 28, 3) := by decide +kernel
theorem dX6_butOne_29 : decode cX6_butOne 29 = .ok (.getfield 102, 3) := by decide +kernel
theorem dX6_butOne_32 : decode cX6_butOne 32 = .ok (.iload_n 3, 1) := by decide +kernel
theorem dX6_butOne_33 : decode cX6_butOne 33 = .ok (.iaload, 1) := by decide +kernel
theorem dX6_butOne_34 : decode cX6_butOne 34 = .ok (.iload_n 1, 1) := by decide +kernel
theorem dX6_butOne_35 : decode cX6_butOne 35 = .ok (.if_icmp .ne 9, 3) := by decide +kernel
theorem dX6_butOne_38 : decode cX6_butOne 38 = .ok (.iload_n 2, 1) := by decide +kernel
theorem dX6_butOne_39 : decode cX6_butOne 39 = .ok (.iconst 1, 1) := by decide +kernel
theorem dX6_butOne_40 : decode cX6_butOne 40 = .ok (.iload_n 3, 1) := by decide +kernel
theorem dX6_butOne_41 : decode cX6_butOne 41 = .ok (.ishl, 1) := by decide +kernel
theorem dX6_butOne_42 : decode cX6_butOne 42 = .ok (.ior, 1) := by decide +kernel
theorem dX6_butOne_43 : decode cX6_butOne 43 = .ok (.istore_n 2, 1) := by decide +kernel
theorem dX6_butOne_44 : decode cX6_butOne 44 = .ok (.iinc 3 1, 3) := by decide +kernel
theorem dX6_butOne_47 : decode cX6_butOne 47 = .ok (.goto (-33), 3) := by decide +kernel
theorem dX6_butOne_50 : decode cX6_butOne 50 = .ok (.iload_n 2, 1) := by decide +kernel
theorem dX6_butOne_51 : decode cX6_butOne 51 = .ok (.ireturn, 1) := by decide +kernel
theorem dX6_decides_0 : decode cX6_decides 0 = .ok (.aload_n 0, 1) := by decide +kernel
theorem dX6_decides_1 : decode cX6_decides 1 = .ok (.getfield 28, 3) := by decide +kernel
theorem dX6_decides_4 : decode cX6_decides 4 = .ok (.invokevirtual 172, 3) := by decide +kernel
theorem dX6_decides_7 : decode cX6_decides 7 = .ok (.istore_n 1, 1) := by decide +kernel
theorem dX6_decides_8 : decode cX6_decides 8 = .ok (.iconst 0, 1) := by decide +kernel
theorem dX6_decides_9 : decode cX6_decides 9 = .ok (.istore_n 2, 1) := by decide +kernel
theorem dX6_decides_10 : decode cX6_decides 10 = .ok (.iconst 0, 1) := by decide +kernel
theorem dX6_decides_11 : decode cX6_decides 11 = .ok (.istore_n 3, 1) := by decide +kernel
theorem dX6_decides_12 : decode cX6_decides 12 = .ok (.iload_n 3, 1) := by decide +kernel
theorem dX6_decides_13 : decode cX6_decides 13 = .ok (.aload_n 0, 1) := by decide +kernel
theorem dX6_decides_14 : decode cX6_decides 14 = .ok (.getfield 28, 3) := by decide +kernel
theorem dX6_decides_17 : decode cX6_decides 17 = .ok (.getfield 72, 3) := by decide +kernel
theorem dX6_decides_20 : decode cX6_decides 20 = .ok (.if_icmp .ge 79, 3) := by decide +kernel
theorem dX6_decides_23 : decode cX6_decides 23 = .ok (.aload_n 0, 1) := by decide +kernel
theorem dX6_decides_24 : decode cX6_decides 24 = .ok (.getfield 28, 3) := by decide +kernel
theorem dX6_decides_27 : decode cX6_decides 27 = .ok (.getfield 99, 3) := by decide +kernel
theorem dX6_decides_30 : decode cX6_decides 30 = .ok (.iload_n 3, 1) := by decide +kernel
theorem dX6_decides_31 : decode cX6_decides 31 = .ok (.iaload, 1) := by decide +kernel
theorem dX6_decides_32 : decode cX6_decides 32 = .ok (.istore 4, 2) := by decide +kernel
theorem dX6_decides_34 : decode cX6_decides 34 = .ok (.aload_n 0, 1) := by decide +kernel
theorem dX6_decides_35 : decode cX6_decides 35 = .ok (.getfield 28, 3) := by decide +kernel
theorem dX6_decides_38 : decode cX6_decides 38 = .ok (.iload 4, 2) := by decide +kernel
theorem dX6_decides_40 : decode cX6_decides 40 = .ok (.invokevirtual 80, 3) := by decide +kernel
theorem dX6_decides_43 : decode cX6_decides 43 = .ok (.ifCond .eq 50, 3) := by decide +kernel
theorem dX6_decides_46 : decode cX6_decides 46 = .ok (.aload_n 0, 1) := by decide +kernel
theorem dX6_decides_47 : decode cX6_decides 47 = .ok (.getfield 28, 3) := by decide +kernel
theorem dX6_decides_50 : decode cX6_decides 50 = .ok (.getfield 102, 3) := by decide +kernel
theorem dX6_decides_53 : decode cX6_decides 53 = .ok (.iload 4, 2) := by decide +kernel
theorem dX6_decides_55 : decode cX6_decides 55 = .ok (.iaload, 1) := by decide +kernel
theorem dX6_decides_56 : decode cX6_decides 56 = .ok (.iload_n 1, 1) := by decide +kernel
theorem dX6_decides_57 : decode cX6_decides 57 = .ok (.if_icmp .lt 36, 3) := by decide +kernel
theorem dX6_decides_60 : decode cX6_decides 60 = .ok (.aload_n 0, 1) := by decide +kernel
theorem dX6_decides_61 : decode cX6_decides 61 = .ok (.getfield 28, 3) := by decide +kernel
theorem dX6_decides_64 : decode cX6_decides 64 = .ok (.getfield 102, 3) := by decide +kernel
theorem dX6_decides_67 : decode cX6_decides 67 = .ok (.iload 4, 2) := by decide +kernel
theorem dX6_decides_69 : decode cX6_decides 69 = .ok (.iaload, 1) := by decide +kernel
theorem dX6_decides_70 : decode cX6_decides 70 = .ok (.aload_n 0, 1) := by decide +kernel
theorem dX6_decides_71 : decode cX6_decides 71 = .ok (.getfield 28, 3) := by decide +kernel
theorem dX6_decides_74 : decode cX6_decides 74 = .ok (.getfield 84, 3) := by decide +kernel
theorem dX6_decides_77 : decode cX6_decides 77 = .ok (.iload_n 3, 1) := by decide +kernel
theorem dX6_decides_78 : decode cX6_decides 78 = .ok (.iaload, 1) := by decide +kernel
theorem dX6_decides_79 : decode cX6_decides 79 = .ok (.invokestatic 116, 3) := by decide +kernel
theorem dX6_decides_82 : decode cX6_decides 82 = .ok (.isub, 1) := by decide +kernel
theorem dX6_decides_83 : decode cX6_decides 83 = .ok (.iload_n 1, 1) := by decide +kernel
theorem dX6_decides_84 : decode cX6_decides 84 = .ok (.if_icmp .ge 9, 3) := by decide +kernel
theorem dX6_decides_87 : decode cX6_decides 87 = .ok (.iload_n 2, 1) := by decide +kernel
theorem dX6_decides_88 : decode cX6_decides 88 = .ok (.iconst 1, 1) := by decide +kernel
theorem dX6_decides_89 : decode cX6_decides 89 = .ok (.iload_n 3, 1) := by decide +kernel
theorem dX6_decides_90 : decode cX6_decides 90 = .ok (.ishl, 1) := by decide +kernel
theorem dX6_decides_91 : decode cX6_decides 91 = .ok (.ior, 1) := by decide +kernel
theorem dX6_decides_92 : decode cX6_decides 92 = .ok (.istore_n 2, 1) := by decide +kernel
theorem dX6_decides_93 : decode cX6_decides 93 = .ok (.iinc 3 1, 3) := by decide +kernel
theorem dX6_decides_96 : decode cX6_decides 96 = .ok (.goto (-84), 3) := by decide +kernel
theorem dX6_decides_99 : decode cX6_decides 99 = .ok (.iload_n 2, 1) := by decide +kernel
theorem dX6_decides_100 : decode cX6_decides 100 = .ok (.ireturn, 1) := by decide +kernel
theorem dX6_splits_0 : decode cX6_splits 0 = .ok (.iload_n 1, 1) := by decide +kernel
theorem dX6_splits_1 : decode cX6_splits 1 = .ok (.iconst 0, 1) := by decide +kernel
theorem dX6_splits_2 : decode cX6_splits 2 = .ok (.bipush 12, 2) := by decide +kernel
theorem dX6_splits_4 : decode cX6_splits 4 = .ok (.invokestatic 67, 3) := by decide +kernel
theorem dX6_splits_7 : decode cX6_splits 7 = .ok (.ifCond .eq 13, 3) := by decide +kernel
theorem dX6_splits_10 : decode cX6_splits 10 = .ok (.iload_n 2, 1) := by decide +kernel
theorem dX6_splits_11 : decode cX6_splits 11 = .ok (.iconst 1, 1) := by decide +kernel
theorem dX6_splits_12 : decode cX6_splits 12 = .ok (.bipush 6, 2) := by decide +kernel
theorem dX6_splits_14 : decode cX6_splits 14 = .ok (.invokestatic 67, 3) := by decide +kernel
theorem dX6_splits_17 : decode cX6_splits 17 = .ok (.ifCond .ne 6, 3) := by decide +kernel
theorem dX6_splits_20 : decode cX6_splits 20 = .ok (.ldc 71, 2) := by decide +kernel
theorem dX6_splits_22 : decode cX6_splits 22 = .ok (.ireturn, 1) := by decide +kernel
theorem dX6_splits_23 : decode cX6_splits 23 = .ok (.aload_n 0, 1) := by decide +kernel
theorem dX6_splits_24 : decode cX6_splits 24 = .ok (.getfield 56, 3) := by decide +kernel
theorem dX6_splits_27 : decode cX6_splits 27 = .ok (.iconst 0, 1) := by decide +kernel
theorem dX6_splits_28 : decode cX6_splits 28 = .ok (.invokestatic 185, 3) := by decide +kernel
theorem dX6_splits_31 : decode cX6_splits 31 = .ok (.aload_n 0, 1) := by decide +kernel
theorem dX6_splits_32 : decode cX6_splits 32 = .ok (.getfield 56, 3) := by decide +kernel
theorem dX6_splits_35 : decode cX6_splits 35 = .ok (.iconst 0, 1) := by decide +kernel
theorem dX6_splits_36 : decode cX6_splits 36 = .ok (.iconst 1, 1) := by decide +kernel
theorem dX6_splits_37 : decode cX6_splits 37 = .ok (.iastore, 1) := by decide +kernel
theorem dX6_splits_38 : decode cX6_splits 38 = .ok (.iconst 0, 1) := by decide +kernel
theorem dX6_splits_39 : decode cX6_splits 39 = .ok (.istore_n 3, 1) := by decide +kernel
theorem dX6_splits_40 : decode cX6_splits 40 = .ok (.iload_n 3, 1) := by decide +kernel
theorem dX6_splits_41 : decode cX6_splits 41 = .ok (.iload_n 2, 1) := by decide +kernel
theorem dX6_splits_42 : decode cX6_splits 42 = .ok (.if_icmp .ge 37, 3) := by decide +kernel
theorem dX6_splits_45 : decode cX6_splits 45 = .ok (.iload_n 1, 1) := by decide +kernel
theorem dX6_splits_46 : decode cX6_splits 46 = .ok (.istore 4, 2) := by decide +kernel
theorem dX6_splits_48 : decode cX6_splits 48 = .ok (.iload 4, 2) := by decide +kernel
theorem dX6_splits_50 : decode cX6_splits 50 = .ok (.ifCond .lt 23, 3) := by decide +kernel
theorem dX6_splits_53 : decode cX6_splits 53 = .ok (.aload_n 0, 1) := by decide +kernel
theorem dX6_splits_54 : decode cX6_splits 54 = .ok (.getfield 56, 3) := by decide +kernel
theorem dX6_splits_57 : decode cX6_splits 57 = .ok (.iload 4, 2) := by decide +kernel
theorem dX6_splits_59 : decode cX6_splits 59 = .ok (.aload_n 0, 1) := by decide +kernel
theorem dX6_splits_60 : decode cX6_splits 60 = .ok (.iload 4, 2) := by decide +kernel
theorem dX6_splits_62 : decode cX6_splits 62 = .ok (.iload_n 1, 1) := by decide +kernel
theorem dX6_splits_63 : decode cX6_splits 63 = .ok (.invokevirtual 191, 3) := by decide +kernel
theorem dX6_splits_66 : decode cX6_splits 66 = .ok (.iastore, 1) := by decide +kernel
theorem dX6_splits_67 : decode cX6_splits 67 = .ok (.iinc 4 (-1), 3) := by decide +kernel
theorem dX6_splits_70 : decode cX6_splits 70 = .ok (.goto (-22), 3) := by decide +kernel
theorem dX6_splits_73 : decode cX6_splits 73 = .ok (.iinc 3 1, 3) := by decide +kernel
theorem dX6_splits_76 : decode cX6_splits 76 = .ok (.goto (-36), 3) := by decide +kernel
theorem dX6_splits_79 : decode cX6_splits 79 = .ok (.aload_n 0, 1) := by decide +kernel
theorem dX6_splits_80 : decode cX6_splits 80 = .ok (.getfield 56, 3) := by decide +kernel
theorem dX6_splits_83 : decode cX6_splits 83 = .ok (.iload_n 1, 1) := by decide +kernel
theorem dX6_splits_84 : decode cX6_splits 84 = .ok (.iaload, 1) := by decide +kernel
theorem dX6_splits_85 : decode cX6_splits 85 = .ok (.ireturn, 1) := by decide +kernel
theorem dX6_behind_0 : decode cX6_behind 0 = .ok (.iload_n 2, 1) := by decide +kernel
theorem dX6_behind_1 : decode cX6_behind 1 = .ok (.iconst 0, 1) := by decide +kernel
theorem dX6_behind_2 : decode cX6_behind 2 = .ok (.iconst 2, 1) := by decide +kernel
theorem dX6_behind_3 : decode cX6_behind 3 = .ok (.invokestatic 67, 3) := by decide +kernel
theorem dX6_behind_6 : decode cX6_behind 6 = .ok (.ifCond .ne 21, 3) := by decide +kernel
theorem dX6_behind_9 : decode cX6_behind 9 = .ok (.iload_n 2, 1) := by decide +kernel
theorem dX6_behind_10 : decode cX6_behind 10 = .ok (.iconst 3, 1) := by decide +kernel
theorem dX6_behind_11 : decode cX6_behind 11 = .ok (.if_icmp .lt 20, 3) := by decide +kernel
theorem dX6_behind_14 : decode cX6_behind 14 = .ok (.aload_n 0, 1) := by decide +kernel
theorem dX6_behind_15 : decode cX6_behind 15 = .ok (.getfield 28, 3) := by decide +kernel
theorem dX6_behind_18 : decode cX6_behind 18 = .ok (.iload_n 2, 1) := by decide +kernel
theorem dX6_behind_19 : decode cX6_behind 19 = .ok (.iconst 3, 1) := by decide +kernel
theorem dX6_behind_20 : decode cX6_behind 20 = .ok (.isub, 1) := by decide +kernel
theorem dX6_behind_21 : decode cX6_behind 21 = .ok (.invokevirtual 80, 3) := by decide +kernel
theorem dX6_behind_24 : decode cX6_behind 24 = .ok (.ifCond .eq 7, 3) := by decide +kernel
theorem dX6_behind_27 : decode cX6_behind 27 = .ok (.iconst 1, 1) := by decide +kernel
theorem dX6_behind_28 : decode cX6_behind 28 = .ok (.goto 4, 3) := by decide +kernel
theorem dX6_behind_31 : decode cX6_behind 31 = .ok (.iconst 0, 1) := by decide +kernel
theorem dX6_behind_32 : decode cX6_behind 32 = .ok (.istore_n 3, 1) := by decide +kernel
theorem dX6_behind_33 : decode cX6_behind 33 = .ok (.iload_n 1, 1) := by decide +kernel
theorem dX6_behind_34 : decode cX6_behind 34 = .ok (.iconst 0, 1) := by decide +kernel
theorem dX6_behind_35 : decode cX6_behind 35 = .ok (.bipush 100, 2) := by decide +kernel
theorem dX6_behind_37 : decode cX6_behind 37 = .ok (.invokestatic 67, 3) := by decide +kernel
theorem dX6_behind_40 : decode cX6_behind 40 = .ok (.ifCond .eq 7, 3) := by decide +kernel
theorem dX6_behind_43 : decode cX6_behind 43 = .ok (.iload_n 3, 1) := by decide +kernel
theorem dX6_behind_44 : decode cX6_behind 44 = .ok (.ifCond .ne 6, 3) := by decide +kernel
theorem dX6_behind_47 : decode cX6_behind 47 = .ok (.ldc 71, 2) := by decide +kernel
theorem dX6_behind_49 : decode cX6_behind 49 = .ok (.ireturn, 1) := by decide +kernel
theorem dX6_behind_50 : decode cX6_behind 50 = .ok (.aload_n 0, 1) := by decide +kernel
theorem dX6_behind_51 : decode cX6_behind 51 = .ok (.getfield 35, 3) := by decide +kernel
theorem dX6_behind_54 : decode cX6_behind 54 = .ok (.aload_n 0, 1) := by decide +kernel
theorem dX6_behind_55 : decode cX6_behind 55 = .ok (.getfield 28, 3) := by decide +kernel
theorem dX6_behind_58 : decode cX6_behind 58 = .ok (.invokevirtual 194, 3) := by decide +kernel
theorem dX6_behind_61 : decode cX6_behind 61 = .ok (.aload_n 0, 1) := by decide +kernel
theorem dX6_behind_62 : decode cX6_behind 62 = .ok (.getfield 35, 3) := by decide +kernel
theorem dX6_behind_65 : decode cX6_behind 65 = .ok (.iload_n 1, 1) := by decide +kernel
theorem dX6_behind_66 : decode cX6_behind 66 = .ok (.invokevirtual 165, 3) := by decide +kernel
theorem dX6_behind_69 : decode cX6_behind 69 = .ok (.iload_n 2, 1) := by decide +kernel
theorem dX6_behind_70 : decode cX6_behind 70 = .ok (.tableswitch 50 0 2 #[26, 34, 42], 26) := by decide +kernel
theorem dX6_behind_96 : decode cX6_behind 96 = .ok (.aload_n 0, 1) := by decide +kernel
theorem dX6_behind_97 : decode cX6_behind 97 = .ok (.getfield 35, 3) := by decide +kernel
theorem dX6_behind_100 : decode cX6_behind 100 = .ok (.getfield 169, 3) := by decide +kernel
theorem dX6_behind_103 : decode cX6_behind 103 = .ok (.ireturn, 1) := by decide +kernel
theorem dX6_behind_104 : decode cX6_behind 104 = .ok (.aload_n 0, 1) := by decide +kernel
theorem dX6_behind_105 : decode cX6_behind 105 = .ok (.getfield 35, 3) := by decide +kernel
theorem dX6_behind_108 : decode cX6_behind 108 = .ok (.invokevirtual 181, 3) := by decide +kernel
theorem dX6_behind_111 : decode cX6_behind 111 = .ok (.ireturn, 1) := by decide +kernel
theorem dX6_behind_112 : decode cX6_behind 112 = .ok (.aload_n 0, 1) := by decide +kernel
theorem dX6_behind_113 : decode cX6_behind 113 = .ok (.getfield 35, 3) := by decide +kernel
theorem dX6_behind_116 : decode cX6_behind 116 = .ok (.getfield 175, 3) := by decide +kernel
theorem dX6_behind_119 : decode cX6_behind 119 = .ok (.ireturn, 1) := by decide +kernel
theorem dX6_behind_120 : decode cX6_behind 120 = .ok (.aload_n 0, 1) := by decide +kernel
theorem dX6_behind_121 : decode cX6_behind 121 = .ok (.getfield 35, 3) := by decide +kernel
theorem dX6_behind_124 : decode cX6_behind 124 = .ok (.getfield 99, 3) := by decide +kernel
theorem dX6_behind_127 : decode cX6_behind 127 = .ok (.iload_n 2, 1) := by decide +kernel
theorem dX6_behind_128 : decode cX6_behind 128 = .ok (.iconst 3, 1) := by decide +kernel
theorem dX6_behind_129 : decode cX6_behind 129 = .ok (.isub, 1) := by decide +kernel
theorem dX6_behind_130 : decode cX6_behind 130 = .ok (.iaload, 1) := by decide +kernel
theorem dX6_behind_131 : decode cX6_behind 131 = .ok (.ireturn, 1) := by decide +kernel
theorem dX6_ends_0 : decode cX6_ends 0 = .ok (.aload_n 0, 1) := by decide +kernel
theorem dX6_ends_1 : decode cX6_ends 1 = .ok (.getfield 35, 3) := by decide +kernel
theorem dX6_ends_4 : decode cX6_ends 4 = .ok (.aload_n 0, 1) := by decide +kernel
theorem dX6_ends_5 : decode cX6_ends 5 = .ok (.getfield 28, 3) := by decide +kernel
theorem dX6_ends_8 : decode cX6_ends 8 = .ok (.invokevirtual 194, 3) := by decide +kernel
theorem dX6_ends_11 : decode cX6_ends 11 = .ok (.iconst 0, 1) := by decide +kernel
theorem dX6_ends_12 : decode cX6_ends 12 = .ok (.istore_n 1, 1) := by decide +kernel
theorem dX6_ends_13 : decode cX6_ends 13 = .ok (.iload_n 1, 1) := by decide +kernel
theorem dX6_ends_14 : decode cX6_ends 14 = .ok (.bipush 100, 2) := by decide +kernel
theorem dX6_ends_16 : decode cX6_ends 16 = .ok (.if_icmp .gt 29, 3) := by decide +kernel
theorem dX6_ends_19 : decode cX6_ends 19 = .ok (.aload_n 0, 1) := by decide +kernel
theorem dX6_ends_20 : decode cX6_ends 20 = .ok (.getfield 35, 3) := by decide +kernel
theorem dX6_ends_23 : decode cX6_ends 23 = .ok (.getfield 169, 3) := by decide +kernel
theorem dX6_ends_26 : decode cX6_ends 26 = .ok (.iconst (-1), 1) := by decide +kernel
theorem dX6_ends_27 : decode cX6_ends 27 = .ok (.if_icmp .eq 5, 3) := by decide +kernel
theorem dX6_ends_30 : decode cX6_ends 30 = .ok (.iload_n 1, 1) := by decide +kernel
theorem dX6_ends_31 : decode cX6_ends 31 = .ok (.ireturn, 1) := by decide +kernel
theorem dX6_ends_32 : decode cX6_ends 32 = .ok (.aload_n 0, 1) := by decide +kernel
theorem dX6_ends_33 : decode cX6_ends 33 = .ok (.getfield 35, 3) := by decide +kernel
theorem dX6_ends_36 : decode cX6_ends 36 = .ok (.invokevirtual 198, 3) := by decide +kernel
theorem dX6_ends_39 : decode cX6_ends 39 = .ok (.iinc 1 1, 3) := by decide +kernel
theorem dX6_ends_42 : decode cX6_ends 42 = .ok (.goto (-29), 3) := by decide +kernel
theorem dX6_ends_45 : decode cX6_ends 45 = .ok (.ldc 184, 2) := by decide +kernel
theorem dX6_ends_47 : decode cX6_ends 47 = .ok (.ireturn, 1) := by decide +kernel
theorem dX6_won_0 : decode cX6_won 0 = .ok (.iload_n 1, 1) := by decide +kernel
theorem dX6_won_1 : decode cX6_won 1 = .ok (.iconst 1, 1) := by decide +kernel
theorem dX6_won_2 : decode cX6_won 2 = .ok (.bipush 40, 2) := by decide +kernel
theorem dX6_won_4 : decode cX6_won 4 = .ok (.invokestatic 67, 3) := by decide +kernel
theorem dX6_won_7 : decode cX6_won 7 = .ok (.ifCond .eq 23, 3) := by decide +kernel
theorem dX6_won_10 : decode cX6_won 10 = .ok (.aload_n 0, 1) := by decide +kernel
theorem dX6_won_11 : decode cX6_won 11 = .ok (.getfield 28, 3) := by decide +kernel
theorem dX6_won_14 : decode cX6_won 14 = .ok (.iload_n 2, 1) := by decide +kernel
theorem dX6_won_15 : decode cX6_won 15 = .ok (.invokevirtual 80, 3) := by decide +kernel
theorem dX6_won_18 : decode cX6_won 18 = .ok (.ifCond .eq 12, 3) := by decide +kernel
theorem dX6_won_21 : decode cX6_won 21 = .ok (.iload_n 3, 1) := by decide +kernel
theorem dX6_won_22 : decode cX6_won 22 = .ok (.iconst 0, 1) := by decide +kernel
theorem dX6_won_23 : decode cX6_won 23 = .ok (.iconst 1, 1) := by decide +kernel
theorem dX6_won_24 : decode cX6_won 24 = .ok (.invokestatic 67, 3) := by decide +kernel
theorem dX6_won_27 : decode cX6_won 27 = .ok (.ifCond .ne 6, 3) := by decide +kernel
theorem dX6_won_30 : decode cX6_won 30 = .ok (.ldc 71, 2) := by decide +kernel
theorem dX6_won_32 : decode cX6_won 32 = .ok (.ireturn, 1) := by decide +kernel
theorem dX6_won_33 : decode cX6_won 33 = .ok (.iconst 0, 1) := by decide +kernel
theorem dX6_won_34 : decode cX6_won 34 = .ok (.istore 4, 2) := by decide +kernel
theorem dX6_won_36 : decode cX6_won 36 = .ok (.iconst (-1), 1) := by decide +kernel
theorem dX6_won_37 : decode cX6_won 37 = .ok (.istore 5, 2) := by decide +kernel
theorem dX6_won_39 : decode cX6_won 39 = .ok (.iconst 0, 1) := by decide +kernel
theorem dX6_won_40 : decode cX6_won 40 = .ok (.istore 6, 2) := by decide +kernel
theorem dX6_won_42 : decode cX6_won 42 = .ok (.iload 6, 2) := by decide +kernel
theorem dX6_won_44 : decode cX6_won 44 = .ok (.aload_n 0, 1) := by decide +kernel
theorem dX6_won_45 : decode cX6_won 45 = .ok (.getfield 28, 3) := by decide +kernel
theorem dX6_won_48 : decode cX6_won 48 = .ok (.getfield 72, 3) := by decide +kernel
theorem dX6_won_51 : decode cX6_won 51 = .ok (.if_icmp .ge 68, 3) := by decide +kernel
theorem dX6_won_54 : decode cX6_won 54 = .ok (.aload_n 0, 1) := by decide +kernel
theorem dX6_won_55 : decode cX6_won 55 = .ok (.getfield 35, 3) := by decide +kernel
theorem dX6_won_58 : decode cX6_won 58 = .ok (.aload_n 0, 1) := by decide +kernel
theorem dX6_won_59 : decode cX6_won 59 = .ok (.getfield 28, 3) := by decide +kernel
theorem dX6_won_62 : decode cX6_won 62 = .ok (.invokevirtual 194, 3) := by decide +kernel
theorem dX6_won_65 : decode cX6_won 65 = .ok (.aload_n 0, 1) := by decide +kernel
theorem dX6_won_66 : decode cX6_won 66 = .ok (.getfield 35, 3) := by decide +kernel
theorem dX6_won_69 : decode cX6_won 69 = .ok (.getfield 87, 3) := by decide +kernel
theorem dX6_won_72 : decode cX6_won 72 = .ok (.iload 6, 2) := by decide +kernel
theorem dX6_won_74 : decode cX6_won 74 = .ok (.iload_n 2, 1) := by decide +kernel
theorem dX6_won_75 : decode cX6_won 75 = .ok (.iastore, 1) := by decide +kernel
theorem dX6_won_76 : decode cX6_won 76 = .ok (.aload_n 0, 1) := by decide +kernel
theorem dX6_won_77 : decode cX6_won 77 = .ok (.getfield 35, 3) := by decide +kernel
theorem dX6_won_80 : decode cX6_won 80 = .ok (.iload_n 1, 1) := by decide +kernel
theorem dX6_won_81 : decode cX6_won 81 = .ok (.invokevirtual 165, 3) := by decide +kernel
theorem dX6_won_84 : decode cX6_won 84 = .ok (.aload_n 0, 1) := by decide +kernel
theorem dX6_won_85 : decode cX6_won 85 = .ok (.getfield 35, 3) := by decide +kernel
theorem dX6_won_88 : decode cX6_won 88 = .ok (.getfield 102, 3) := by decide +kernel
theorem dX6_won_91 : decode cX6_won 91 = .ok (.iload_n 2, 1) := by decide +kernel
theorem dX6_won_92 : decode cX6_won 92 = .ok (.iaload, 1) := by decide +kernel
theorem dX6_won_93 : decode cX6_won 93 = .ok (.iload 5, 2) := by decide +kernel
theorem dX6_won_95 : decode cX6_won 95 = .ok (.if_icmp .le 18, 3) := by decide +kernel
theorem dX6_won_98 : decode cX6_won 98 = .ok (.iload 6, 2) := by decide +kernel
theorem dX6_won_100 : decode cX6_won 100 = .ok (.istore 4, 2) := by decide +kernel
theorem dX6_won_102 : decode cX6_won 102 = .ok (.aload_n 0, 1) := by decide +kernel
theorem dX6_won_103 : decode cX6_won 103 = .ok (.getfield 35, 3) := by decide +kernel
theorem dX6_won_106 : decode cX6_won 106 = .ok (.getfield 102, 3) := by decide +kernel
theorem dX6_won_109 : decode cX6_won 109 = .ok (.iload_n 2, 1) := by decide +kernel
theorem dX6_won_110 : decode cX6_won 110 = .ok (.iaload, 1) := by decide +kernel
theorem dX6_won_111 : decode cX6_won 111 = .ok (.istore 5, 2) := by decide +kernel
theorem dX6_won_113 : decode cX6_won 113 = .ok (.iinc 6 1, 3) := by decide +kernel
theorem dX6_won_116 : decode cX6_won 116 = .ok (.goto (-74), 3) := by decide +kernel
theorem dX6_won_119 : decode cX6_won 119 = .ok (.iload_n 3, 1) := by decide +kernel
theorem dX6_won_120 : decode cX6_won 120 = .ok (.ifCond .ne 8, 3) := by decide +kernel
theorem dX6_won_123 : decode cX6_won 123 = .ok (.iload 4, 2) := by decide +kernel
theorem dX6_won_125 : decode cX6_won 125 = .ok (.goto 5, 3) := by decide +kernel
theorem dX6_won_128 : decode cX6_won 128 = .ok (.iload 5, 2) := by decide +kernel
theorem dX6_won_130 : decode cX6_won 130 = .ok (.ireturn, 1) := by decide +kernel
theorem dX6_party_0 : decode cX6_party 0 = .ok (.iload_n 1, 1) := by decide +kernel
theorem dX6_party_1 : decode cX6_party 1 = .ok (.iconst 1, 1) := by decide +kernel
theorem dX6_party_2 : decode cX6_party 2 = .ok (.bipush 40, 2) := by decide +kernel
theorem dX6_party_4 : decode cX6_party 4 = .ok (.invokestatic 67, 3) := by decide +kernel
theorem dX6_party_7 : decode cX6_party 7 = .ok (.ifCond .ne 6, 3) := by decide +kernel
theorem dX6_party_10 : decode cX6_party 10 = .ok (.ldc 71, 2) := by decide +kernel
theorem dX6_party_12 : decode cX6_party 12 = .ok (.ireturn, 1) := by decide +kernel
theorem dX6_party_13 : decode cX6_party 13 = .ok (.iconst 0, 1) := by decide +kernel
theorem dX6_party_14 : decode cX6_party 14 = .ok (.istore_n 2, 1) := by decide +kernel
theorem dX6_party_15 : decode cX6_party 15 = .ok (.iload_n 2, 1) := by decide +kernel
theorem dX6_party_16 : decode cX6_party 16 = .ok (.iconst 4, 1) := by decide +kernel
theorem dX6_party_17 : decode cX6_party 17 = .ok (.if_icmp .ge 74, 3) := by decide +kernel
theorem dX6_party_20 : decode cX6_party 20 = .ok (.aload_n 0, 1) := by decide +kernel
theorem dX6_party_21 : decode cX6_party 21 = .ok (.getfield 35, 3) := by decide +kernel
theorem dX6_party_24 : decode cX6_party 24 = .ok (.aload_n 0, 1) := by decide +kernel
theorem dX6_party_25 : decode cX6_party 25 = .ok (.getfield 28, 3) := by decide +kernel
theorem dX6_party_28 : decode cX6_party 28 = .ok (.invokevirtual 194, 3) := by decide +kernel
theorem dX6_party_31 : decode cX6_party 31 = .ok (.aload_n 0, 1) := by decide +kernel
theorem dX6_party_32 : decode cX6_party 32 = .ok (.getfield 35, 3) := by decide +kernel
theorem dX6_party_35 : decode cX6_party 35 = .ok (.iload_n 2, 1) := by decide +kernel
theorem dX6_party_36 : decode cX6_party 36 = .ok (.invokevirtual 201, 3) := by decide +kernel
theorem dX6_party_39 : decode cX6_party 39 = .ok (.aload_n 0, 1) := by decide +kernel
theorem dX6_party_40 : decode cX6_party 40 = .ok (.getfield 35, 3) := by decide +kernel
theorem dX6_party_43 : decode cX6_party 43 = .ok (.iload_n 1, 1) := by decide +kernel
theorem dX6_party_44 : decode cX6_party 44 = .ok (.invokevirtual 165, 3) := by decide +kernel
theorem dX6_party_47 : decode cX6_party 47 = .ok (.aload_n 0, 1) := by decide +kernel
theorem dX6_party_48 : decode cX6_party 48 = .ok (.getfield 35, 3) := by decide +kernel
theorem dX6_party_51 : decode cX6_party 51 = .ok (.aload_n 0, 1) := by decide +kernel
theorem dX6_party_52 : decode cX6_party 52 = .ok (.getfield 35, 3) := by decide +kernel
theorem dX6_party_55 : decode cX6_party 55 = .ok (.getfield 169, 3) := by decide +kernel
theorem dX6_party_58 : decode cX6_party 58 = .ok (.invokevirtual 80, 3) := by decide +kernel
theorem dX6_party_61 : decode cX6_party 61 = .ok (.ifCond .eq 24, 3) := by decide +kernel
theorem dX6_party_64 : decode cX6_party 64 = .ok (.aload_n 0, 1) := by decide +kernel
theorem dX6_party_65 : decode cX6_party 65 = .ok (.getfield 35, 3) := by decide +kernel
theorem dX6_party_68 : decode cX6_party 68 = .ok (.getfield 90, 3) := by decide +kernel
theorem dX6_party_71 : decode cX6_party 71 = .ok (.aload_n 0, 1) := by decide +kernel
theorem dX6_party_72 : decode cX6_party 72 = .ok (.getfield 35, 3) := by decide +kernel
theorem dX6_party_75 : decode cX6_party 75 = .ok (.getfield 169, 3) := by decide +kernel
theorem dX6_party_78 : decode cX6_party 78 = .ok (.iaload, 1) := by decide +kernel
theorem dX6_party_79 : decode cX6_party 79 = .ok (.iload_n 2, 1) := by decide +kernel
theorem dX6_party_80 : decode cX6_party 80 = .ok (.if_icmp .ne 5, 3) := by decide +kernel
theorem dX6_party_83 : decode cX6_party 83 = .ok (.iload_n 2, 1) := by decide +kernel
theorem dX6_party_84 : decode cX6_party 84 = .ok (.ireturn, 1) := by decide +kernel
theorem dX6_party_85 : decode cX6_party 85 = .ok (.iinc 2 1, 3) := by decide +kernel
theorem dX6_party_88 : decode cX6_party 88 = .ok (.goto (-73), 3) := by decide +kernel
theorem dX6_party_91 : decode cX6_party 91 = .ok (.ldc 184, 2) := by decide +kernel
theorem dX6_party_93 : decode cX6_party 93 = .ok (.ireturn, 1) := by decide +kernel
theorem dX6_smokes_0 : decode cX6_smokes 0 = .ok (.iload_n 1, 1) := by decide +kernel
theorem dX6_smokes_1 : decode cX6_smokes 1 = .ok (.iconst 1, 1) := by decide +kernel
theorem dX6_smokes_2 : decode cX6_smokes 2 = .ok (.bipush 12, 2) := by decide +kernel
theorem dX6_smokes_4 : decode cX6_smokes 4 = .ok (.invokestatic 67, 3) := by decide +kernel
theorem dX6_smokes_7 : decode cX6_smokes 7 = .ok (.ifCond .ne 6, 3) := by decide +kernel
theorem dX6_smokes_10 : decode cX6_smokes 10 = .ok (.ldc 71, 2) := by decide +kernel
theorem dX6_smokes_12 : decode cX6_smokes 12 = .ok (.ireturn, 1) := by decide +kernel
theorem dX6_smokes_13 : decode cX6_smokes 13 = .ok (.aload_n 0, 1) := by decide +kernel
theorem dX6_smokes_14 : decode cX6_smokes 14 = .ok (.getfield 35, 3) := by decide +kernel
theorem dX6_smokes_17 : decode cX6_smokes 17 = .ok (.aload_n 0, 1) := by decide +kernel
theorem dX6_smokes_18 : decode cX6_smokes 18 = .ok (.getfield 28, 3) := by decide +kernel
theorem dX6_smokes_21 : decode cX6_smokes 21 = .ok (.invokevirtual 194, 3) := by decide +kernel
theorem dX6_smokes_24 : decode cX6_smokes 24 = .ok (.iconst 0, 1) := by decide +kernel
theorem dX6_smokes_25 : decode cX6_smokes 25 = .ok (.istore_n 2, 1) := by decide +kernel
theorem dX6_smokes_26 : decode cX6_smokes 26 = .ok (.iconst 0, 1) := by decide +kernel
theorem dX6_smokes_27 : decode cX6_smokes 27 = .ok (.istore_n 3, 1) := by decide +kernel
theorem dX6_smokes_28 : decode cX6_smokes 28 = .ok (.iload_n 3, 1) := by decide +kernel
theorem dX6_smokes_29 : decode cX6_smokes 29 = .ok (.iload_n 1, 1) := by decide +kernel
theorem dX6_smokes_30 : decode cX6_smokes 30 = .ok (.if_icmp .ge 28, 3) := by decide +kernel
theorem dX6_smokes_33 : decode cX6_smokes 33 = .ok (.aload_n 0, 1) := by decide +kernel
theorem dX6_smokes_34 : decode cX6_smokes 34 = .ok (.getfield 35, 3) := by decide +kernel
theorem dX6_smokes_37 : decode cX6_smokes 37 = .ok (.invokevirtual 198, 3) := by decide +kernel
theorem dX6_smokes_40 : decode cX6_smokes 40 = .ok (.iload_n 2, 1) := by decide +kernel
theorem dX6_smokes_41 : decode cX6_smokes 41 = .ok (.iconst 4, 1) := by decide +kernel
theorem dX6_smokes_42 : decode cX6_smokes 42 = .ok (.imul, 1) := by decide +kernel
theorem dX6_smokes_43 : decode cX6_smokes 43 = .ok (.aload_n 0, 1) := by decide +kernel
theorem dX6_smokes_44 : decode cX6_smokes 44 = .ok (.getfield 35, 3) := by decide +kernel
theorem dX6_smokes_47 : decode cX6_smokes 47 = .ok (.getfield 175, 3) := by decide +kernel
theorem dX6_smokes_50 : decode cX6_smokes 50 = .ok (.iadd, 1) := by decide +kernel
theorem dX6_smokes_51 : decode cX6_smokes 51 = .ok (.istore_n 2, 1) := by decide +kernel
theorem dX6_smokes_52 : decode cX6_smokes 52 = .ok (.iinc 3 1, 3) := by decide +kernel
theorem dX6_smokes_55 : decode cX6_smokes 55 = .ok (.goto (-27), 3) := by decide +kernel
theorem dX6_smokes_58 : decode cX6_smokes 58 = .ok (.iload_n 2, 1) := by decide +kernel
theorem dX6_smokes_59 : decode cX6_smokes 59 = .ok (.ireturn, 1) := by decide +kernel
theorem dX6_fits_0 : decode cX6_fits 0 = .ok (.iload_n 1, 1) := by decide +kernel
theorem dX6_fits_1 : decode cX6_fits 1 = .ok (.invokestatic 204, 3) := by decide +kernel
theorem dX6_fits_4 : decode cX6_fits 4 = .ok (.ifCond .eq 12, 3) := by decide +kernel
theorem dX6_fits_7 : decode cX6_fits 7 = .ok (.iload_n 2, 1) := by decide +kernel
theorem dX6_fits_8 : decode cX6_fits 8 = .ok (.iconst 0, 1) := by decide +kernel
theorem dX6_fits_9 : decode cX6_fits 9 = .ok (.iconst 1, 1) := by decide +kernel
theorem dX6_fits_10 : decode cX6_fits 10 = .ok (.invokestatic 67, 3) := by decide +kernel
theorem dX6_fits_13 : decode cX6_fits 13 = .ok (.ifCond .ne 6, 3) := by decide +kernel
theorem dX6_fits_16 : decode cX6_fits 16 = .ok (.ldc 71, 2) := by decide +kernel
theorem dX6_fits_18 : decode cX6_fits 18 = .ok (.ireturn, 1) := by decide +kernel
theorem dX6_fits_19 : decode cX6_fits 19 = .ok (.aload_n 0, 1) := by decide +kernel
theorem dX6_fits_20 : decode cX6_fits 20 = .ok (.getfield 40, 3) := by decide +kernel
theorem dX6_fits_23 : decode cX6_fits 23 = .ok (.iload_n 1, 1) := by decide +kernel
theorem dX6_fits_24 : decode cX6_fits 24 = .ok (.aaload, 1) := by decide +kernel
theorem dX6_fits_25 : decode cX6_fits 25 = .ok (.astore_n 3, 1) := by decide +kernel
theorem dX6_fits_26 : decode cX6_fits 26 = .ok (.aload_n 3, 1) := by decide +kernel
theorem dX6_fits_27 : decode cX6_fits 27 = .ok (.invokevirtual 207, 3) := by decide +kernel
theorem dX6_fits_30 : decode cX6_fits 30 = .ok (.ifCond .eq 6, 3) := by decide +kernel
theorem dX6_fits_33 : decode cX6_fits 33 = .ok (.ldc 211, 2) := by decide +kernel
theorem dX6_fits_35 : decode cX6_fits 35 = .ok (.ireturn, 1) := by decide +kernel
theorem dX6_fits_36 : decode cX6_fits 36 = .ok (.iconst 1, 1) := by decide +kernel
theorem dX6_fits_37 : decode cX6_fits 37 = .ok (.istore 4, 2) := by decide +kernel
theorem dX6_fits_39 : decode cX6_fits 39 = .ok (.aload_n 0, 1) := by decide +kernel
theorem dX6_fits_40 : decode cX6_fits 40 = .ok (.iconst 1, 1) := by decide +kernel
theorem dX6_fits_41 : decode cX6_fits 41 = .ok (.aload_n 3, 1) := by decide +kernel
theorem dX6_fits_42 : decode cX6_fits 42 = .ok (.invokevirtual 212, 3) := by decide +kernel
theorem dX6_fits_45 : decode cX6_fits 45 = .ok (.istore 5, 2) := by decide +kernel
theorem dX6_fits_47 : decode cX6_fits 47 = .ok (.iconst 2, 1) := by decide +kernel
theorem dX6_fits_48 : decode cX6_fits 48 = .ok (.istore 6, 2) := by decide +kernel
theorem dX6_fits_50 : decode cX6_fits 50 = .ok (.iload 6, 2) := by decide +kernel
theorem dX6_fits_52 : decode cX6_fits 52 = .ok (.bipush 20, 2) := by decide +kernel
theorem dX6_fits_54 : decode cX6_fits 54 = .ok (.if_icmp .gt 33, 3) := by decide +kernel
theorem dX6_fits_57 : decode cX6_fits 57 = .ok (.aload_n 0, 1) := by decide +kernel
theorem dX6_fits_58 : decode cX6_fits 58 = .ok (.iload 6, 2) := by decide +kernel
theorem dX6_fits_60 : decode cX6_fits 60 = .ok (.aload_n 3, 1) := by decide +kernel
theorem dX6_fits_61 : decode cX6_fits 61 = .ok (.invokevirtual 212, 3) := by decide +kernel
theorem dX6_fits_64 : decode cX6_fits 64 = .ok (.istore 7, 2) := by decide +kernel
theorem dX6_fits_66 : decode cX6_fits 66 = .ok (.iload 7, 2) := by decide +kernel
theorem dX6_fits_68 : decode cX6_fits 68 = .ok (.iload 5, 2) := by decide +kernel
theorem dX6_fits_70 : decode cX6_fits 70 = .ok (.if_icmp .ge 11, 3) := by decide +kernel
theorem dX6_fits_73 : decode cX6_fits 73 = .ok (.iload 6, 2) := by decide +kernel
theorem dX6_fits_75 : decode cX6_fits 75 = .ok (.istore 4, 2) := by decide +kernel
theorem dX6_fits_77 : decode cX6_fits 77 = .ok (.iload 7, 2) := by decide +kernel
theorem dX6_fits_79 : decode cX6_fits 79 = .ok (.istore 5, 2) := by decide +kernel
theorem dX6_fits_81 : decode cX6_fits 81 = .ok (.iinc 6 1, 3) := by decide +kernel
theorem dX6_fits_84 : decode cX6_fits 84 = .ok (.goto (-34), 3) := by decide +kernel
theorem dX6_fits_87 : decode cX6_fits 87 = .ok (.iload_n 2, 1) := by decide +kernel
theorem dX6_fits_88 : decode cX6_fits 88 = .ok (.ifCond .ne 8, 3) := by decide +kernel
theorem dX6_fits_91 : decode cX6_fits 91 = .ok (.iload 4, 2) := by decide +kernel
theorem dX6_fits_93 : decode cX6_fits 93 = .ok (.goto 5, 3) := by decide +kernel
theorem dX6_fits_96 : decode cX6_fits 96 = .ok (.iload 5, 2) := by decide +kernel
theorem dX6_fits_98 : decode cX6_fits 98 = .ok (.ireturn, 1) := by decide +kernel
theorem dX6_fee_0 : decode cX6_fee 0 = .ok (.aload_n 0, 1) := by decide +kernel
theorem dX6_fee_1 : decode cX6_fee 1 = .ok (.getfield 10, 3) := by decide +kernel
theorem dX6_fee_4 : decode cX6_fee 4 = .ok (.iconst 1, 1) := by decide +kernel
theorem dX6_fee_5 : decode cX6_fee 5 = .ok (.aload_n 0, 1) := by decide +kernel
theorem dX6_fee_6 : decode cX6_fee 6 = .ok (.getfield 28, 3) := by decide +kernel
theorem dX6_fee_9 : decode cX6_fee 9 = .ok (.getfield 216, 3) := by decide +kernel
theorem dX6_fee_12 : decode cX6_fee 12 = .ok (.invokevirtual 219, 3) := by decide +kernel
theorem dX6_fee_15 : decode cX6_fee 15 = .ok (.istore_n 1, 1) := by decide +kernel
theorem dX6_fee_16 : decode cX6_fee 16 = .ok (.iload_n 1, 1) := by decide +kernel
theorem dX6_fee_17 : decode cX6_fee 17 = .ok (.ifCond .ge 13, 3) := by decide +kernel
theorem dX6_fee_20 : decode cX6_fee 20 = .ok (.aload_n 0, 1) := by decide +kernel
theorem dX6_fee_21 : decode cX6_fee 21 = .ok (.getfield 28, 3) := by decide +kernel
theorem dX6_fee_24 : decode cX6_fee 24 = .ok (.getfield 145, 3) := by decide +kernel
theorem dX6_fee_27 : decode cX6_fee 27 = .ok (.goto 26, 3) := by decide +kernel
theorem dX6_fee_30 : decode cX6_fee 30 = .ok (.aload_n 0, 1) := by decide +kernel
theorem dX6_fee_31 : decode cX6_fee 31 = .ok (.getfield 10, 3) := by decide +kernel
theorem dX6_fee_34 : decode cX6_fee 34 = .ok (.iload_n 1, 1) := by decide +kernel
theorem dX6_fee_35 : decode cX6_fee 35 = .ok (.aload_n 0, 1) := by decide +kernel
theorem dX6_fee_36 : decode cX6_fee 36 = .ok (.getfield 28, 3) := by decide +kernel
theorem dX6_fee_39 : decode cX6_fee 39 = .ok (.getfield 145, 3) := by decide +kernel
theorem dX6_fee_42 : decode cX6_fee 42 = .ok (.aload_n 0, 1) := by decide +kernel
theorem dX6_fee_43 : decode cX6_fee 43 = .ok (.getfield 28, 3) := by decide +kernel
theorem dX6_fee_46 : decode cX6_fee 46 = .ok (.getfield 178, 3) := by decide +kernel
theorem dX6_fee_49 : decode cX6_fee 49 = .ok (.iconst 0, 1) := by decide +kernel
theorem dX6_fee_50 : decode cX6_fee 50 = .ok (.invokevirtual 222, 3) := by decide +kernel
theorem dX6_fee_53 : decode cX6_fee 53 = .ok (.ireturn, 1) := by decide +kernel
theorem dX6_fine_0 : decode cX6_fine 0 = .ok (.aload_n 0, 1) := by decide +kernel
theorem dX6_fine_1 : decode cX6_fine 1 = .ok (.getfield 28, 3) := by decide +kernel
theorem dX6_fine_4 : decode cX6_fine 4 = .ok (.iload_n 1, 1) := by decide +kernel
theorem dX6_fine_5 : decode cX6_fine 5 = .ok (.invokevirtual 80, 3) := by decide +kernel
theorem dX6_fine_8 : decode cX6_fine 8 = .ok (.ifCond .ne 6, 3) := by decide +kernel
theorem dX6_fine_11 : decode cX6_fine 11 = .ok (.ldc 71, 2) := by decide +kernel
theorem dX6_fine_13 : decode cX6_fine 13 = .ok (.ireturn, 1) := by decide +kernel
theorem dX6_fine_14 : decode cX6_fine 14 = .ok (.aload_n 0, 1) := by decide +kernel
theorem dX6_fine_15 : decode cX6_fine 15 = .ok (.getfield 28, 3) := by decide +kernel
theorem dX6_fine_18 : decode cX6_fine 18 = .ok (.getfield 96, 3) := by decide +kernel
theorem dX6_fine_21 : decode cX6_fine 21 = .ok (.iload_n 1, 1) := by decide +kernel
theorem dX6_fine_22 : decode cX6_fine 22 = .ok (.iaload, 1) := by decide +kernel
theorem dX6_fine_23 : decode cX6_fine 23 = .ok (.istore_n 2, 1) := by decide +kernel
theorem dX6_fine_24 : decode cX6_fine 24 = .ok (.aload_n 0, 1) := by decide +kernel
theorem dX6_fine_25 : decode cX6_fine 25 = .ok (.getfield 10, 3) := by decide +kernel
theorem dX6_fine_28 : decode cX6_fine 28 = .ok (.iconst 2, 1) := by decide +kernel
theorem dX6_fine_29 : decode cX6_fine 29 = .ok (.aload_n 0, 1) := by decide +kernel
theorem dX6_fine_30 : decode cX6_fine 30 = .ok (.getfield 28, 3) := by decide +kernel
theorem dX6_fine_33 : decode cX6_fine 33 = .ok (.getfield 216, 3) := by decide +kernel
theorem dX6_fine_36 : decode cX6_fine 36 = .ok (.invokevirtual 219, 3) := by decide +kernel
theorem dX6_fine_39 : decode cX6_fine 39 = .ok (.istore_n 3, 1) := by decide +kernel
theorem dX6_fine_40 : decode cX6_fine 40 = .ok (.iload_n 3, 1) := by decide +kernel
theorem dX6_fine_41 : decode cX6_fine 41 = .ok (.ifCond .ge 7, 3) := by decide +kernel
theorem dX6_fine_44 : decode cX6_fine 44 = .ok (.iload_n 2, 1) := by decide +kernel
theorem dX6_fine_45 : decode cX6_fine 45 = .ok (.goto 22, 3) := by decide +kernel
theorem dX6_fine_48 : decode cX6_fine 48 = .ok (.aload_n 0, 1) := by decide +kernel
theorem dX6_fine_49 : decode cX6_fine 49 = .ok (.getfield 10, 3) := by decide +kernel
theorem dX6_fine_52 : decode cX6_fine 52 = .ok (.iload_n 3, 1) := by decide +kernel
theorem dX6_fine_53 : decode cX6_fine 53 = .ok (.aload_n 0, 1) := by decide +kernel
theorem dX6_fine_54 : decode cX6_fine 54 = .ok (.getfield 28, 3) := by decide +kernel
theorem dX6_fine_57 : decode cX6_fine 57 = .ok (.getfield 93, 3) := by decide +kernel
theorem dX6_fine_60 : decode cX6_fine 60 = .ok (.iload_n 1, 1) := by decide +kernel
theorem dX6_fine_61 : decode cX6_fine 61 = .ok (.iaload, 1) := by decide +kernel
theorem dX6_fine_62 : decode cX6_fine 62 = .ok (.iload_n 2, 1) := by decide +kernel
theorem dX6_fine_63 : decode cX6_fine 63 = .ok (.iconst 0, 1) := by decide +kernel
theorem dX6_fine_64 : decode cX6_fine 64 = .ok (.invokevirtual 222, 3) := by decide +kernel
theorem dX6_fine_67 : decode cX6_fine 67 = .ok (.ireturn, 1) := by decide +kernel
theorem dX6_feed_0 : decode cX6_feed 0 = .ok (.aload_n 0, 1) := by decide +kernel
theorem dX6_feed_1 : decode cX6_feed 1 = .ok (.getfield 19, 3) := by decide +kernel
theorem dX6_feed_4 : decode cX6_feed 4 = .ok (.getfield 226, 3) := by decide +kernel
theorem dX6_feed_7 : decode cX6_feed 7 = .ok (.bipush 12, 2) := by decide +kernel
theorem dX6_feed_9 : decode cX6_feed 9 = .ok (.iadd, 1) := by decide +kernel
theorem dX6_feed_10 : decode cX6_feed 10 = .ok (.bipush 96, 2) := by decide +kernel
theorem dX6_feed_12 : decode cX6_feed 12 = .ok (.if_icmp .le 6, 3) := by decide +kernel
theorem dX6_feed_15 : decode cX6_feed 15 = .ok (.ldc 75, 2) := by decide +kernel
theorem dX6_feed_17 : decode cX6_feed 17 = .ok (.ireturn, 1) := by decide +kernel
theorem dX6_feed_18 : decode cX6_feed 18 = .ok (.aload_n 0, 1) := by decide +kernel
theorem dX6_feed_19 : decode cX6_feed 19 = .ok (.getfield 19, 3) := by decide +kernel
theorem dX6_feed_22 : decode cX6_feed 22 = .ok (.iload_n 1, 1) := by decide +kernel
theorem dX6_feed_23 : decode cX6_feed 23 = .ok (.invokevirtual 229, 3) := by decide +kernel
theorem dX6_feed_26 : decode cX6_feed 26 = .ok (.aload_n 0, 1) := by decide +kernel
theorem dX6_feed_27 : decode cX6_feed 27 = .ok (.getfield 19, 3) := by decide +kernel
theorem dX6_feed_30 : decode cX6_feed 30 = .ok (.iload_n 2, 1) := by decide +kernel
theorem dX6_feed_31 : decode cX6_feed 31 = .ok (.invokevirtual 229, 3) := by decide +kernel
theorem dX6_feed_34 : decode cX6_feed 34 = .ok (.aload_n 0, 1) := by decide +kernel
theorem dX6_feed_35 : decode cX6_feed 35 = .ok (.getfield 19, 3) := by decide +kernel
theorem dX6_feed_38 : decode cX6_feed 38 = .ok (.iload_n 3, 1) := by decide +kernel
theorem dX6_feed_39 : decode cX6_feed 39 = .ok (.invokevirtual 229, 3) := by decide +kernel
theorem dX6_feed_42 : decode cX6_feed 42 = .ok (.aload_n 0, 1) := by decide +kernel
theorem dX6_feed_43 : decode cX6_feed 43 = .ok (.getfield 19, 3) := by decide +kernel
theorem dX6_feed_46 : decode cX6_feed 46 = .ok (.getfield 226, 3) := by decide +kernel
theorem dX6_feed_49 : decode cX6_feed 49 = .ok (.ireturn, 1) := by decide +kernel
theorem dX6_trim_0 : decode cX6_trim 0 = .ok (.iload_n 1, 1) := by decide +kernel
theorem dX6_trim_1 : decode cX6_trim 1 = .ok (.iconst 0, 1) := by decide +kernel
theorem dX6_trim_2 : decode cX6_trim 2 = .ok (.aload_n 0, 1) := by decide +kernel
theorem dX6_trim_3 : decode cX6_trim 3 = .ok (.getfield 19, 3) := by decide +kernel
theorem dX6_trim_6 : decode cX6_trim 6 = .ok (.getfield 226, 3) := by decide +kernel
theorem dX6_trim_9 : decode cX6_trim 9 = .ok (.invokestatic 67, 3) := by decide +kernel
theorem dX6_trim_12 : decode cX6_trim 12 = .ok (.ifCond .ne 6, 3) := by decide +kernel
theorem dX6_trim_15 : decode cX6_trim 15 = .ok (.ldc 71, 2) := by decide +kernel
theorem dX6_trim_17 : decode cX6_trim 17 = .ok (.ireturn, 1) := by decide +kernel
theorem dX6_trim_18 : decode cX6_trim 18 = .ok (.aload_n 0, 1) := by decide +kernel
theorem dX6_trim_19 : decode cX6_trim 19 = .ok (.getfield 19, 3) := by decide +kernel
theorem dX6_trim_22 : decode cX6_trim 22 = .ok (.iload_n 1, 1) := by decide +kernel
theorem dX6_trim_23 : decode cX6_trim 23 = .ok (.putfield 226, 3) := by decide +kernel
theorem dX6_trim_26 : decode cX6_trim 26 = .ok (.iload_n 1, 1) := by decide +kernel
theorem dX6_trim_27 : decode cX6_trim 27 = .ok (.ireturn, 1) := by decide +kernel
theorem dX6_text_0 : decode cX6_text 0 = .ok (.aload_n 0, 1) := by decide +kernel
theorem dX6_text_1 : decode cX6_text 1 = .ok (.getfield 19, 3) := by decide +kernel
theorem dX6_text_4 : decode cX6_text 4 = .ok (.invokevirtual 232, 3) := by decide +kernel
theorem dX6_text_7 : decode cX6_text 7 = .ok (.istore_n 1, 1) := by decide +kernel
theorem dX6_text_8 : decode cX6_text 8 = .ok (.aload_n 0, 1) := by decide +kernel
theorem dX6_text_9 : decode cX6_text 9 = .ok (.getfield 19, 3) := by decide +kernel
theorem dX6_text_12 : decode cX6_text 12 = .ok (.iconst 0, 1) := by decide +kernel
theorem dX6_text_13 : decode cX6_text 13 = .ok (.putfield 226, 3) := by decide +kernel
theorem dX6_text_16 : decode cX6_text 16 = .ok (.iload_n 1, 1) := by decide +kernel
theorem dX6_text_17 : decode cX6_text 17 = .ok (.ifCond .lt 8, 3) := by decide +kernel
theorem dX6_text_20 : decode cX6_text 20 = .ok (.bipush (-100), 2) := by decide +kernel
theorem dX6_text_22 : decode cX6_text 22 = .ok (.iload_n 1, 1) := by decide +kernel
theorem dX6_text_23 : decode cX6_text 23 = .ok (.isub, 1) := by decide +kernel
theorem dX6_text_24 : decode cX6_text 24 = .ok (.ireturn, 1) := by decide +kernel
theorem dX6_text_25 : decode cX6_text 25 = .ok (.aload_n 0, 1) := by decide +kernel
theorem dX6_text_26 : decode cX6_text 26 = .ok (.getfield 28, 3) := by decide +kernel
theorem dX6_text_29 : decode cX6_text 29 = .ok (.getfield 216, 3) := by decide +kernel
theorem dX6_text_32 : decode cX6_text 32 = .ok (.bipush 14, 2) := by decide +kernel
theorem dX6_text_34 : decode cX6_text 34 = .ok (.if_icmp .lt 6, 3) := by decide +kernel
theorem dX6_text_37 : decode cX6_text 37 = .ok (.ldc 75, 2) := by decide +kernel
theorem dX6_text_39 : decode cX6_text 39 = .ok (.ireturn, 1) := by decide +kernel
theorem dX6_text_40 : decode cX6_text 40 = .ok (.aload_n 0, 1) := by decide +kernel
theorem dX6_text_41 : decode cX6_text 41 = .ok (.getfield 10, 3) := by decide +kernel
theorem dX6_text_44 : decode cX6_text 44 = .ok (.getfield 235, 3) := by decide +kernel
theorem dX6_text_47 : decode cX6_text 47 = .ok (.aload_n 0, 1) := by decide +kernel
theorem dX6_text_48 : decode cX6_text 48 = .ok (.getfield 28, 3) := by decide +kernel
theorem dX6_text_51 : decode cX6_text 51 = .ok (.getfield 216, 3) := by decide +kernel
theorem dX6_text_54 : decode cX6_text 54 = .ok (.aload_n 0, 1) := by decide +kernel
theorem dX6_text_55 : decode cX6_text 55 = .ok (.getfield 19, 3) := by decide +kernel
theorem dX6_text_58 : decode cX6_text 58 = .ok (.invokevirtual 239, 3) := by decide +kernel
theorem dX6_text_61 : decode cX6_text 61 = .ok (.aastore, 1) := by decide +kernel
theorem dX6_text_62 : decode cX6_text 62 = .ok (.aload_n 0, 1) := by decide +kernel
theorem dX6_text_63 : decode cX6_text 63 = .ok (.getfield 28, 3) := by decide +kernel
theorem dX6_text_66 : decode cX6_text 66 = .ok (.dup, 1) := by decide +kernel
theorem dX6_text_67 : decode cX6_text 67 = .ok (.getfield 216, 3) := by decide +kernel
theorem dX6_text_70 : decode cX6_text 70 = .ok (.iconst 1, 1) := by decide +kernel
theorem dX6_text_71 : decode cX6_text 71 = .ok (.iadd, 1) := by decide +kernel
theorem dX6_text_72 : decode cX6_text 72 = .ok (.putfield 216, 3) := by decide +kernel
theorem dX6_text_75 : decode cX6_text 75 = .ok (.aload_n 0, 1) := by decide +kernel
theorem dX6_text_76 : decode cX6_text 76 = .ok (.getfield 28, 3) := by decide +kernel
theorem dX6_text_79 : decode cX6_text 79 = .ok (.getfield 216, 3) := by decide +kernel
theorem dX6_text_82 : decode cX6_text 82 = .ok (.iconst 1, 1) := by decide +kernel
theorem dX6_text_83 : decode cX6_text 83 = .ok (.isub, 1) := by decide +kernel
theorem dX6_text_84 : decode cX6_text 84 = .ok (.ireturn, 1) := by decide +kernel
theorem dX6_textTold_0 : decode cX6_textTold 0 = .ok (.iload_n 1, 1) := by decide +kernel
theorem dX6_textTold_1 : decode cX6_textTold 1 = .ok (.iconst 0, 1) := by decide +kernel
theorem dX6_textTold_2 : decode cX6_textTold 2 = .ok (.aload_n 0, 1) := by decide +kernel
theorem dX6_textTold_3 : decode cX6_textTold 3 = .ok (.getfield 28, 3) := by decide +kernel
theorem dX6_textTold_6 : decode cX6_textTold 6 = .ok (.getfield 216, 3) := by decide +kernel
theorem dX6_textTold_9 : decode cX6_textTold 9 = .ok (.iconst 1, 1) := by decide +kernel
theorem dX6_textTold_10 : decode cX6_textTold 10 = .ok (.isub, 1) := by decide +kernel
theorem dX6_textTold_11 : decode cX6_textTold 11 = .ok (.invokestatic 67, 3) := by decide +kernel
theorem dX6_textTold_14 : decode cX6_textTold 14 = .ok (.ifCond .eq 12, 3) := by decide +kernel
theorem dX6_textTold_17 : decode cX6_textTold 17 = .ok (.iload_n 2, 1) := by decide +kernel
theorem dX6_textTold_18 : decode cX6_textTold 18 = .ok (.iconst 0, 1) := by decide +kernel
theorem dX6_textTold_19 : decode cX6_textTold 19 = .ok (.iconst 1, 1) := by decide +kernel
theorem dX6_textTold_20 : decode cX6_textTold 20 = .ok (.invokestatic 67, 3) := by decide +kernel
theorem dX6_textTold_23 : decode cX6_textTold 23 = .ok (.ifCond .ne 6, 3) := by decide +kernel
theorem dX6_textTold_26 : decode cX6_textTold 26 = .ok (.ldc 71, 2) := by decide +kernel
theorem dX6_textTold_28 : decode cX6_textTold 28 = .ok (.ireturn, 1) := by decide +kernel
theorem dX6_textTold_29 : decode cX6_textTold 29 = .ok (.aload_n 0, 1) := by decide +kernel
theorem dX6_textTold_30 : decode cX6_textTold 30 = .ok (.getfield 10, 3) := by decide +kernel
theorem dX6_textTold_33 : decode cX6_textTold 33 = .ok (.getfield 235, 3) := by decide +kernel
theorem dX6_textTold_36 : decode cX6_textTold 36 = .ok (.iload_n 1, 1) := by decide +kernel
theorem dX6_textTold_37 : decode cX6_textTold 37 = .ok (.aaload, 1) := by decide +kernel
theorem dX6_textTold_38 : decode cX6_textTold 38 = .ok (.astore_n 3, 1) := by decide +kernel
theorem dX6_textTold_39 : decode cX6_textTold 39 = .ok (.aload_n 3, 1) := by decide +kernel
theorem dX6_textTold_40 : decode cX6_textTold 40 = .ok (.ifnonnull 6, 3) := by decide +kernel
theorem dX6_textTold_43 : decode cX6_textTold 43 = .ok (.ldc 71, 2) := by decide +kernel
theorem dX6_textTold_45 : decode cX6_textTold 45 = .ok (.ireturn, 1) := by decide +kernel
theorem dX6_textTold_46 : decode cX6_textTold 46 = .ok (.iload_n 2, 1) := by decide +kernel
theorem dX6_textTold_47 : decode cX6_textTold 47 = .ok (.ifCond .ne 10, 3) := by decide +kernel
theorem dX6_textTold_50 : decode cX6_textTold 50 = .ok (.aload_n 3, 1) := by decide +kernel
theorem dX6_textTold_51 : decode cX6_textTold 51 = .ok (.getfield 243, 3) := by decide +kernel
theorem dX6_textTold_54 : decode cX6_textTold 54 = .ok (.goto 7, 3) := by decide +kernel
theorem dX6_textTold_57 : decode cX6_textTold 57 = .ok (.aload_n 3, 1) := by decide +kernel
theorem dX6_textTold_58 : decode cX6_textTold 58 = .ok (.getfield 248, 3) := by decide +kernel
theorem dX6_textTold_61 : decode cX6_textTold 61 = .ok (.ireturn, 1) := by decide +kernel
theorem dX6_why_0 : decode cX6_why 0 = .ok (.iload_n 1, 1) := by decide +kernel
theorem dX6_why_1 : decode cX6_why 1 = .ok (.iconst 0, 1) := by decide +kernel
theorem dX6_why_2 : decode cX6_why 2 = .ok (.iconst 2, 1) := by decide +kernel
theorem dX6_why_3 : decode cX6_why 3 = .ok (.invokestatic 67, 3) := by decide +kernel
theorem dX6_why_6 : decode cX6_why 6 = .ok (.ifCond .ne 6, 3) := by decide +kernel
theorem dX6_why_9 : decode cX6_why 9 = .ok (.ldc 71, 2) := by decide +kernel
theorem dX6_why_11 : decode cX6_why 11 = .ok (.ireturn, 1) := by decide +kernel
theorem dX6_why_12 : decode cX6_why 12 = .ok (.aload_n 0, 1) := by decide +kernel
theorem dX6_why_13 : decode cX6_why 13 = .ok (.getfield 10, 3) := by decide +kernel
theorem dX6_why_16 : decode cX6_why 16 = .ok (.iload_n 1, 1) := by decide +kernel
theorem dX6_why_17 : decode cX6_why 17 = .ok (.aload_n 0, 1) := by decide +kernel
theorem dX6_why_18 : decode cX6_why 18 = .ok (.getfield 28, 3) := by decide +kernel
theorem dX6_why_21 : decode cX6_why 21 = .ok (.getfield 216, 3) := by decide +kernel
theorem dX6_why_24 : decode cX6_why 24 = .ok (.invokevirtual 219, 3) := by decide +kernel
theorem dX6_why_27 : decode cX6_why 27 = .ok (.istore_n 2, 1) := by decide +kernel
theorem dX6_why_28 : decode cX6_why 28 = .ok (.iload_n 2, 1) := by decide +kernel
theorem dX6_why_29 : decode cX6_why 29 = .ok (.ifCond .ge 8, 3) := by decide +kernel
theorem dX6_why_32 : decode cX6_why 32 = .ok (.ldc 184, 2) := by decide +kernel
theorem dX6_why_34 : decode cX6_why 34 = .ok (.goto 4, 3) := by decide +kernel
theorem dX6_why_37 : decode cX6_why 37 = .ok (.iload_n 2, 1) := by decide +kernel
theorem dX6_why_38 : decode cX6_why 38 = .ok (.ireturn, 1) := by decide +kernel
theorem dX6_sheet_0 : decode cX6_sheet 0 = .ok (.iload_n 1, 1) := by decide +kernel
theorem dX6_sheet_1 : decode cX6_sheet 1 = .ok (.invokestatic 204, 3) := by decide +kernel
theorem dX6_sheet_4 : decode cX6_sheet 4 = .ok (.ifCond .eq 12, 3) := by decide +kernel
theorem dX6_sheet_7 : decode cX6_sheet 7 = .ok (.iload_n 2, 1) := by decide +kernel
theorem dX6_sheet_8 : decode cX6_sheet 8 = .ok (.iconst (-1), 1) := by decide +kernel
theorem dX6_sheet_9 : decode cX6_sheet 9 = .ok (.iconst 1, 1) := by decide +kernel
theorem dX6_sheet_10 : decode cX6_sheet 10 = .ok (.invokestatic 67, 3) := by decide +kernel
theorem dX6_sheet_13 : decode cX6_sheet 13 = .ok (.ifCond .ne 6, 3) := by decide +kernel
theorem dX6_sheet_16 : decode cX6_sheet 16 = .ok (.ldc 71, 2) := by decide +kernel
theorem dX6_sheet_18 : decode cX6_sheet 18 = .ok (.ireturn, 1) := by decide +kernel
theorem dX6_sheet_19 : decode cX6_sheet 19 = .ok (.iload_n 2, 1) := by decide +kernel
theorem dX6_sheet_20 : decode cX6_sheet 20 = .ok (.iconst (-1), 1) := by decide +kernel
theorem dX6_sheet_21 : decode cX6_sheet 21 = .ok (.if_icmp .ne 16, 3) := by decide +kernel
theorem dX6_sheet_24 : decode cX6_sheet 24 = .ok (.aload_n 0, 1) := by decide +kernel
theorem dX6_sheet_25 : decode cX6_sheet 25 = .ok (.getfield 40, 3) := by decide +kernel
theorem dX6_sheet_28 : decode cX6_sheet 28 = .ok (.iload_n 1, 1) := by decide +kernel
theorem dX6_sheet_29 : decode cX6_sheet 29 = .ok (.aaload, 1) := by decide +kernel
theorem dX6_sheet_30 : decode cX6_sheet 30 = .ok (.iconst (-1), 1) := by decide +kernel
theorem dX6_sheet_31 : decode cX6_sheet 31 = .ok (.iconst 0, 1) := by decide +kernel
theorem dX6_sheet_32 : decode cX6_sheet 32 = .ok (.invokevirtual 251, 3) := by decide +kernel
theorem dX6_sheet_35 : decode cX6_sheet 35 = .ok (.iconst 0, 1) := by decide +kernel
theorem dX6_sheet_36 : decode cX6_sheet 36 = .ok (.ireturn, 1) := by decide +kernel
theorem dX6_sheet_37 : decode cX6_sheet 37 = .ok (.iload_n 3, 1) := by decide +kernel
theorem dX6_sheet_38 : decode cX6_sheet 38 = .ok (.bipush 24, 2) := by decide +kernel
theorem dX6_sheet_40 : decode cX6_sheet 40 = .ok (.if_icmp .le 6, 3) := by decide +kernel
theorem dX6_sheet_43 : decode cX6_sheet 43 = .ok (.ldc 71, 2) := by decide +kernel
theorem dX6_sheet_45 : decode cX6_sheet 45 = .ok (.ireturn, 1) := by decide +kernel
theorem dX6_sheet_46 : decode cX6_sheet 46 = .ok (.iload_n 3, 1) := by decide +kernel
theorem dX6_sheet_47 : decode cX6_sheet 47 = .ok (.ifCond .ge 6, 3) := by decide +kernel
theorem dX6_sheet_50 : decode cX6_sheet 50 = .ok (.ldc 255, 2) := by decide +kernel
theorem dX6_sheet_52 : decode cX6_sheet 52 = .ok (.ireturn, 1) := by decide +kernel
theorem dX6_sheet_53 : decode cX6_sheet 53 = .ok (.aload_n 0, 1) := by decide +kernel
theorem dX6_sheet_54 : decode cX6_sheet 54 = .ok (.getfield 40, 3) := by decide +kernel
theorem dX6_sheet_57 : decode cX6_sheet 57 = .ok (.iload_n 1, 1) := by decide +kernel
theorem dX6_sheet_58 : decode cX6_sheet 58 = .ok (.aaload, 1) := by decide +kernel
theorem dX6_sheet_59 : decode cX6_sheet 59 = .ok (.iload_n 2, 1) := by decide +kernel
theorem dX6_sheet_60 : decode cX6_sheet 60 = .ok (.iload_n 3, 1) := by decide +kernel
theorem dX6_sheet_61 : decode cX6_sheet 61 = .ok (.invokevirtual 251, 3) := by decide +kernel
theorem dX6_sheet_64 : decode cX6_sheet 64 = .ok (.iload_n 3, 1) := by decide +kernel
theorem dX6_sheet_65 : decode cX6_sheet 65 = .ok (.ireturn, 1) := by decide +kernel
theorem dX6_mark_0 : decode cX6_mark 0 = .ok (.iload_n 1, 1) := by decide +kernel
theorem dX6_mark_1 : decode cX6_mark 1 = .ok (.invokestatic 204, 3) := by decide +kernel
theorem dX6_mark_4 : decode cX6_mark 4 = .ok (.ifCond .ne 6, 3) := by decide +kernel
theorem dX6_mark_7 : decode cX6_mark 7 = .ok (.ldc 71, 2) := by decide +kernel
theorem dX6_mark_9 : decode cX6_mark 9 = .ok (.ireturn, 1) := by decide +kernel
theorem dX6_mark_10 : decode cX6_mark 10 = .ok (.aload_n 0, 1) := by decide +kernel
theorem dX6_mark_11 : decode cX6_mark 11 = .ok (.getfield 40, 3) := by decide +kernel
theorem dX6_mark_14 : decode cX6_mark 14 = .ok (.iload_n 1, 1) := by decide +kernel
theorem dX6_mark_15 : decode cX6_mark 15 = .ok (.aaload, 1) := by decide +kernel
theorem dX6_mark_16 : decode cX6_mark 16 = .ok (.astore 4, 2) := by decide +kernel
theorem dX6_mark_18 : decode cX6_mark 18 = .ok (.aload 4, 2) := by decide +kernel
theorem dX6_mark_20 : decode cX6_mark 20 = .ok (.invokevirtual 207, 3) := by decide +kernel
theorem dX6_mark_23 : decode cX6_mark 23 = .ok (.ifCond .eq 6, 3) := by decide +kernel
theorem dX6_mark_26 : decode cX6_mark 26 = .ok (.ldc 211, 2) := by decide +kernel
theorem dX6_mark_28 : decode cX6_mark 28 = .ok (.ireturn, 1) := by decide +kernel
theorem dX6_mark_29 : decode cX6_mark 29 = .ok (.aload 4, 2) := by decide +kernel
theorem dX6_mark_31 : decode cX6_mark 31 = .ok (.iload_n 2, 1) := by decide +kernel
theorem dX6_mark_32 : decode cX6_mark 32 = .ok (.invokevirtual 256, 3) := by decide +kernel
theorem dX6_mark_35 : decode cX6_mark 35 = .ok (.ifCond .ne 7, 3) := by decide +kernel
theorem dX6_mark_38 : decode cX6_mark 38 = .ok (.ldc_w 259, 3) := by decide +kernel
theorem dX6_mark_41 : decode cX6_mark 41 = .ok (.ireturn, 1) := by decide +kernel
theorem dX6_mark_42 : decode cX6_mark 42 = .ok (.aload 4, 2) := by decide +kernel
theorem dX6_mark_44 : decode cX6_mark 44 = .ok (.getfield 260, 3) := by decide +kernel
theorem dX6_mark_47 : decode cX6_mark 47 = .ok (.ifCond .ne 23, 3) := by decide +kernel
theorem dX6_mark_50 : decode cX6_mark 50 = .ok (.iload_n 3, 1) := by decide +kernel
theorem dX6_mark_51 : decode cX6_mark 51 = .ok (.ldc 184, 2) := by decide +kernel
theorem dX6_mark_53 : decode cX6_mark 53 = .ok (.if_icmp .ne 6, 3) := by decide +kernel
theorem dX6_mark_56 : decode cX6_mark 56 = .ok (.ldc 128, 2) := by decide +kernel
theorem dX6_mark_58 : decode cX6_mark 58 = .ok (.ireturn, 1) := by decide +kernel
theorem dX6_mark_59 : decode cX6_mark 59 = .ok (.aload 4, 2) := by decide +kernel
theorem dX6_mark_61 : decode cX6_mark 61 = .ok (.getfield 263, 3) := by decide +kernel
theorem dX6_mark_64 : decode cX6_mark 64 = .ok (.iload_n 2, 1) := by decide +kernel
theorem dX6_mark_65 : decode cX6_mark 65 = .ok (.iload_n 3, 1) := by decide +kernel
theorem dX6_mark_66 : decode cX6_mark 66 = .ok (.i2s, 1) := by decide +kernel
theorem dX6_mark_67 : decode cX6_mark 67 = .ok (.iastore, 1) := by decide +kernel
theorem dX6_mark_68 : decode cX6_mark 68 = .ok (.iconst 1, 1) := by decide +kernel
theorem dX6_mark_69 : decode cX6_mark 69 = .ok (.ireturn, 1) := by decide +kernel
theorem dX6_mark_70 : decode cX6_mark 70 = .ok (.iload_n 3, 1) := by decide +kernel
theorem dX6_mark_71 : decode cX6_mark 71 = .ok (.ldc 184, 2) := by decide +kernel
theorem dX6_mark_73 : decode cX6_mark 73 = .ok (.if_icmp .eq 19, 3) := by decide +kernel
theorem dX6_mark_76 : decode cX6_mark 76 = .ok (.iload_n 3, 1) := by decide +kernel
theorem dX6_mark_77 : decode cX6_mark 77 = .ok (.ldc_w 266, 3) := by decide +kernel
theorem dX6_mark_80 : decode cX6_mark 80 = .ok (.ldc_w 267, 3) := by decide +kernel
theorem dX6_mark_83 : decode cX6_mark 83 = .ok (.invokestatic 67, 3) := by decide +kernel
theorem dX6_mark_86 : decode cX6_mark 86 = .ok (.ifCond .ne 6, 3) := by decide +kernel
theorem dX6_mark_89 : decode cX6_mark 89 = .ok (.ldc 71, 2) := by decide +kernel
theorem dX6_mark_91 : decode cX6_mark 91 = .ok (.ireturn, 1) := by decide +kernel
theorem dX6_mark_92 : decode cX6_mark 92 = .ok (.aload 4, 2) := by decide +kernel
theorem dX6_mark_94 : decode cX6_mark 94 = .ok (.getfield 263, 3) := by decide +kernel
theorem dX6_mark_97 : decode cX6_mark 97 = .ok (.iload_n 2, 1) := by decide +kernel
theorem dX6_mark_98 : decode cX6_mark 98 = .ok (.iload_n 3, 1) := by decide +kernel
theorem dX6_mark_99 : decode cX6_mark 99 = .ok (.iastore, 1) := by decide +kernel
theorem dX6_mark_100 : decode cX6_mark 100 = .ok (.iconst 1, 1) := by decide +kernel
theorem dX6_mark_101 : decode cX6_mark 101 = .ok (.ireturn, 1) := by decide +kernel
theorem dX6_pour_0 : decode cX6_pour 0 = .ok (.iload_n 1, 1) := by decide +kernel
theorem dX6_pour_1 : decode cX6_pour 1 = .ok (.invokestatic 204, 3) := by decide +kernel
theorem dX6_pour_4 : decode cX6_pour 4 = .ok (.ifCond .ne 6, 3) := by decide +kernel
theorem dX6_pour_7 : decode cX6_pour 7 = .ok (.ldc 71, 2) := by decide +kernel
theorem dX6_pour_9 : decode cX6_pour 9 = .ok (.ireturn, 1) := by decide +kernel
theorem dX6_pour_10 : decode cX6_pour 10 = .ok (.aload_n 0, 1) := by decide +kernel
theorem dX6_pour_11 : decode cX6_pour 11 = .ok (.getfield 40, 3) := by decide +kernel
theorem dX6_pour_14 : decode cX6_pour 14 = .ok (.iload_n 1, 1) := by decide +kernel
theorem dX6_pour_15 : decode cX6_pour 15 = .ok (.aaload, 1) := by decide +kernel
theorem dX6_pour_16 : decode cX6_pour 16 = .ok (.astore_n 2, 1) := by decide +kernel
theorem dX6_pour_17 : decode cX6_pour 17 = .ok (.aload_n 2, 1) := by decide +kernel
theorem dX6_pour_18 : decode cX6_pour 18 = .ok (.invokevirtual 207, 3) := by decide +kernel
theorem dX6_pour_21 : decode cX6_pour 21 = .ok (.ifCond .eq 6, 3) := by decide +kernel
theorem dX6_pour_24 : decode cX6_pour 24 = .ok (.ldc 211, 2) := by decide +kernel
theorem dX6_pour_26 : decode cX6_pour 26 = .ok (.ireturn, 1) := by decide +kernel
theorem dX6_pour_27 : decode cX6_pour 27 = .ok (.iconst 0, 1) := by decide +kernel
theorem dX6_pour_28 : decode cX6_pour 28 = .ok (.istore_n 3, 1) := by decide +kernel
theorem dX6_pour_29 : decode cX6_pour 29 = .ok (.iconst 0, 1) := by decide +kernel
theorem dX6_pour_30 : decode cX6_pour 30 = .ok (.istore 4, 2) := by decide +kernel
theorem dX6_pour_32 : decode cX6_pour 32 = .ok (.iload 4, 2) := by decide +kernel
theorem dX6_pour_34 : decode cX6_pour 34 = .ok (.aload_n 0, 1) := by decide +kernel
theorem dX6_pour_35 : decode cX6_pour 35 = .ok (.getfield 28, 3) := by decide +kernel
theorem dX6_pour_38 : decode cX6_pour 38 = .ok (.getfield 72, 3) := by decide +kernel
theorem dX6_pour_41 : decode cX6_pour 41 = .ok (.if_icmp .ge 77, 3) := by decide +kernel
theorem dX6_pour_44 : decode cX6_pour 44 = .ok (.iload 4, 2) := by decide +kernel
theorem dX6_pour_46 : decode cX6_pour 46 = .ok (.aload_n 2, 1) := by decide +kernel
theorem dX6_pour_47 : decode cX6_pour 47 = .ok (.getfield 268, 3) := by decide +kernel
theorem dX6_pour_50 : decode cX6_pour 50 = .ok (.if_icmp .ge 68, 3) := by decide +kernel
theorem dX6_pour_53 : decode cX6_pour 53 = .ok (.aload_n 2, 1) := by decide +kernel
theorem dX6_pour_54 : decode cX6_pour 54 = .ok (.iload 4, 2) := by decide +kernel
theorem dX6_pour_56 : decode cX6_pour 56 = .ok (.invokevirtual 271, 3) := by decide +kernel
theorem dX6_pour_59 : decode cX6_pour 59 = .ok (.ifCond .eq 53, 3) := by decide +kernel
theorem dX6_pour_62 : decode cX6_pour 62 = .ok (.aload_n 2, 1) := by decide +kernel
theorem dX6_pour_63 : decode cX6_pour 63 = .ok (.getfield 263, 3) := by decide +kernel
theorem dX6_pour_66 : decode cX6_pour 66 = .ok (.iload 4, 2) := by decide +kernel
theorem dX6_pour_68 : decode cX6_pour 68 = .ok (.iaload, 1) := by decide +kernel
theorem dX6_pour_69 : decode cX6_pour 69 = .ok (.iconst 0, 1) := by decide +kernel
theorem dX6_pour_70 : decode cX6_pour 70 = .ok (.bipush 9, 2) := by decide +kernel
theorem dX6_pour_72 : decode cX6_pour 72 = .ok (.invokestatic 274, 3) := by decide +kernel
theorem dX6_pour_75 : decode cX6_pour 75 = .ok (.istore 5, 2) := by decide +kernel
theorem dX6_pour_77 : decode cX6_pour 77 = .ok (.iload_n 3, 1) := by decide +kernel
theorem dX6_pour_78 : decode cX6_pour 78 = .ok (.iload 5, 2) := by decide +kernel
theorem dX6_pour_80 : decode cX6_pour 80 = .ok (.aload_n 0, 1) := by decide +kernel
theorem dX6_pour_81 : decode cX6_pour 81 = .ok (.getfield 28, 3) := by decide +kernel
theorem dX6_pour_84 : decode cX6_pour 84 = .ok (.getfield 96, 3) := by decide +kernel
theorem dX6_pour_87 : decode cX6_pour 87 = .ok (.iload 4, 2) := by decide +kernel
theorem dX6_pour_89 : decode cX6_pour 89 = .ok (.iaload, 1) := by decide +kernel
theorem dX6_pour_90 : decode cX6_pour 90 = .ok (.if_icmp .ne 7, 3) := by decide +kernel
theorem dX6_pour_93 : decode cX6_pour 93 = .ok (.iconst 0, 1) := by decide +kernel
theorem dX6_pour_94 : decode cX6_pour 94 = .ok (.goto 4, 3) := by decide +kernel
theorem dX6_pour_97 : decode cX6_pour 97 = .ok (.iconst 1, 1) := by decide +kernel
theorem dX6_pour_98 : decode cX6_pour 98 = .ok (.iadd, 1) := by decide +kernel
theorem dX6_pour_99 : decode cX6_pour 99 = .ok (.istore_n 3, 1) := by decide +kernel
theorem dX6_pour_100 : decode cX6_pour 100 = .ok (.aload_n 0, 1) := by decide +kernel
theorem dX6_pour_101 : decode cX6_pour 101 = .ok (.getfield 28, 3) := by decide +kernel
theorem dX6_pour_104 : decode cX6_pour 104 = .ok (.getfield 96, 3) := by decide +kernel
theorem dX6_pour_107 : decode cX6_pour 107 = .ok (.iload 4, 2) := by decide +kernel
theorem dX6_pour_109 : decode cX6_pour 109 = .ok (.iload 5, 2) := by decide +kernel
theorem dX6_pour_111 : decode cX6_pour 111 = .ok (.iastore, 1) := by decide +kernel
theorem dX6_pour_112 : decode cX6_pour 112 = .ok (.iinc 4 1, 3) := by decide +kernel
theorem dX6_pour_115 : decode cX6_pour 115 = .ok (.goto (-83), 3) := by decide +kernel
theorem dX6_pour_118 : decode cX6_pour 118 = .ok (.iload_n 3, 1) := by decide +kernel
theorem dX6_pour_119 : decode cX6_pour 119 = .ok (.ireturn, 1) := by decide +kernel
theorem dX6_reads_0 : decode cX6_reads 0 = .ok (.iload_n 1, 1) := by decide +kernel
theorem dX6_reads_1 : decode cX6_reads 1 = .ok (.invokestatic 204, 3) := by decide +kernel
theorem dX6_reads_4 : decode cX6_reads 4 = .ok (.ifCond .ne 6, 3) := by decide +kernel
theorem dX6_reads_7 : decode cX6_reads 7 = .ok (.ldc 71, 2) := by decide +kernel
theorem dX6_reads_9 : decode cX6_reads 9 = .ok (.ireturn, 1) := by decide +kernel
theorem dX6_reads_10 : decode cX6_reads 10 = .ok (.aload_n 0, 1) := by decide +kernel
theorem dX6_reads_11 : decode cX6_reads 11 = .ok (.getfield 40, 3) := by decide +kernel
theorem dX6_reads_14 : decode cX6_reads 14 = .ok (.iload_n 1, 1) := by decide +kernel
theorem dX6_reads_15 : decode cX6_reads 15 = .ok (.aaload, 1) := by decide +kernel
theorem dX6_reads_16 : decode cX6_reads 16 = .ok (.astore_n 2, 1) := by decide +kernel
theorem dX6_reads_17 : decode cX6_reads 17 = .ok (.aload_n 2, 1) := by decide +kernel
theorem dX6_reads_18 : decode cX6_reads 18 = .ok (.invokevirtual 207, 3) := by decide +kernel
theorem dX6_reads_21 : decode cX6_reads 21 = .ok (.ifCond .eq 6, 3) := by decide +kernel
theorem dX6_reads_24 : decode cX6_reads 24 = .ok (.ldc 211, 2) := by decide +kernel
theorem dX6_reads_26 : decode cX6_reads 26 = .ok (.ireturn, 1) := by decide +kernel
theorem dX6_reads_27 : decode cX6_reads 27 = .ok (.iconst 0, 1) := by decide +kernel
theorem dX6_reads_28 : decode cX6_reads 28 = .ok (.istore_n 3, 1) := by decide +kernel
theorem dX6_reads_29 : decode cX6_reads 29 = .ok (.iload_n 3, 1) := by decide +kernel
theorem dX6_reads_30 : decode cX6_reads 30 = .ok (.aload_n 2, 1) := by decide +kernel
theorem dX6_reads_31 : decode cX6_reads 31 = .ok (.getfield 268, 3) := by decide +kernel
theorem dX6_reads_34 : decode cX6_reads 34 = .ok (.if_icmp .ge 60, 3) := by decide +kernel
theorem dX6_reads_37 : decode cX6_reads 37 = .ok (.aload_n 0, 1) := by decide +kernel
theorem dX6_reads_38 : decode cX6_reads 38 = .ok (.getfield 28, 3) := by decide +kernel
theorem dX6_reads_41 : decode cX6_reads 41 = .ok (.iload_n 3, 1) := by decide +kernel
theorem dX6_reads_42 : decode cX6_reads 42 = .ok (.invokevirtual 80, 3) := by decide +kernel
theorem dX6_reads_45 : decode cX6_reads 45 = .ok (.ifCond .eq 25, 3) := by decide +kernel
theorem dX6_reads_48 : decode cX6_reads 48 = .ok (.aload_n 2, 1) := by decide +kernel
theorem dX6_reads_49 : decode cX6_reads 49 = .ok (.getfield 263, 3) := by decide +kernel
theorem dX6_reads_52 : decode cX6_reads 52 = .ok (.iload_n 3, 1) := by decide +kernel
theorem dX6_reads_53 : decode cX6_reads 53 = .ok (.iaload, 1) := by decide +kernel
theorem dX6_reads_54 : decode cX6_reads 54 = .ok (.aload_n 0, 1) := by decide +kernel
theorem dX6_reads_55 : decode cX6_reads 55 = .ok (.getfield 28, 3) := by decide +kernel
theorem dX6_reads_58 : decode cX6_reads 58 = .ok (.getfield 102, 3) := by decide +kernel
theorem dX6_reads_61 : decode cX6_reads 61 = .ok (.iload_n 3, 1) := by decide +kernel
theorem dX6_reads_62 : decode cX6_reads 62 = .ok (.iaload, 1) := by decide +kernel
theorem dX6_reads_63 : decode cX6_reads 63 = .ok (.if_icmp .ne 7, 3) := by decide +kernel
theorem dX6_reads_66 : decode cX6_reads 66 = .ok (.iconst 1, 1) := by decide +kernel
theorem dX6_reads_67 : decode cX6_reads 67 = .ok (.goto 4, 3) := by decide +kernel
theorem dX6_reads_70 : decode cX6_reads 70 = .ok (.iconst 0, 1) := by decide +kernel
theorem dX6_reads_71 : decode cX6_reads 71 = .ok (.istore 4, 2) := by decide +kernel
theorem dX6_reads_73 : decode cX6_reads 73 = .ok (.aload_n 2, 1) := by decide +kernel
theorem dX6_reads_74 : decode cX6_reads 74 = .ok (.iload_n 3, 1) := by decide +kernel
theorem dX6_reads_75 : decode cX6_reads 75 = .ok (.invokevirtual 271, 3) := by decide +kernel
theorem dX6_reads_78 : decode cX6_reads 78 = .ok (.ifCond .eq 10, 3) := by decide +kernel
theorem dX6_reads_81 : decode cX6_reads 81 = .ok (.iload 4, 2) := by decide +kernel
theorem dX6_reads_83 : decode cX6_reads 83 = .ok (.ifCond .ne 5, 3) := by decide +kernel
theorem dX6_reads_86 : decode cX6_reads 86 = .ok (.iload_n 3, 1) := by decide +kernel
theorem dX6_reads_87 : decode cX6_reads 87 = .ok (.ireturn, 1) := by decide +kernel
theorem dX6_reads_88 : decode cX6_reads 88 = .ok (.iinc 3 1, 3) := by decide +kernel
theorem dX6_reads_91 : decode cX6_reads 91 = .ok (.goto (-62), 3) := by decide +kernel
theorem dX6_reads_94 : decode cX6_reads 94 = .ok (.ldc 184, 2) := by decide +kernel
theorem dX6_reads_96 : decode cX6_reads 96 = .ok (.ireturn, 1) := by decide +kernel
theorem dX6_copy_0 : decode cX6_copy 0 = .ok (.iload_n 1, 1) := by decide +kernel
theorem dX6_copy_1 : decode cX6_copy 1 = .ok (.invokestatic 204, 3) := by decide +kernel
theorem dX6_copy_4 : decode cX6_copy 4 = .ok (.ifCond .eq 10, 3) := by decide +kernel
theorem dX6_copy_7 : decode cX6_copy 7 = .ok (.iload_n 3, 1) := by decide +kernel
theorem dX6_copy_8 : decode cX6_copy 8 = .ok (.invokestatic 204, 3) := by decide +kernel
theorem dX6_copy_11 : decode cX6_copy 11 = .ok (.ifCond .ne 6, 3) := by decide +kernel
theorem dX6_copy_14 : decode cX6_copy 14 = .ok (.ldc 71, 2) := by decide +kernel
theorem dX6_copy_16 : decode cX6_copy 16 = .ok (.ireturn, 1) := by decide +kernel
theorem dX6_copy_17 : decode cX6_copy 17 = .ok (.aload_n 0, 1) := by decide +kernel
theorem dX6_copy_18 : decode cX6_copy 18 = .ok (.getfield 40, 3) := by decide +kernel
theorem dX6_copy_21 : decode cX6_copy 21 = .ok (.iload_n 1, 1) := by decide +kernel
theorem dX6_copy_22 : decode cX6_copy 22 = .ok (.aaload, 1) := by decide +kernel
theorem dX6_copy_23 : decode cX6_copy 23 = .ok (.astore 6, 2) := by decide +kernel
theorem dX6_copy_25 : decode cX6_copy 25 = .ok (.aload_n 0, 1) := by decide +kernel
theorem dX6_copy_26 : decode cX6_copy 26 = .ok (.getfield 40, 3) := by decide +kernel
theorem dX6_copy_29 : decode cX6_copy 29 = .ok (.iload_n 3, 1) := by decide +kernel
theorem dX6_copy_30 : decode cX6_copy 30 = .ok (.aaload, 1) := by decide +kernel
theorem dX6_copy_31 : decode cX6_copy 31 = .ok (.astore 7, 2) := by decide +kernel
theorem dX6_copy_33 : decode cX6_copy 33 = .ok (.aload 6, 2) := by decide +kernel
theorem dX6_copy_35 : decode cX6_copy 35 = .ok (.invokevirtual 207, 3) := by decide +kernel
theorem dX6_copy_38 : decode cX6_copy 38 = .ok (.ifCond .ne 11, 3) := by decide +kernel
theorem dX6_copy_41 : decode cX6_copy 41 = .ok (.aload 7, 2) := by decide +kernel
theorem dX6_copy_43 : decode cX6_copy 43 = .ok (.invokevirtual 207, 3) := by decide +kernel
theorem dX6_copy_46 : decode cX6_copy 46 = .ok (.ifCond .eq 6, 3) := by decide +kernel
theorem dX6_copy_49 : decode cX6_copy 49 = .ok (.ldc 211, 2) := by decide +kernel
theorem dX6_copy_51 : decode cX6_copy 51 = .ok (.ireturn, 1) := by decide +kernel
theorem dX6_copy_52 : decode cX6_copy 52 = .ok (.aload 6, 2) := by decide +kernel
theorem dX6_copy_54 : decode cX6_copy 54 = .ok (.getfield 260, 3) := by decide +kernel
theorem dX6_copy_57 : decode cX6_copy 57 = .ok (.aload 7, 2) := by decide +kernel
theorem dX6_copy_59 : decode cX6_copy 59 = .ok (.getfield 260, 3) := by decide +kernel
theorem dX6_copy_62 : decode cX6_copy 62 = .ok (.if_icmp .eq 6, 3) := by decide +kernel
theorem dX6_copy_65 : decode cX6_copy 65 = .ok (.ldc 128, 2) := by decide +kernel
theorem dX6_copy_67 : decode cX6_copy 67 = .ok (.ireturn, 1) := by decide +kernel
theorem dX6_copy_68 : decode cX6_copy 68 = .ok (.aload 6, 2) := by decide +kernel
theorem dX6_copy_70 : decode cX6_copy 70 = .ok (.iload_n 2, 1) := by decide +kernel
theorem dX6_copy_71 : decode cX6_copy 71 = .ok (.iload 5, 2) := by decide +kernel
theorem dX6_copy_73 : decode cX6_copy 73 = .ok (.invokevirtual 277, 3) := by decide +kernel
theorem dX6_copy_76 : decode cX6_copy 76 = .ok (.ifCond .eq 15, 3) := by decide +kernel
theorem dX6_copy_79 : decode cX6_copy 79 = .ok (.aload 7, 2) := by decide +kernel
theorem dX6_copy_81 : decode cX6_copy 81 = .ok (.iload 4, 2) := by decide +kernel
theorem dX6_copy_83 : decode cX6_copy 83 = .ok (.iload 5, 2) := by decide +kernel
theorem dX6_copy_85 : decode cX6_copy 85 = .ok (.invokevirtual 277, 3) := by decide +kernel
theorem dX6_copy_88 : decode cX6_copy 88 = .ok (.ifCond .ne 7, 3) := by decide +kernel
theorem dX6_copy_91 : decode cX6_copy 91 = .ok (.ldc_w 259, 3) := by decide +kernel
theorem dX6_copy_94 : decode cX6_copy 94 = .ok (.ireturn, 1) := by decide +kernel
theorem dX6_copy_95 : decode cX6_copy 95 = .ok (.aload 6, 2) := by decide +kernel
theorem dX6_copy_97 : decode cX6_copy 97 = .ok (.getfield 263, 3) := by decide +kernel
theorem dX6_copy_100 : decode cX6_copy 100 = .ok (.iload_n 2, 1) := by decide +kernel
theorem dX6_copy_101 : decode cX6_copy 101 = .ok (.aload 7, 2) := by decide +kernel
theorem dX6_copy_103 : decode cX6_copy 103 = .ok (.getfield 263, 3) := by decide +kernel
theorem dX6_copy_106 : decode cX6_copy 106 = .ok (.iload 4, 2) := by decide +kernel
theorem dX6_copy_108 : decode cX6_copy 108 = .ok (.iload 5, 2) := by decide +kernel
theorem dX6_copy_110 : decode cX6_copy 110 = .ok (.invokestatic 280, 3) := by decide +kernel
theorem dX6_copy_113 : decode cX6_copy 113 = .ok (.iload 5, 2) := by decide +kernel
theorem dX6_copy_115 : decode cX6_copy 115 = .ok (.ireturn, 1) := by decide +kernel
theorem dX6_lay_0 : decode cX6_lay 0 = .ok (.iload_n 1, 1) := by decide +kernel
theorem dX6_lay_1 : decode cX6_lay 1 = .ok (.invokestatic 286, 3) := by decide +kernel
theorem dX6_lay_4 : decode cX6_lay 4 = .ok (.ifCond .eq 12, 3) := by decide +kernel
theorem dX6_lay_7 : decode cX6_lay 7 = .ok (.iload_n 2, 1) := by decide +kernel
theorem dX6_lay_8 : decode cX6_lay 8 = .ok (.iconst 0, 1) := by decide +kernel
theorem dX6_lay_9 : decode cX6_lay 9 = .ok (.iconst 3, 1) := by decide +kernel
theorem dX6_lay_10 : decode cX6_lay 10 = .ok (.invokestatic 67, 3) := by decide +kernel
theorem dX6_lay_13 : decode cX6_lay 13 = .ok (.ifCond .ne 6, 3) := by decide +kernel
theorem dX6_lay_16 : decode cX6_lay 16 = .ok (.ldc 71, 2) := by decide +kernel
theorem dX6_lay_18 : decode cX6_lay 18 = .ok (.ireturn, 1) := by decide +kernel
theorem dX6_lay_19 : decode cX6_lay 19 = .ok (.iload_n 2, 1) := by decide +kernel
theorem dX6_lay_20 : decode cX6_lay 20 = .ok (.iconst 1, 1) := by decide +kernel
theorem dX6_lay_21 : decode cX6_lay 21 = .ok (.if_icmp .ne 17, 3) := by decide +kernel
theorem dX6_lay_24 : decode cX6_lay 24 = .ok (.aload_n 0, 1) := by decide +kernel
theorem dX6_lay_25 : decode cX6_lay 25 = .ok (.getfield 28, 3) := by decide +kernel
theorem dX6_lay_28 : decode cX6_lay 28 = .ok (.iload_n 3, 1) := by decide +kernel
theorem dX6_lay_29 : decode cX6_lay 29 = .ok (.invokevirtual 80, 3) := by decide +kernel
theorem dX6_lay_32 : decode cX6_lay 32 = .ok (.ifCond .ne 6, 3) := by decide +kernel
theorem dX6_lay_35 : decode cX6_lay 35 = .ok (.ldc 71, 2) := by decide +kernel
theorem dX6_lay_37 : decode cX6_lay 37 = .ok (.ireturn, 1) := by decide +kernel
theorem dX6_lay_38 : decode cX6_lay 38 = .ok (.iload_n 2, 1) := by decide +kernel
theorem dX6_lay_39 : decode cX6_lay 39 = .ok (.iconst 2, 1) := by decide +kernel
theorem dX6_lay_40 : decode cX6_lay 40 = .ok (.if_icmp .ne 28, 3) := by decide +kernel
theorem dX6_lay_43 : decode cX6_lay 43 = .ok (.iload_n 3, 1) := by decide +kernel
theorem dX6_lay_44 : decode cX6_lay 44 = .ok (.invokestatic 204, 3) := by decide +kernel
theorem dX6_lay_47 : decode cX6_lay 47 = .ok (.ifCond .ne 6, 3) := by decide +kernel
theorem dX6_lay_50 : decode cX6_lay 50 = .ok (.ldc 71, 2) := by decide +kernel
theorem dX6_lay_52 : decode cX6_lay 52 = .ok (.ireturn, 1) := by decide +kernel
theorem dX6_lay_53 : decode cX6_lay 53 = .ok (.aload_n 0, 1) := by decide +kernel
theorem dX6_lay_54 : decode cX6_lay 54 = .ok (.getfield 40, 3) := by decide +kernel
theorem dX6_lay_57 : decode cX6_lay 57 = .ok (.iload_n 3, 1) := by decide +kernel
theorem dX6_lay_58 : decode cX6_lay 58 = .ok (.aaload, 1) := by decide +kernel
theorem dX6_lay_59 : decode cX6_lay 59 = .ok (.invokevirtual 207, 3) := by decide +kernel
theorem dX6_lay_62 : decode cX6_lay 62 = .ok (.ifCond .eq 6, 3) := by decide +kernel
theorem dX6_lay_65 : decode cX6_lay 65 = .ok (.ldc 211, 2) := by decide +kernel
theorem dX6_lay_67 : decode cX6_lay 67 = .ok (.ireturn, 1) := by decide +kernel
theorem dX6_lay_68 : decode cX6_lay 68 = .ok (.aload_n 0, 1) := by decide +kernel
theorem dX6_lay_69 : decode cX6_lay 69 = .ok (.getfield 47, 3) := by decide +kernel
theorem dX6_lay_72 : decode cX6_lay 72 = .ok (.iload_n 1, 1) := by decide +kernel
theorem dX6_lay_73 : decode cX6_lay 73 = .ok (.aaload, 1) := by decide +kernel
theorem dX6_lay_74 : decode cX6_lay 74 = .ok (.astore 4, 2) := by decide +kernel
theorem dX6_lay_76 : decode cX6_lay 76 = .ok (.aload 4, 2) := by decide +kernel
theorem dX6_lay_78 : decode cX6_lay 78 = .ok (.getfield 289, 3) := by decide +kernel
theorem dX6_lay_81 : decode cX6_lay 81 = .ok (.istore 5, 2) := by decide +kernel
theorem dX6_lay_83 : decode cX6_lay 83 = .ok (.aload 4, 2) := by decide +kernel
theorem dX6_lay_85 : decode cX6_lay 85 = .ok (.iload_n 2, 1) := by decide +kernel
theorem dX6_lay_86 : decode cX6_lay 86 = .ok (.putfield 289, 3) := by decide +kernel
theorem dX6_lay_89 : decode cX6_lay 89 = .ok (.iload_n 2, 1) := by decide +kernel
theorem dX6_lay_90 : decode cX6_lay 90 = .ok (.iconst 1, 1) := by decide +kernel
theorem dX6_lay_91 : decode cX6_lay 91 = .ok (.if_icmp .ne 34, 3) := by decide +kernel
theorem dX6_lay_94 : decode cX6_lay 94 = .ok (.aload 4, 2) := by decide +kernel
theorem dX6_lay_96 : decode cX6_lay 96 = .ok (.aload_n 0, 1) := by decide +kernel
theorem dX6_lay_97 : decode cX6_lay 97 = .ok (.getfield 28, 3) := by decide +kernel
theorem dX6_lay_100 : decode cX6_lay 100 = .ok (.getfield 84, 3) := by decide +kernel
theorem dX6_lay_103 : decode cX6_lay 103 = .ok (.iload_n 3, 1) := by decide +kernel
theorem dX6_lay_104 : decode cX6_lay 104 = .ok (.iaload, 1) := by decide +kernel
theorem dX6_lay_105 : decode cX6_lay 105 = .ok (.putfield 292, 3) := by decide +kernel
theorem dX6_lay_108 : decode cX6_lay 108 = .ok (.aload 4, 2) := by decide +kernel
theorem dX6_lay_110 : decode cX6_lay 110 = .ok (.aload_n 0, 1) := by decide +kernel
theorem dX6_lay_111 : decode cX6_lay 111 = .ok (.getfield 28, 3) := by decide +kernel
theorem dX6_lay_114 : decode cX6_lay 114 = .ok (.getfield 93, 3) := by decide +kernel
theorem dX6_lay_117 : decode cX6_lay 117 = .ok (.iload_n 3, 1) := by decide +kernel
theorem dX6_lay_118 : decode cX6_lay 118 = .ok (.iaload, 1) := by decide +kernel
theorem dX6_lay_119 : decode cX6_lay 119 = .ok (.putfield 295, 3) := by decide +kernel
theorem dX6_lay_122 : decode cX6_lay 122 = .ok (.goto 36, 3) := by decide +kernel
theorem dX6_lay_125 : decode cX6_lay 125 = .ok (.iload_n 2, 1) := by decide +kernel
theorem dX6_lay_126 : decode cX6_lay 126 = .ok (.iconst 2, 1) := by decide +kernel
theorem dX6_lay_127 : decode cX6_lay 127 = .ok (.if_icmp .ne 20, 3) := by decide +kernel
theorem dX6_lay_130 : decode cX6_lay 130 = .ok (.aload 4, 2) := by decide +kernel
theorem dX6_lay_132 : decode cX6_lay 132 = .ok (.getfield 298, 3) := by decide +kernel
theorem dX6_lay_135 : decode cX6_lay 135 = .ok (.aload_n 0, 1) := by decide +kernel
theorem dX6_lay_136 : decode cX6_lay 136 = .ok (.getfield 40, 3) := by decide +kernel
theorem dX6_lay_139 : decode cX6_lay 139 = .ok (.iload_n 3, 1) := by decide +kernel
theorem dX6_lay_140 : decode cX6_lay 140 = .ok (.aaload, 1) := by decide +kernel
theorem dX6_lay_141 : decode cX6_lay 141 = .ok (.invokevirtual 302, 3) := by decide +kernel
theorem dX6_lay_144 : decode cX6_lay 144 = .ok (.goto 14, 3) := by decide +kernel
theorem dX6_lay_147 : decode cX6_lay 147 = .ok (.iload_n 2, 1) := by decide +kernel
theorem dX6_lay_148 : decode cX6_lay 148 = .ok (.iconst 3, 1) := by decide +kernel
theorem dX6_lay_149 : decode cX6_lay 149 = .ok (.if_icmp .ne 9, 3) := by decide +kernel
theorem dX6_lay_152 : decode cX6_lay 152 = .ok (.aload 4, 2) := by decide +kernel
theorem dX6_lay_154 : decode cX6_lay 154 = .ok (.iload_n 3, 1) := by decide +kernel
theorem dX6_lay_155 : decode cX6_lay 155 = .ok (.putfield 305, 3) := by decide +kernel
theorem dX6_lay_158 : decode cX6_lay 158 = .ok (.iload 5, 2) := by decide +kernel
theorem dX6_lay_160 : decode cX6_lay 160 = .ok (.ireturn, 1) := by decide +kernel
theorem dX6_ask_0 : decode cX6_ask 0 = .ok (.iload_n 1, 1) := by decide +kernel
theorem dX6_ask_1 : decode cX6_ask 1 = .ok (.invokestatic 286, 3) := by decide +kernel
theorem dX6_ask_4 : decode cX6_ask 4 = .ok (.ifCond .eq 12, 3) := by decide +kernel
theorem dX6_ask_7 : decode cX6_ask 7 = .ok (.iload_n 2, 1) := by decide +kernel
theorem dX6_ask_8 : decode cX6_ask 8 = .ok (.iconst 0, 1) := by decide +kernel
theorem dX6_ask_9 : decode cX6_ask 9 = .ok (.iconst 5, 1) := by decide +kernel
theorem dX6_ask_10 : decode cX6_ask 10 = .ok (.invokestatic 67, 3) := by decide +kernel
theorem dX6_ask_13 : decode cX6_ask 13 = .ok (.ifCond .ne 6, 3) := by decide +kernel
theorem dX6_ask_16 : decode cX6_ask 16 = .ok (.ldc 71, 2) := by decide +kernel
theorem dX6_ask_18 : decode cX6_ask 18 = .ok (.ireturn, 1) := by decide +kernel
theorem dX6_ask_19 : decode cX6_ask 19 = .ok (.aload_n 0, 1) := by decide +kernel
theorem dX6_ask_20 : decode cX6_ask 20 = .ok (.getfield 47, 3) := by decide +kernel
theorem dX6_ask_23 : decode cX6_ask 23 = .ok (.iload_n 1, 1) := by decide +kernel
theorem dX6_ask_24 : decode cX6_ask 24 = .ok (.aaload, 1) := by decide +kernel
theorem dX6_ask_25 : decode cX6_ask 25 = .ok (.astore_n 3, 1) := by decide +kernel
theorem dX6_ask_26 : decode cX6_ask 26 = .ok (.aload_n 3, 1) := by decide +kernel
theorem dX6_ask_27 : decode cX6_ask 27 = .ok (.getfield 289, 3) := by decide +kernel
theorem dX6_ask_30 : decode cX6_ask 30 = .ok (.ifCond .ne 6, 3) := by decide +kernel
theorem dX6_ask_33 : decode cX6_ask 33 = .ok (.ldc 211, 2) := by decide +kernel
theorem dX6_ask_35 : decode cX6_ask 35 = .ok (.ireturn, 1) := by decide +kernel
theorem dX6_ask_36 : decode cX6_ask 36 = .ok (.aload_n 3, 1) := by decide +kernel
theorem dX6_ask_37 : decode cX6_ask 37 = .ok (.getfield 289, 3) := by decide +kernel
theorem dX6_ask_40 : decode cX6_ask 40 = .ok (.iconst 1, 1) := by decide +kernel
theorem dX6_ask_41 : decode cX6_ask 41 = .ok (.if_icmp .ne 14, 3) := by decide +kernel
theorem dX6_ask_44 : decode cX6_ask 44 = .ok (.aload_n 3, 1) := by decide +kernel
theorem dX6_ask_45 : decode cX6_ask 45 = .ok (.getfield 292, 3) := by decide +kernel
theorem dX6_ask_48 : decode cX6_ask 48 = .ok (.iload_n 2, 1) := by decide +kernel
theorem dX6_ask_49 : decode cX6_ask 49 = .ok (.invokestatic 124, 3) := by decide +kernel
theorem dX6_ask_52 : decode cX6_ask 52 = .ok (.ifCond .ne 6, 3) := by decide +kernel
theorem dX6_ask_55 : decode cX6_ask 55 = .ok (.ldc 128, 2) := by decide +kernel
theorem dX6_ask_57 : decode cX6_ask 57 = .ok (.ireturn, 1) := by decide +kernel
theorem dX6_ask_58 : decode cX6_ask 58 = .ok (.aload_n 3, 1) := by decide +kernel
theorem dX6_ask_59 : decode cX6_ask 59 = .ok (.getfield 292, 3) := by decide +kernel
theorem dX6_ask_62 : decode cX6_ask 62 = .ok (.aload_n 3, 1) := by decide +kernel
theorem dX6_ask_63 : decode cX6_ask 63 = .ok (.getfield 295, 3) := by decide +kernel
theorem dX6_ask_66 : decode cX6_ask 66 = .ok (.invokestatic 120, 3) := by decide +kernel
theorem dX6_ask_69 : decode cX6_ask 69 = .ok (.ireturn, 1) := by decide +kernel
theorem dX6_item_0 : decode cX6_item 0 = .ok (.iload_n 1, 1) := by decide +kernel
theorem dX6_item_1 : decode cX6_item 1 = .ok (.invokestatic 286, 3) := by decide +kernel
theorem dX6_item_4 : decode cX6_item 4 = .ok (.ifCond .ne 6, 3) := by decide +kernel
theorem dX6_item_7 : decode cX6_item 7 = .ok (.ldc 71, 2) := by decide +kernel
theorem dX6_item_9 : decode cX6_item 9 = .ok (.ireturn, 1) := by decide +kernel
theorem dX6_item_10 : decode cX6_item 10 = .ok (.aload_n 0, 1) := by decide +kernel
theorem dX6_item_11 : decode cX6_item 11 = .ok (.getfield 47, 3) := by decide +kernel
theorem dX6_item_14 : decode cX6_item 14 = .ok (.iload_n 1, 1) := by decide +kernel
theorem dX6_item_15 : decode cX6_item 15 = .ok (.aaload, 1) := by decide +kernel
theorem dX6_item_16 : decode cX6_item 16 = .ok (.astore_n 3, 1) := by decide +kernel
theorem dX6_item_17 : decode cX6_item 17 = .ok (.aload_n 3, 1) := by decide +kernel
theorem dX6_item_18 : decode cX6_item 18 = .ok (.getfield 289, 3) := by decide +kernel
theorem dX6_item_21 : decode cX6_item 21 = .ok (.ifCond .ne 6, 3) := by decide +kernel
theorem dX6_item_24 : decode cX6_item 24 = .ok (.ldc 211, 2) := by decide +kernel
theorem dX6_item_26 : decode cX6_item 26 = .ok (.ireturn, 1) := by decide +kernel
theorem dX6_item_27 : decode cX6_item 27 = .ok (.aload_n 3, 1) := by decide +kernel
theorem dX6_item_28 : decode cX6_item 28 = .ok (.getfield 289, 3) := by decide +kernel
theorem dX6_item_31 : decode cX6_item 31 = .ok (.iconst 2, 1) := by decide +kernel
theorem dX6_item_32 : decode cX6_item 32 = .ok (.if_icmp .eq 6, 3) := by decide +kernel
theorem dX6_item_35 : decode cX6_item 35 = .ok (.ldc 128, 2) := by decide +kernel
theorem dX6_item_37 : decode cX6_item 37 = .ok (.ireturn, 1) := by decide +kernel
theorem dX6_item_38 : decode cX6_item 38 = .ok (.aload_n 3, 1) := by decide +kernel
theorem dX6_item_39 : decode cX6_item 39 = .ok (.getfield 298, 3) := by decide +kernel
theorem dX6_item_42 : decode cX6_item 42 = .ok (.iload_n 2, 1) := by decide +kernel
theorem dX6_item_43 : decode cX6_item 43 = .ok (.invokevirtual 256, 3) := by decide +kernel
theorem dX6_item_46 : decode cX6_item 46 = .ok (.ifCond .ne 7, 3) := by decide +kernel
theorem dX6_item_49 : decode cX6_item 49 = .ok (.ldc_w 259, 3) := by decide +kernel
theorem dX6_item_52 : decode cX6_item 52 = .ok (.ireturn, 1) := by decide +kernel
theorem dX6_item_53 : decode cX6_item 53 = .ok (.aload_n 3, 1) := by decide +kernel
theorem dX6_item_54 : decode cX6_item 54 = .ok (.getfield 298, 3) := by decide +kernel
theorem dX6_item_57 : decode cX6_item 57 = .ok (.iload_n 2, 1) := by decide +kernel
theorem dX6_item_58 : decode cX6_item 58 = .ok (.invokevirtual 271, 3) := by decide +kernel
theorem dX6_item_61 : decode cX6_item 61 = .ok (.ifCond .eq 15, 3) := by decide +kernel
theorem dX6_item_64 : decode cX6_item 64 = .ok (.aload_n 3, 1) := by decide +kernel
theorem dX6_item_65 : decode cX6_item 65 = .ok (.getfield 298, 3) := by decide +kernel
theorem dX6_item_68 : decode cX6_item 68 = .ok (.getfield 263, 3) := by decide +kernel
theorem dX6_item_71 : decode cX6_item 71 = .ok (.iload_n 2, 1) := by decide +kernel
theorem dX6_item_72 : decode cX6_item 72 = .ok (.iaload, 1) := by decide +kernel
theorem dX6_item_73 : decode cX6_item 73 = .ok (.goto 5, 3) := by decide +kernel
theorem dX6_item_76 : decode cX6_item 76 = .ok (.ldc 128, 2) := by decide +kernel
theorem dX6_item_78 : decode cX6_item 78 = .ok (.ireturn, 1) := by decide +kernel
theorem dX6_rest_0 : decode cX6_rest 0 = .ok (.iload_n 1, 1) := by decide +kernel
theorem dX6_rest_1 : decode cX6_rest 1 = .ok (.invokestatic 286, 3) := by decide +kernel
theorem dX6_rest_4 : decode cX6_rest 4 = .ok (.ifCond .ne 6, 3) := by decide +kernel
theorem dX6_rest_7 : decode cX6_rest 7 = .ok (.ldc 71, 2) := by decide +kernel
theorem dX6_rest_9 : decode cX6_rest 9 = .ok (.ireturn, 1) := by decide +kernel
theorem dX6_rest_10 : decode cX6_rest 10 = .ok (.aload_n 0, 1) := by decide +kernel
theorem dX6_rest_11 : decode cX6_rest 11 = .ok (.getfield 47, 3) := by decide +kernel
theorem dX6_rest_14 : decode cX6_rest 14 = .ok (.iload_n 1, 1) := by decide +kernel
theorem dX6_rest_15 : decode cX6_rest 15 = .ok (.aaload, 1) := by decide +kernel
theorem dX6_rest_16 : decode cX6_rest 16 = .ok (.astore_n 3, 1) := by decide +kernel
theorem dX6_rest_17 : decode cX6_rest 17 = .ok (.aload_n 3, 1) := by decide +kernel
theorem dX6_rest_18 : decode cX6_rest 18 = .ok (.getfield 289, 3) := by decide +kernel
theorem dX6_rest_21 : decode cX6_rest 21 = .ok (.ifCond .ne 6, 3) := by decide +kernel
theorem dX6_rest_24 : decode cX6_rest 24 = .ok (.ldc 211, 2) := by decide +kernel
theorem dX6_rest_26 : decode cX6_rest 26 = .ok (.ireturn, 1) := by decide +kernel
theorem dX6_rest_27 : decode cX6_rest 27 = .ok (.aload_n 3, 1) := by decide +kernel
theorem dX6_rest_28 : decode cX6_rest 28 = .ok (.getfield 289, 3) := by decide +kernel
theorem dX6_rest_31 : decode cX6_rest 31 = .ok (.iconst 3, 1) := by decide +kernel
theorem dX6_rest_32 : decode cX6_rest 32 = .ok (.if_icmp .eq 6, 3) := by decide +kernel
theorem dX6_rest_35 : decode cX6_rest 35 = .ok (.ldc 128, 2) := by decide +kernel
theorem dX6_rest_37 : decode cX6_rest 37 = .ok (.ireturn, 1) := by decide +kernel
theorem dX6_rest_38 : decode cX6_rest 38 = .ok (.iload_n 2, 1) := by decide +kernel
theorem dX6_rest_39 : decode cX6_rest 39 = .ok (.ifCond .ne 9, 3) := by decide +kernel
theorem dX6_rest_42 : decode cX6_rest 42 = .ok (.ldc_w 308, 3) := by decide +kernel
theorem dX6_rest_45 : decode cX6_rest 45 = .ok (.goto 9, 3) := by decide +kernel
theorem dX6_rest_48 : decode cX6_rest 48 = .ok (.aload_n 3, 1) := by decide +kernel
theorem dX6_rest_49 : decode cX6_rest 49 = .ok (.getfield 305, 3) := by decide +kernel
theorem dX6_rest_52 : decode cX6_rest 52 = .ok (.iload_n 2, 1) := by decide +kernel
theorem dX6_rest_53 : decode cX6_rest 53 = .ok (.irem, 1) := by decide +kernel
theorem dX6_rest_54 : decode cX6_rest 54 = .ok (.ireturn, 1) := by decide +kernel
theorem dX6_tell_0 : decode cX6_tell 0 = .ok (.aload_n 0, 1) := by decide +kernel
theorem dX6_tell_1 : decode cX6_tell 1 = .ok (.getfield 59, 3) := by decide +kernel
theorem dX6_tell_4 : decode cX6_tell 4 = .ok (.bipush 60, 2) := by decide +kernel
theorem dX6_tell_6 : decode cX6_tell 6 = .ok (.if_icmp .lt 6, 3) := by decide +kernel
theorem dX6_tell_9 : decode cX6_tell 9 = .ok (.ldc 75, 2) := by decide +kernel
theorem dX6_tell_11 : decode cX6_tell 11 = .ok (.ireturn, 1) := by decide +kernel
theorem dX6_tell_12 : decode cX6_tell 12 = .ok (.aload_n 0, 1) := by decide +kernel
theorem dX6_tell_13 : decode cX6_tell 13 = .ok (.getfield 52, 3) := by decide +kernel
theorem dX6_tell_16 : decode cX6_tell 16 = .ok (.aload_n 0, 1) := by decide +kernel
theorem dX6_tell_17 : decode cX6_tell 17 = .ok (.getfield 59, 3) := by decide +kernel
theorem dX6_tell_20 : decode cX6_tell 20 = .ok (.iload_n 1, 1) := by decide +kernel
theorem dX6_tell_21 : decode cX6_tell 21 = .ok (.iastore, 1) := by decide +kernel
theorem dX6_tell_22 : decode cX6_tell 22 = .ok (.aload_n 0, 1) := by decide +kernel
theorem dX6_tell_23 : decode cX6_tell 23 = .ok (.dup, 1) := by decide +kernel
theorem dX6_tell_24 : decode cX6_tell 24 = .ok (.getfield 59, 3) := by decide +kernel
theorem dX6_tell_27 : decode cX6_tell 27 = .ok (.iconst 1, 1) := by decide +kernel
theorem dX6_tell_28 : decode cX6_tell 28 = .ok (.iadd, 1) := by decide +kernel
theorem dX6_tell_29 : decode cX6_tell 29 = .ok (.putfield 59, 3) := by decide +kernel
theorem dX6_tell_32 : decode cX6_tell 32 = .ok (.aload_n 0, 1) := by decide +kernel
theorem dX6_tell_33 : decode cX6_tell 33 = .ok (.getfield 59, 3) := by decide +kernel
theorem dX6_tell_36 : decode cX6_tell 36 = .ok (.ireturn, 1) := by decide +kernel
theorem dX6_check_0 : decode cX6_check 0 = .ok (.aload_n 0, 1) := by decide +kernel
theorem dX6_check_1 : decode cX6_check 1 = .ok (.getfield 59, 3) := by decide +kernel
theorem dX6_check_4 : decode cX6_check 4 = .ok (.istore_n 2, 1) := by decide +kernel
theorem dX6_check_5 : decode cX6_check 5 = .ok (.aload_n 0, 1) := by decide +kernel
theorem dX6_check_6 : decode cX6_check 6 = .ok (.iconst 0, 1) := by decide +kernel
theorem dX6_check_7 : decode cX6_check 7 = .ok (.putfield 59, 3) := by decide +kernel
theorem dX6_check_10 : decode cX6_check 10 = .ok (.iload_n 1, 1) := by decide +kernel
theorem dX6_check_11 : decode cX6_check 11 = .ok (.iconst 1, 1) := by decide +kernel
theorem dX6_check_12 : decode cX6_check 12 = .ok (.bipush 30, 2) := by decide +kernel
theorem dX6_check_14 : decode cX6_check 14 = .ok (.invokestatic 67, 3) := by decide +kernel
theorem dX6_check_17 : decode cX6_check 17 = .ok (.ifCond .ne 6, 3) := by decide +kernel
theorem dX6_check_20 : decode cX6_check 20 = .ok (.ldc 71, 2) := by decide +kernel
theorem dX6_check_22 : decode cX6_check 22 = .ok (.ireturn, 1) := by decide +kernel
theorem dX6_check_23 : decode cX6_check 23 = .ok (.aload_n 0, 1) := by decide +kernel
theorem dX6_check_24 : decode cX6_check 24 = .ok (.getfield 63, 3) := by decide +kernel
theorem dX6_check_27 : decode cX6_check 27 = .ok (.ifCond .ne 7, 3) := by decide +kernel
theorem dX6_check_30 : decode cX6_check 30 = .ok (.ldc_w 308, 3) := by decide +kernel
theorem dX6_check_33 : decode cX6_check 33 = .ok (.ireturn, 1) := by decide +kernel
theorem dX6_check_34 : decode cX6_check 34 = .ok (.aload_n 0, 1) := by decide +kernel
theorem dX6_check_35 : decode cX6_check 35 = .ok (.getfield 35, 3) := by decide +kernel
theorem dX6_check_38 : decode cX6_check 38 = .ok (.aload_n 0, 1) := by decide +kernel
theorem dX6_check_39 : decode cX6_check 39 = .ok (.getfield 32, 3) := by decide +kernel
theorem dX6_check_42 : decode cX6_check 42 = .ok (.invokevirtual 194, 3) := by decide +kernel
theorem dX6_check_45 : decode cX6_check 45 = .ok (.iconst 0, 1) := by decide +kernel
theorem dX6_check_46 : decode cX6_check 46 = .ok (.istore_n 3, 1) := by decide +kernel
theorem dX6_check_47 : decode cX6_check 47 = .ok (.iconst 0, 1) := by decide +kernel
theorem dX6_check_48 : decode cX6_check 48 = .ok (.istore 4, 2) := by decide +kernel
theorem dX6_check_50 : decode cX6_check 50 = .ok (.iload 4, 2) := by decide +kernel
theorem dX6_check_52 : decode cX6_check 52 = .ok (.iload_n 1, 1) := by decide +kernel
theorem dX6_check_53 : decode cX6_check 53 = .ok (.if_icmp .ge 75, 3) := by decide +kernel
theorem dX6_check_56 : decode cX6_check 56 = .ok (.aload_n 0, 1) := by decide +kernel
theorem dX6_check_57 : decode cX6_check 57 = .ok (.getfield 35, 3) := by decide +kernel
theorem dX6_check_60 : decode cX6_check 60 = .ok (.getfield 162, 3) := by decide +kernel
theorem dX6_check_63 : decode cX6_check 63 = .ok (.sipush 9999, 3) := by decide +kernel
theorem dX6_check_66 : decode cX6_check 66 = .ok (.if_icmp .ge 62, 3) := by decide +kernel
theorem dX6_check_69 : decode cX6_check 69 = .ok (.aload_n 0, 1) := by decide +kernel
theorem dX6_check_70 : decode cX6_check 70 = .ok (.getfield 35, 3) := by decide +kernel
theorem dX6_check_73 : decode cX6_check 73 = .ok (.invokevirtual 198, 3) := by decide +kernel
theorem dX6_check_76 : decode cX6_check 76 = .ok (.aload_n 0, 1) := by decide +kernel
theorem dX6_check_77 : decode cX6_check 77 = .ok (.iload_n 3, 1) := by decide +kernel
theorem dX6_check_78 : decode cX6_check 78 = .ok (.iload_n 2, 1) := by decide +kernel
theorem dX6_check_79 : decode cX6_check 79 = .ok (.aload_n 0, 1) := by decide +kernel
theorem dX6_check_80 : decode cX6_check 80 = .ok (.getfield 35, 3) := by decide +kernel
theorem dX6_check_83 : decode cX6_check 83 = .ok (.getfield 175, 3) := by decide +kernel
theorem dX6_check_86 : decode cX6_check 86 = .ok (.invokevirtual 309, 3) := by decide +kernel
theorem dX6_check_89 : decode cX6_check 89 = .ok (.ifCond .ne 7, 3) := by decide +kernel
theorem dX6_check_92 : decode cX6_check 92 = .ok (.iconst 1, 1) := by decide +kernel
theorem dX6_check_93 : decode cX6_check 93 = .ok (.iload_n 3, 1) := by decide +kernel
theorem dX6_check_94 : decode cX6_check 94 = .ok (.iadd, 1) := by decide +kernel
theorem dX6_check_95 : decode cX6_check 95 = .ok (.ireturn, 1) := by decide +kernel
theorem dX6_check_96 : decode cX6_check 96 = .ok (.iinc 3 1, 3) := by decide +kernel
theorem dX6_check_99 : decode cX6_check 99 = .ok (.aload_n 0, 1) := by decide +kernel
theorem dX6_check_100 : decode cX6_check 100 = .ok (.iload_n 3, 1) := by decide +kernel
theorem dX6_check_101 : decode cX6_check 101 = .ok (.iload_n 2, 1) := by decide +kernel
theorem dX6_check_102 : decode cX6_check 102 = .ok (.aload_n 0, 1) := by decide +kernel
theorem dX6_check_103 : decode cX6_check 103 = .ok (.getfield 35, 3) := by decide +kernel
theorem dX6_check_106 : decode cX6_check 106 = .ok (.invokevirtual 181, 3) := by decide +kernel
theorem dX6_check_109 : decode cX6_check 109 = .ok (.invokevirtual 309, 3) := by decide +kernel
theorem dX6_check_112 : decode cX6_check 112 = .ok (.ifCond .ne 7, 3) := by decide +kernel
theorem dX6_check_115 : decode cX6_check 115 = .ok (.iconst 1, 1) := by decide +kernel
theorem dX6_check_116 : decode cX6_check 116 = .ok (.iload_n 3, 1) := by decide +kernel
theorem dX6_check_117 : decode cX6_check 117 = .ok (.iadd, 1) := by decide +kernel
theorem dX6_check_118 : decode cX6_check 118 = .ok (.ireturn, 1) := by decide +kernel
theorem dX6_check_119 : decode cX6_check 119 = .ok (.iinc 3 1, 3) := by decide +kernel
theorem dX6_check_122 : decode cX6_check 122 = .ok (.iinc 4 1, 3) := by decide +kernel
theorem dX6_check_125 : decode cX6_check 125 = .ok (.goto (-75), 3) := by decide +kernel
theorem dX6_check_128 : decode cX6_check 128 = .ok (.iload_n 3, 1) := by decide +kernel
theorem dX6_check_129 : decode cX6_check 129 = .ok (.iload_n 2, 1) := by decide +kernel
theorem dX6_check_130 : decode cX6_check 130 = .ok (.if_icmp .ge 9, 3) := by decide +kernel
theorem dX6_check_133 : decode cX6_check 133 = .ok (.iconst 1, 1) := by decide +kernel
theorem dX6_check_134 : decode cX6_check 134 = .ok (.iload_n 3, 1) := by decide +kernel
theorem dX6_check_135 : decode cX6_check 135 = .ok (.iadd, 1) := by decide +kernel
theorem dX6_check_136 : decode cX6_check 136 = .ok (.goto 4, 3) := by decide +kernel
theorem dX6_check_139 : decode cX6_check 139 = .ok (.iconst 0, 1) := by decide +kernel
theorem dX6_check_140 : decode cX6_check 140 = .ok (.ireturn, 1) := by decide +kernel
theorem dX6_keep_0 : decode cX6_keep 0 = .ok (.aload_n 0, 1) := by decide +kernel
theorem dX6_keep_1 : decode cX6_keep 1 = .ok (.getfield 32, 3) := by decide +kernel
theorem dX6_keep_4 : decode cX6_keep 4 = .ok (.aload_n 0, 1) := by decide +kernel
theorem dX6_keep_5 : decode cX6_keep 5 = .ok (.getfield 28, 3) := by decide +kernel
theorem dX6_keep_8 : decode cX6_keep 8 = .ok (.invokevirtual 194, 3) := by decide +kernel
theorem dX6_keep_11 : decode cX6_keep 11 = .ok (.aload_n 0, 1) := by decide +kernel
theorem dX6_keep_12 : decode cX6_keep 12 = .ok (.iconst 1, 1) := by decide +kernel
theorem dX6_keep_13 : decode cX6_keep 13 = .ok (.putfield 63, 3) := by decide +kernel
theorem dX6_keep_16 : decode cX6_keep 16 = .ok (.aload_n 0, 1) := by decide +kernel
theorem dX6_keep_17 : decode cX6_keep 17 = .ok (.getfield 28, 3) := by decide +kernel
theorem dX6_keep_20 : decode cX6_keep 20 = .ok (.getfield 72, 3) := by decide +kernel
theorem dX6_keep_23 : decode cX6_keep 23 = .ok (.ireturn, 1) := by decide +kernel
theorem dX6_back_0 : decode cX6_back 0 = .ok (.aload_n 0, 1) := by decide +kernel
theorem dX6_back_1 : decode cX6_back 1 = .ok (.getfield 63, 3) := by decide +kernel
theorem dX6_back_4 : decode cX6_back 4 = .ok (.ifCond .ne 7, 3) := by decide +kernel
theorem dX6_back_7 : decode cX6_back 7 = .ok (.ldc_w 308, 3) := by decide +kernel
theorem dX6_back_10 : decode cX6_back 10 = .ok (.ireturn, 1) := by decide +kernel
theorem dX6_back_11 : decode cX6_back 11 = .ok (.aload_n 0, 1) := by decide +kernel
theorem dX6_back_12 : decode cX6_back 12 = .ok (.getfield 28, 3) := by decide +kernel
theorem dX6_back_15 : decode cX6_back 15 = .ok (.aload_n 0, 1) := by decide +kernel
theorem dX6_back_16 : decode cX6_back 16 = .ok (.getfield 32, 3) := by decide +kernel
theorem dX6_back_19 : decode cX6_back 19 = .ok (.invokevirtual 194, 3) := by decide +kernel
theorem dX6_back_22 : decode cX6_back 22 = .ok (.aload_n 0, 1) := by decide +kernel
theorem dX6_back_23 : decode cX6_back 23 = .ok (.getfield 28, 3) := by decide +kernel
theorem dX6_back_26 : decode cX6_back 26 = .ok (.getfield 72, 3) := by decide +kernel
theorem dX6_back_29 : decode cX6_back 29 = .ok (.ireturn, 1) := by decide +kernel
theorem dX6_count_0 : decode cX6_count 0 = .ok (.iload_n 1, 1) := by decide +kernel
theorem dX6_count_1 : decode cX6_count 1 = .ok (.tableswitch 132 0 9 #[55, 63, 71, 79, 87, 95, 103, 111, 116, 124], 55) := by decide +kernel
theorem dX6_count_56 : decode cX6_count 56 = .ok (.aload_n 0, 1) := by decide +kernel
theorem dX6_count_57 : decode cX6_count 57 = .ok (.getfield 28, 3) := by decide +kernel
theorem dX6_count_60 : decode cX6_count 60 = .ok (.getfield 72, 3) := by decide +kernel
theorem dX6_count_63 : decode cX6_count 63 = .ok (.ireturn, 1) := by decide +kernel
theorem dX6_count_64 : decode cX6_count 64 = .ok (.aload_n 0, 1) := by decide +kernel
theorem dX6_count_65 : decode cX6_count 65 = .ok (.getfield 28, 3) := by decide +kernel
theorem dX6_count_68 : decode cX6_count 68 = .ok (.getfield 162, 3) := by decide +kernel
theorem dX6_count_71 : decode cX6_count 71 = .ok (.ireturn, 1) := by decide +kernel
theorem dX6_count_72 : decode cX6_count 72 = .ok (.aload_n 0, 1) := by decide +kernel
theorem dX6_count_73 : decode cX6_count 73 = .ok (.getfield 28, 3) := by decide +kernel
theorem dX6_count_76 : decode cX6_count 76 = .ok (.getfield 145, 3) := by decide +kernel
theorem dX6_count_79 : decode cX6_count 79 = .ok (.ireturn, 1) := by decide +kernel
theorem dX6_count_80 : decode cX6_count 80 = .ok (.aload_n 0, 1) := by decide +kernel
theorem dX6_count_81 : decode cX6_count 81 = .ok (.getfield 28, 3) := by decide +kernel
theorem dX6_count_84 : decode cX6_count 84 = .ok (.getfield 136, 3) := by decide +kernel
theorem dX6_count_87 : decode cX6_count 87 = .ok (.ireturn, 1) := by decide +kernel
theorem dX6_count_88 : decode cX6_count 88 = .ok (.aload_n 0, 1) := by decide +kernel
theorem dX6_count_89 : decode cX6_count 89 = .ok (.getfield 28, 3) := by decide +kernel
theorem dX6_count_92 : decode cX6_count 92 = .ok (.getfield 139, 3) := by decide +kernel
theorem dX6_count_95 : decode cX6_count 95 = .ok (.ireturn, 1) := by decide +kernel
theorem dX6_count_96 : decode cX6_count 96 = .ok (.aload_n 0, 1) := by decide +kernel
theorem dX6_count_97 : decode cX6_count 97 = .ok (.getfield 28, 3) := by decide +kernel
theorem dX6_count_100 : decode cX6_count 100 = .ok (.getfield 142, 3) := by decide +kernel
theorem dX6_count_103 : decode cX6_count 103 = .ok (.ireturn, 1) := by decide +kernel
theorem dX6_count_104 : decode cX6_count 104 = .ok (.aload_n 0, 1) := by decide +kernel
theorem dX6_count_105 : decode cX6_count 105 = .ok (.getfield 28, 3) := by decide +kernel
theorem dX6_count_108 : decode cX6_count 108 = .ok (.getfield 216, 3) := by decide +kernel
theorem dX6_count_111 : decode cX6_count 111 = .ok (.ireturn, 1) := by decide +kernel
theorem dX6_count_112 : decode cX6_count 112 = .ok (.aload_n 0, 1) := by decide +kernel
theorem dX6_count_113 : decode cX6_count 113 = .ok (.getfield 59, 3) := by decide +kernel
theorem dX6_count_116 : decode cX6_count 116 = .ok (.ireturn, 1) := by decide +kernel
theorem dX6_count_117 : decode cX6_count 117 = .ok (.aload_n 0, 1) := by decide +kernel
theorem dX6_count_118 : decode cX6_count 118 = .ok (.getfield 19, 3) := by decide +kernel
theorem dX6_count_121 : decode cX6_count 121 = .ok (.getfield 226, 3) := by decide +kernel
theorem dX6_count_124 : decode cX6_count 124 = .ok (.ireturn, 1) := by decide +kernel
theorem dX6_count_125 : decode cX6_count 125 = .ok (.aload_n 0, 1) := by decide +kernel
theorem dX6_count_126 : decode cX6_count 126 = .ok (.getfield 28, 3) := by decide +kernel
theorem dX6_count_129 : decode cX6_count 129 = .ok (.getfield 159, 3) := by decide +kernel
theorem dX6_count_132 : decode cX6_count 132 = .ok (.ireturn, 1) := by decide +kernel
theorem dX6_count_133 : decode cX6_count 133 = .ok (.ldc 71, 2) := by decide +kernel
theorem dX6_count_135 : decode cX6_count 135 = .ok (.ireturn, 1) := by decide +kernel
theorem dX6_isTold_0 : decode cX6_isTold 0 = .ok (.iload_n 1, 1) := by decide +kernel
theorem dX6_isTold_1 : decode cX6_isTold 1 = .ok (.iload_n 2, 1) := by decide +kernel
theorem dX6_isTold_2 : decode cX6_isTold 2 = .ok (.if_icmp .ge 23, 3) := by decide +kernel
theorem dX6_isTold_5 : decode cX6_isTold 5 = .ok (.iload_n 1, 1) := by decide +kernel
theorem dX6_isTold_6 : decode cX6_isTold 6 = .ok (.bipush 60, 2) := by decide +kernel
theorem dX6_isTold_8 : decode cX6_isTold 8 = .ok (.if_icmp .ge 17, 3) := by decide +kernel
theorem dX6_isTold_11 : decode cX6_isTold 11 = .ok (.aload_n 0, 1) := by decide +kernel
theorem dX6_isTold_12 : decode cX6_isTold 12 = .ok (.getfield 52, 3) := by decide +kernel
theorem dX6_isTold_15 : decode cX6_isTold 15 = .ok (.iload_n 1, 1) := by decide +kernel
theorem dX6_isTold_16 : decode cX6_isTold 16 = .ok (.iaload, 1) := by decide +kernel
theorem dX6_isTold_17 : decode cX6_isTold 17 = .ok (.iload_n 3, 1) := by decide +kernel
theorem dX6_isTold_18 : decode cX6_isTold 18 = .ok (.if_icmp .ne 7, 3) := by decide +kernel
theorem dX6_isTold_21 : decode cX6_isTold 21 = .ok (.iconst 1, 1) := by decide +kernel
theorem dX6_isTold_22 : decode cX6_isTold 22 = .ok (.goto 4, 3) := by decide +kernel
theorem dX6_isTold_25 : decode cX6_isTold 25 = .ok (.iconst 0, 1) := by decide +kernel
theorem dX6_isTold_26 : decode cX6_isTold 26 = .ok (.ireturn, 1) := by decide +kernel
theorem dX6_waysWithOneMore_0 : decode cX6_waysWithOneMore 0 = .ok (.iconst 0, 1) := by decide +kernel
theorem dX6_waysWithOneMore_1 : decode cX6_waysWithOneMore 1 = .ok (.istore_n 3, 1) := by decide +kernel
theorem dX6_waysWithOneMore_2 : decode cX6_waysWithOneMore 2 = .ok (.iconst 0, 1) := by decide +kernel
theorem dX6_waysWithOneMore_3 : decode cX6_waysWithOneMore 3 = .ok (.istore 4, 2) := by decide +kernel
theorem dX6_waysWithOneMore_5 : decode cX6_waysWithOneMore 5 = .ok (.iload 4, 2) := by decide +kernel
theorem dX6_waysWithOneMore_7 : decode cX6_waysWithOneMore 7 = .ok (.iload_n 1, 1) := by decide +kernel
theorem dX6_waysWithOneMore_8 : decode cX6_waysWithOneMore 8 = .ok (.if_icmp .gt 31, 3) := by decide +kernel
theorem dX6_waysWithOneMore_11 : decode cX6_waysWithOneMore 11 = .ok (.iload 4, 2) := by decide +kernel
theorem dX6_waysWithOneMore_13 : decode cX6_waysWithOneMore 13 = .ok (.iconst 3, 1) := by decide +kernel
theorem dX6_waysWithOneMore_14 : decode cX6_waysWithOneMore 14 = .ok (.imul, 1) := by decide +kernel
theorem dX6_waysWithOneMore_15 : decode cX6_waysWithOneMore 15 = .ok (.iload_n 2, 1) := by decide +kernel
theorem dX6_waysWithOneMore_16 : decode cX6_waysWithOneMore 16 = .ok (.iconst 2, 1) := by decide +kernel
theorem dX6_waysWithOneMore_17 : decode cX6_waysWithOneMore 17 = .ok (.imul, 1) := by decide +kernel
theorem dX6_waysWithOneMore_18 : decode cX6_waysWithOneMore 18 = .ok (.if_icmp .ge 21, 3) := by decide +kernel
theorem dX6_waysWithOneMore_21 : decode cX6_waysWithOneMore 21 = .ok (.iload_n 3, 1) := by decide +kernel
theorem dX6_waysWithOneMore_22 : decode cX6_waysWithOneMore 22 = .ok (.aload_n 0, 1) := by decide +kernel
theorem dX6_waysWithOneMore_23 : decode cX6_waysWithOneMore 23 = .ok (.getfield 56, 3) := by decide +kernel
theorem dX6_waysWithOneMore_26 : decode cX6_waysWithOneMore 26 = .ok (.iload_n 1, 1) := by decide +kernel
theorem dX6_waysWithOneMore_27 : decode cX6_waysWithOneMore 27 = .ok (.iload 4, 2) := by decide +kernel
theorem dX6_waysWithOneMore_29 : decode cX6_waysWithOneMore 29 = .ok (.isub, 1) := by decide +kernel
theorem dX6_waysWithOneMore_30 : decode cX6_waysWithOneMore 30 = .ok (.iaload, 1) := by decide +kernel
theorem dX6_waysWithOneMore_31 : decode cX6_waysWithOneMore 31 = .ok (.iadd, 1) := by decide +kernel
theorem dX6_waysWithOneMore_32 : decode cX6_waysWithOneMore 32 = .ok (.istore_n 3, 1) := by decide +kernel
theorem dX6_waysWithOneMore_33 : decode cX6_waysWithOneMore 33 = .ok (.iinc 4 1, 3) := by decide +kernel
theorem dX6_waysWithOneMore_36 : decode cX6_waysWithOneMore 36 = .ok (.goto (-31), 3) := by decide +kernel
theorem dX6_waysWithOneMore_39 : decode cX6_waysWithOneMore 39 = .ok (.iload_n 3, 1) := by decide +kernel
theorem dX6_waysWithOneMore_40 : decode cX6_waysWithOneMore 40 = .ok (.ireturn, 1) := by decide +kernel
theorem dX6_differenceWith_0 : decode cX6_differenceWith 0 = .ok (.aload_n 0, 1) := by decide +kernel
theorem dX6_differenceWith_1 : decode cX6_differenceWith 1 = .ok (.getfield 35, 3) := by decide +kernel
theorem dX6_differenceWith_4 : decode cX6_differenceWith 4 = .ok (.aload_n 0, 1) := by decide +kernel
theorem dX6_differenceWith_5 : decode cX6_differenceWith 5 = .ok (.getfield 28, 3) := by decide +kernel
theorem dX6_differenceWith_8 : decode cX6_differenceWith 8 = .ok (.invokevirtual 194, 3) := by decide +kernel
theorem dX6_differenceWith_11 : decode cX6_differenceWith 11 = .ok (.aload_n 0, 1) := by decide +kernel
theorem dX6_differenceWith_12 : decode cX6_differenceWith 12 = .ok (.getfield 35, 3) := by decide +kernel
theorem dX6_differenceWith_15 : decode cX6_differenceWith 15 = .ok (.iload_n 1, 1) := by decide +kernel
theorem dX6_differenceWith_16 : decode cX6_differenceWith 16 = .ok (.putfield 142, 3) := by decide +kernel
theorem dX6_differenceWith_19 : decode cX6_differenceWith 19 = .ok (.iconst 0, 1) := by decide +kernel
theorem dX6_differenceWith_20 : decode cX6_differenceWith 20 = .ok (.istore_n 3, 1) := by decide +kernel
theorem dX6_differenceWith_21 : decode cX6_differenceWith 21 = .ok (.iconst 0, 1) := by decide +kernel
theorem dX6_differenceWith_22 : decode cX6_differenceWith 22 = .ok (.istore 4, 2) := by decide +kernel
theorem dX6_differenceWith_24 : decode cX6_differenceWith 24 = .ok (.iload 4, 2) := by decide +kernel
theorem dX6_differenceWith_26 : decode cX6_differenceWith 26 = .ok (.aload_n 2, 1) := by decide +kernel
theorem dX6_differenceWith_27 : decode cX6_differenceWith 27 = .ok (.getfield 268, 3) := by decide +kernel
theorem dX6_differenceWith_30 : decode cX6_differenceWith 30 = .ok (.if_icmp .ge 46, 3) := by decide +kernel
theorem dX6_differenceWith_33 : decode cX6_differenceWith 33 = .ok (.aload_n 0, 1) := by decide +kernel
theorem dX6_differenceWith_34 : decode cX6_differenceWith 34 = .ok (.getfield 35, 3) := by decide +kernel
theorem dX6_differenceWith_37 : decode cX6_differenceWith 37 = .ok (.invokevirtual 198, 3) := by decide +kernel
theorem dX6_differenceWith_40 : decode cX6_differenceWith 40 = .ok (.aload_n 2, 1) := by decide +kernel
theorem dX6_differenceWith_41 : decode cX6_differenceWith 41 = .ok (.iload 4, 2) := by decide +kernel
theorem dX6_differenceWith_43 : decode cX6_differenceWith 43 = .ok (.invokevirtual 271, 3) := by decide +kernel
theorem dX6_differenceWith_46 : decode cX6_differenceWith 46 = .ok (.ifCond .eq 24, 3) := by decide +kernel
theorem dX6_differenceWith_49 : decode cX6_differenceWith 49 = .ok (.iload_n 3, 1) := by decide +kernel
theorem dX6_differenceWith_50 : decode cX6_differenceWith 50 = .ok (.aload_n 0, 1) := by decide +kernel
theorem dX6_differenceWith_51 : decode cX6_differenceWith 51 = .ok (.getfield 35, 3) := by decide +kernel
theorem dX6_differenceWith_54 : decode cX6_differenceWith 54 = .ok (.getfield 175, 3) := by decide +kernel
theorem dX6_differenceWith_57 : decode cX6_differenceWith 57 = .ok (.aload_n 2, 1) := by decide +kernel
theorem dX6_differenceWith_58 : decode cX6_differenceWith 58 = .ok (.getfield 263, 3) := by decide +kernel
theorem dX6_differenceWith_61 : decode cX6_differenceWith 61 = .ok (.iload 4, 2) := by decide +kernel
theorem dX6_differenceWith_63 : decode cX6_differenceWith 63 = .ok (.iaload, 1) := by decide +kernel
theorem dX6_differenceWith_64 : decode cX6_differenceWith 64 = .ok (.isub, 1) := by decide +kernel
theorem dX6_differenceWith_65 : decode cX6_differenceWith 65 = .ok (.invokestatic 312, 3) := by decide +kernel
theorem dX6_differenceWith_68 : decode cX6_differenceWith 68 = .ok (.iadd, 1) := by decide +kernel
theorem dX6_differenceWith_69 : decode cX6_differenceWith 69 = .ok (.istore_n 3, 1) := by decide +kernel
theorem dX6_differenceWith_70 : decode cX6_differenceWith 70 = .ok (.iinc 4 1, 3) := by decide +kernel
theorem dX6_differenceWith_73 : decode cX6_differenceWith 73 = .ok (.goto (-49), 3) := by decide +kernel
theorem dX6_differenceWith_76 : decode cX6_differenceWith 76 = .ok (.iload_n 3, 1) := by decide +kernel
theorem dX6_differenceWith_77 : decode cX6_differenceWith 77 = .ok (.ireturn, 1) := by decide +kernel
theorem dX6_put_0 : decode cX6_put 0 = .ok (.iload_n 2, 1) := by decide +kernel
theorem dX6_put_1 : decode cX6_put 1 = .ok (.iconst 0, 1) := by decide +kernel
theorem dX6_put_2 : decode cX6_put 2 = .ok (.iload_n 3, 1) := by decide +kernel
theorem dX6_put_3 : decode cX6_put 3 = .ok (.invokestatic 67, 3) := by decide +kernel
theorem dX6_put_6 : decode cX6_put 6 = .ok (.ifCond .ne 6, 3) := by decide +kernel
theorem dX6_put_9 : decode cX6_put 9 = .ok (.ldc 71, 2) := by decide +kernel
theorem dX6_put_11 : decode cX6_put 11 = .ok (.ireturn, 1) := by decide +kernel
theorem dX6_put_12 : decode cX6_put 12 = .ok (.aload_n 0, 1) := by decide +kernel
theorem dX6_put_13 : decode cX6_put 13 = .ok (.iload_n 1, 1) := by decide +kernel
theorem dX6_put_14 : decode cX6_put 14 = .ok (.iaload, 1) := by decide +kernel
theorem dX6_put_15 : decode cX6_put 15 = .ok (.istore 4, 2) := by decide +kernel
theorem dX6_put_17 : decode cX6_put 17 = .ok (.aload_n 0, 1) := by decide +kernel
theorem dX6_put_18 : decode cX6_put 18 = .ok (.iload_n 1, 1) := by decide +kernel
theorem dX6_put_19 : decode cX6_put 19 = .ok (.iload_n 2, 1) := by decide +kernel
theorem dX6_put_20 : decode cX6_put 20 = .ok (.iastore, 1) := by decide +kernel
theorem dX6_put_21 : decode cX6_put 21 = .ok (.iload 4, 2) := by decide +kernel
theorem dX6_put_23 : decode cX6_put 23 = .ok (.ireturn, 1) := by decide +kernel
theorem dX6_isWithin_0 : decode cX6_isWithin 0 = .ok (.iload_n 0, 1) := by decide +kernel
theorem dX6_isWithin_1 : decode cX6_isWithin 1 = .ok (.iload_n 1, 1) := by decide +kernel
theorem dX6_isWithin_2 : decode cX6_isWithin 2 = .ok (.if_icmp .lt 12, 3) := by decide +kernel
theorem dX6_isWithin_5 : decode cX6_isWithin 5 = .ok (.iload_n 0, 1) := by decide +kernel
theorem dX6_isWithin_6 : decode cX6_isWithin 6 = .ok (.iload_n 2, 1) := by decide +kernel
theorem dX6_isWithin_7 : decode cX6_isWithin 7 = .ok (.if_icmp .gt 7, 3) := by decide +kernel
theorem dX6_isWithin_10 : decode cX6_isWithin 10 = .ok (.iconst 1, 1) := by decide +kernel
theorem dX6_isWithin_11 : decode cX6_isWithin 11 = .ok (.goto 4, 3) := by decide +kernel
theorem dX6_isWithin_14 : decode cX6_isWithin 14 = .ok (.iconst 0, 1) := by decide +kernel
theorem dX6_isWithin_15 : decode cX6_isWithin 15 = .ok (.ireturn, 1) := by decide +kernel
theorem dX6_held_0 : decode cX6_held 0 = .ok (.iload_n 1, 1) := by decide +kernel
theorem dX6_held_1 : decode cX6_held 1 = .ok (.iload_n 2, 1) := by decide +kernel
theorem dX6_held_2 : decode cX6_held 2 = .ok (.iload_n 0, 1) := by decide +kernel
theorem dX6_held_3 : decode cX6_held 3 = .ok (.invokestatic 151, 3) := by decide +kernel
theorem dX6_held_6 : decode cX6_held 6 = .ok (.invokestatic 315, 3) := by decide +kernel
theorem dX6_held_9 : decode cX6_held 9 = .ok (.ireturn, 1) := by decide +kernel
theorem dX6_isSheet_0 : decode cX6_isSheet 0 = .ok (.iload_n 0, 1) := by decide +kernel
theorem dX6_isSheet_1 : decode cX6_isSheet 1 = .ok (.iconst 0, 1) := by decide +kernel
theorem dX6_isSheet_2 : decode cX6_isSheet 2 = .ok (.iconst 3, 1) := by decide +kernel
theorem dX6_isSheet_3 : decode cX6_isSheet 3 = .ok (.invokestatic 67, 3) := by decide +kernel
theorem dX6_isSheet_6 : decode cX6_isSheet 6 = .ok (.ireturn, 1) := by decide +kernel
theorem dX6_isSlot_0 : decode cX6_isSlot 0 = .ok (.iload_n 0, 1) := by decide +kernel
theorem dX6_isSlot_1 : decode cX6_isSlot 1 = .ok (.iconst 0, 1) := by decide +kernel
theorem dX6_isSlot_2 : decode cX6_isSlot 2 = .ok (.iconst 4, 1) := by decide +kernel
theorem dX6_isSlot_3 : decode cX6_isSlot 3 = .ok (.invokestatic 67, 3) := by decide +kernel
theorem dX6_isSlot_6 : decode cX6_isSlot 6 = .ok (.ireturn, 1) := by decide +kernel
theorem dX6_isOfKind_0 : decode cX6_isOfKind 0 = .ok (.iload_n 0, 1) := by decide +kernel
theorem dX6_isOfKind_1 : decode cX6_isOfKind 1 = .ok (.istore_n 2, 1) := by decide +kernel
theorem dX6_isOfKind_2 : decode cX6_isOfKind 2 = .ok (.iconst 0, 1) := by decide +kernel
theorem dX6_isOfKind_3 : decode cX6_isOfKind 3 = .ok (.istore_n 3, 1) := by decide +kernel
theorem dX6_isOfKind_4 : decode cX6_isOfKind 4 = .ok (.iload_n 3, 1) := by decide +kernel
theorem dX6_isOfKind_5 : decode cX6_isOfKind 5 = .ok (.bipush 6, 2) := by decide +kernel
theorem dX6_isOfKind_7 : decode cX6_isOfKind 7 = .ok (.if_icmp .ge 31, 3) := by decide +kernel
theorem dX6_isOfKind_10 : decode cX6_isOfKind 10 = .ok (.iload_n 2, 1) := by decide +kernel
theorem dX6_isOfKind_11 : decode cX6_isOfKind 11 = .ok (.iconst 0, 1) := by decide +kernel
theorem dX6_isOfKind_12 : decode cX6_isOfKind 12 = .ok (.iconst 5, 1) := by decide +kernel
theorem dX6_isOfKind_13 : decode cX6_isOfKind 13 = .ok (.invokestatic 67, 3) := by decide +kernel
theorem dX6_isOfKind_16 : decode cX6_isOfKind 16 = .ok (.ifCond .eq 22, 3) := by decide +kernel
theorem dX6_isOfKind_19 : decode cX6_isOfKind 19 = .ok (.iload_n 2, 1) := by decide +kernel
theorem dX6_isOfKind_20 : decode cX6_isOfKind 20 = .ok (.iload_n 1, 1) := by decide +kernel
theorem dX6_isOfKind_21 : decode cX6_isOfKind 21 = .ok (.if_icmp .ne 5, 3) := by decide +kernel
theorem dX6_isOfKind_24 : decode cX6_isOfKind 24 = .ok (.iconst 1, 1) := by decide +kernel
theorem dX6_isOfKind_25 : decode cX6_isOfKind 25 = .ok (.ireturn, 1) := by decide +kernel
theorem dX6_isOfKind_26 : decode cX6_isOfKind 26 = .ok (.getstatic 318, 3) := by decide +kernel
theorem dX6_isOfKind_29 : decode cX6_isOfKind 29 = .ok (.iload_n 2, 1) := by decide +kernel
theorem dX6_isOfKind_30 : decode cX6_isOfKind 30 = .ok (.iaload, 1) := by decide +kernel
theorem dX6_isOfKind_31 : decode cX6_isOfKind 31 = .ok (.istore_n 2, 1) := by decide +kernel
theorem dX6_isOfKind_32 : decode cX6_isOfKind 32 = .ok (.iinc 3 1, 3) := by decide +kernel
theorem dX6_isOfKind_35 : decode cX6_isOfKind 35 = .ok (.goto (-31), 3) := by decide +kernel
theorem dX6_isOfKind_38 : decode cX6_isOfKind 38 = .ok (.iconst 0, 1) := by decide +kernel
theorem dX6_isOfKind_39 : decode cX6_isOfKind 39 = .ok (.ireturn, 1) := by decide +kernel
theorem dX6_weight_0 : decode cX6_weight 0 = .ok (.iload_n 0, 1) := by decide +kernel
theorem dX6_weight_1 : decode cX6_weight 1 = .ok (.iconst 5, 1) := by decide +kernel
theorem dX6_weight_2 : decode cX6_weight 2 = .ok (.if_icmp .ne 7, 3) := by decide +kernel
theorem dX6_weight_5 : decode cX6_weight 5 = .ok (.iconst 2, 1) := by decide +kernel
theorem dX6_weight_6 : decode cX6_weight 6 = .ok (.goto 4, 3) := by decide +kernel
theorem dX6_weight_9 : decode cX6_weight 9 = .ok (.iconst 1, 1) := by decide +kernel
theorem dX6_weight_10 : decode cX6_weight 10 = .ok (.ireturn, 1) := by decide +kernel
theorem dX6_worth_0 : decode cX6_worth 0 = .ok (.iload_n 0, 1) := by decide +kernel
theorem dX6_worth_1 : decode cX6_worth 1 = .ok (.tableswitch 62 1 5 #[35, 47, 40, 52, 60], 35) := by decide +kernel
theorem dX6_worth_36 : decode cX6_worth 36 = .ok (.iload_n 1, 1) := by decide +kernel
theorem dX6_worth_37 : decode cX6_worth 37 = .ok (.bipush 6, 2) := by decide +kernel
theorem dX6_worth_39 : decode cX6_worth 39 = .ok (.iadd, 1) := by decide +kernel
theorem dX6_worth_40 : decode cX6_worth 40 = .ok (.ireturn, 1) := by decide +kernel
theorem dX6_worth_41 : decode cX6_worth 41 = .ok (.iconst 2, 1) := by decide +kernel
theorem dX6_worth_42 : decode cX6_worth 42 = .ok (.iload_n 1, 1) := by decide +kernel
theorem dX6_worth_43 : decode cX6_worth 43 = .ok (.bipush 6, 2) := by decide +kernel
theorem dX6_worth_45 : decode cX6_worth 45 = .ok (.iadd, 1) := by decide +kernel
theorem dX6_worth_46 : decode cX6_worth 46 = .ok (.imul, 1) := by decide +kernel
theorem dX6_worth_47 : decode cX6_worth 47 = .ok (.ireturn, 1) := by decide +kernel
theorem dX6_worth_48 : decode cX6_worth 48 = .ok (.bipush 99, 2) := by decide +kernel
theorem dX6_worth_50 : decode cX6_worth 50 = .ok (.iload_n 1, 1) := by decide +kernel
theorem dX6_worth_51 : decode cX6_worth 51 = .ok (.isub, 1) := by decide +kernel
theorem dX6_worth_52 : decode cX6_worth 52 = .ok (.ireturn, 1) := by decide +kernel
theorem dX6_worth_53 : decode cX6_worth 53 = .ok (.bipush 99, 2) := by decide +kernel
theorem dX6_worth_55 : decode cX6_worth 55 = .ok (.iload_n 1, 1) := by decide +kernel
theorem dX6_worth_56 : decode cX6_worth 56 = .ok (.isub, 1) := by decide +kernel
theorem dX6_worth_57 : decode cX6_worth 57 = .ok (.bipush 8, 2) := by decide +kernel
theorem dX6_worth_59 : decode cX6_worth 59 = .ok (.isub, 1) := by decide +kernel
theorem dX6_worth_60 : decode cX6_worth 60 = .ok (.ireturn, 1) := by decide +kernel
theorem dX6_worth_61 : decode cX6_worth 61 = .ok (.iconst 2, 1) := by decide +kernel
theorem dX6_worth_62 : decode cX6_worth 62 = .ok (.ireturn, 1) := by decide +kernel
theorem dX6_worth_63 : decode cX6_worth 63 = .ok (.iload_n 1, 1) := by decide +kernel
theorem dX6_worth_64 : decode cX6_worth 64 = .ok (.ireturn, 1) := by decide +kernel
theorem dJ11_isValidCodePoint_9a6ad_0 : decode cJ11_isValidCodePoint_9a6ad 0 = .ok (.iload_n 0, 1) := by decide +kernel
theorem dJ11_isValidCodePoint_9a6ad_1 : decode cJ11_isValidCodePoint_9a6ad 1 = .ok (.bipush 16, 2) := by decide +kernel
theorem dJ11_isValidCodePoint_9a6ad_3 : decode cJ11_isValidCodePoint_9a6ad 3 = .ok (.iushr, 1) := by decide +kernel
theorem dJ11_isValidCodePoint_9a6ad_4 : decode cJ11_isValidCodePoint_9a6ad 4 = .ok (.istore_n 1, 1) := by decide +kernel
theorem dJ11_isValidCodePoint_9a6ad_5 : decode cJ11_isValidCodePoint_9a6ad 5 = .ok (.iload_n 1, 1) := by decide +kernel
theorem dJ11_isValidCodePoint_9a6ad_6 : decode cJ11_isValidCodePoint_9a6ad 6 = .ok (.bipush 17, 2) := by decide +kernel
theorem dJ11_isValidCodePoint_9a6ad_8 : decode cJ11_isValidCodePoint_9a6ad 8 = .ok (.if_icmp .ge 7, 3) := by decide +kernel
theorem dJ11_isValidCodePoint_9a6ad_11 : decode cJ11_isValidCodePoint_9a6ad 11 = .ok (.iconst 1, 1) := by decide +kernel
theorem dJ11_isValidCodePoint_9a6ad_12 : decode cJ11_isValidCodePoint_9a6ad 12 = .ok (.goto 4, 3) := by decide +kernel
theorem dJ11_isValidCodePoint_9a6ad_15 : decode cJ11_isValidCodePoint_9a6ad 15 = .ok (.iconst 0, 1) := by decide +kernel
theorem dJ11_isValidCodePoint_9a6ad_16 : decode cJ11_isValidCodePoint_9a6ad 16 = .ok (.ireturn, 1) := by decide +kernel
theorem dJ11_highSurrogate_5068e_0 : decode cJ11_highSurrogate_5068e 0 = .ok (.iload_n 0, 1) := by decide +kernel
theorem dJ11_highSurrogate_5068e_1 : decode cJ11_highSurrogate_5068e 1 = .ok (.bipush 10, 2) := by decide +kernel
theorem dJ11_highSurrogate_5068e_3 : decode cJ11_highSurrogate_5068e 3 = .ok (.iushr, 1) := by decide +kernel
theorem dJ11_highSurrogate_5068e_4 : decode cJ11_highSurrogate_5068e 4 = .ok (.ldc 110, 2) := by decide +kernel
theorem dJ11_highSurrogate_5068e_6 : decode cJ11_highSurrogate_5068e 6 = .ok (.iadd, 1) := by decide +kernel
theorem dJ11_highSurrogate_5068e_7 : decode cJ11_highSurrogate_5068e 7 = .ok (.i2c, 1) := by decide +kernel
theorem dJ11_highSurrogate_5068e_8 : decode cJ11_highSurrogate_5068e 8 = .ok (.ireturn, 1) := by decide +kernel
theorem dJ11_lowSurrogate_5068e_0 : decode cJ11_lowSurrogate_5068e 0 = .ok (.iload_n 0, 1) := by decide +kernel
theorem dJ11_lowSurrogate_5068e_1 : decode cJ11_lowSurrogate_5068e 1 = .ok (.sipush 1023, 3) := by decide +kernel
theorem dJ11_lowSurrogate_5068e_4 : decode cJ11_lowSurrogate_5068e 4 = .ok (.iand, 1) := by decide +kernel
theorem dJ11_lowSurrogate_5068e_5 : decode cJ11_lowSurrogate_5068e 5 = .ok (.ldc 76, 2) := by decide +kernel
theorem dJ11_lowSurrogate_5068e_7 : decode cJ11_lowSurrogate_5068e 7 = .ok (.iadd, 1) := by decide +kernel
theorem dJ11_lowSurrogate_5068e_8 : decode cJ11_lowSurrogate_5068e 8 = .ok (.i2c, 1) := by decide +kernel
theorem dJ11_lowSurrogate_5068e_9 : decode cJ11_lowSurrogate_5068e 9 = .ok (.ireturn, 1) := by decide +kernel
theorem dJ9_abs_0f7a4_0 : decode cJ9_abs_0f7a4 0 = .ok (.iload_n 0, 1) := by decide +kernel
theorem dJ9_abs_0f7a4_1 : decode cJ9_abs_0f7a4 1 = .ok (.ifCond .ge 8, 3) := by decide +kernel
theorem dJ9_abs_0f7a4_4 : decode cJ9_abs_0f7a4 4 = .ok (.iload_n 0, 1) := by decide +kernel
theorem dJ9_abs_0f7a4_5 : decode cJ9_abs_0f7a4 5 = .ok (.ineg, 1) := by decide +kernel
theorem dJ9_abs_0f7a4_6 : decode cJ9_abs_0f7a4 6 = .ok (.goto 4, 3) := by decide +kernel
theorem dJ9_abs_0f7a4_9 : decode cJ9_abs_0f7a4 9 = .ok (.iload_n 0, 1) := by decide +kernel
theorem dJ9_abs_0f7a4_10 : decode cJ9_abs_0f7a4 10 = .ok (.ireturn, 1) := by decide +kernel
theorem dJ9_max_7cf53_0 : decode cJ9_max_7cf53 0 = .ok (.iload_n 0, 1) := by decide +kernel
theorem dJ9_max_7cf53_1 : decode cJ9_max_7cf53 1 = .ok (.iload_n 1, 1) := by decide +kernel
theorem dJ9_max_7cf53_2 : decode cJ9_max_7cf53 2 = .ok (.if_icmp .lt 7, 3) := by decide +kernel
theorem dJ9_max_7cf53_5 : decode cJ9_max_7cf53 5 = .ok (.iload_n 0, 1) := by decide +kernel
theorem dJ9_max_7cf53_6 : decode cJ9_max_7cf53 6 = .ok (.goto 4, 3) := by decide +kernel
theorem dJ9_max_7cf53_9 : decode cJ9_max_7cf53 9 = .ok (.iload_n 1, 1) := by decide +kernel
theorem dJ9_max_7cf53_10 : decode cJ9_max_7cf53 10 = .ok (.ireturn, 1) := by decide +kernel
theorem dJ9_min_7cf53_0 : decode cJ9_min_7cf53 0 = .ok (.iload_n 0, 1) := by decide +kernel
theorem dJ9_min_7cf53_1 : decode cJ9_min_7cf53 1 = .ok (.iload_n 1, 1) := by decide +kernel
theorem dJ9_min_7cf53_2 : decode cJ9_min_7cf53 2 = .ok (.if_icmp .gt 7, 3) := by decide +kernel
theorem dJ9_min_7cf53_5 : decode cJ9_min_7cf53 5 = .ok (.iload_n 0, 1) := by decide +kernel
theorem dJ9_min_7cf53_6 : decode cJ9_min_7cf53 6 = .ok (.goto 4, 3) := by decide +kernel
theorem dJ9_min_7cf53_9 : decode cJ9_min_7cf53 9 = .ok (.iload_n 1, 1) := by decide +kernel
theorem dJ9_min_7cf53_10 : decode cJ9_min_7cf53 10 = .ok (.ireturn, 1) := by decide +kernel
theorem dJ0_length_8abf5_0 : decode cJ0_length_8abf5 0 = .ok (.aload_n 0, 1) := by decide +kernel
theorem dJ0_length_8abf5_1 : decode cJ0_length_8abf5 1 = .ok (.getfield 9, 3) := by decide +kernel
theorem dJ0_length_8abf5_4 : decode cJ0_length_8abf5 4 = .ok (.arraylength, 1) := by decide +kernel
theorem dJ0_length_8abf5_5 : decode cJ0_length_8abf5 5 = .ok (.aload_n 0, 1) := by decide +kernel
theorem dJ0_length_8abf5_6 : decode cJ0_length_8abf5 6 = .ok (.invokevirtual 335, 3) := by decide +kernel
theorem dJ0_length_8abf5_9 : decode cJ0_length_8abf5 9 = .ok (.ishr, 1) := by decide +kernel
theorem dJ0_length_8abf5_10 : decode cJ0_length_8abf5 10 = .ok (.ireturn, 1) := by decide +kernel
theorem dJ0_charAt_5068e_0 : decode cJ0_charAt_5068e 0 = .ok (.aload_n 0, 1) := by decide +kernel
theorem dJ0_charAt_5068e_1 : decode cJ0_charAt_5068e 1 = .ok (.invokevirtual 492, 3) := by decide +kernel
theorem dJ0_charAt_5068e_4 : decode cJ0_charAt_5068e 4 = .ok (.ifCond .eq 12, 3) := by decide +kernel
theorem dJ0_charAt_5068e_7 : decode cJ0_charAt_5068e 7 = .ok (.aload_n 0, 1) := by decide +kernel
theorem dJ0_charAt_5068e_8 : decode cJ0_charAt_5068e 8 = .ok (.getfield 9, 3) := by decide +kernel
theorem dJ0_charAt_5068e_11 : decode cJ0_charAt_5068e 11 = .ok (.iload_n 1, 1) := by decide +kernel
theorem dJ0_charAt_5068e_12 : decode cJ0_charAt_5068e 12 = .ok (.invokestatic 495, 3) := by decide +kernel
theorem dJ0_charAt_5068e_15 : decode cJ0_charAt_5068e 15 = .ok (.ireturn, 1) := by decide +kernel
theorem dJ0_charAt_5068e_16 : decode cJ0_charAt_5068e 16 = .ok (.aload_n 0, 1) := by decide +kernel
theorem dJ0_charAt_5068e_17 : decode cJ0_charAt_5068e 17 = .ok (.getfield 9, 3) := by decide +kernel
theorem dJ0_charAt_5068e_20 : decode cJ0_charAt_5068e 20 = .ok (.iload_n 1, 1) := by decide +kernel
theorem dJ0_charAt_5068e_21 : decode cJ0_charAt_5068e 21 = .ok (.invokestatic 498, 3) := by decide +kernel
theorem dJ0_charAt_5068e_24 : decode cJ0_charAt_5068e 24 = .ok (.ireturn, 1) := by decide +kernel
theorem dJ0_indexOf_0f7a4_0 : decode cJ0_indexOf_0f7a4 0 = .ok (.aload_n 0, 1) := by decide +kernel
theorem dJ0_indexOf_0f7a4_1 : decode cJ0_indexOf_0f7a4 1 = .ok (.iload_n 1, 1) := by decide +kernel
theorem dJ0_indexOf_0f7a4_2 : decode cJ0_indexOf_0f7a4 2 = .ok (.iconst 0, 1) := by decide +kernel
theorem dJ0_indexOf_0f7a4_3 : decode cJ0_indexOf_0f7a4 3 = .ok (.invokevirtual 633, 3) := by decide +kernel
theorem dJ0_indexOf_0f7a4_6 : decode cJ0_indexOf_0f7a4 6 = .ok (.ireturn, 1) := by decide +kernel
theorem dJ0_indexOf_7cf53_0 : decode cJ0_indexOf_7cf53 0 = .ok (.aload_n 0, 1) := by decide +kernel
theorem dJ0_indexOf_7cf53_1 : decode cJ0_indexOf_7cf53 1 = .ok (.invokevirtual 492, 3) := by decide +kernel
theorem dJ0_indexOf_7cf53_4 : decode cJ0_indexOf_7cf53 4 = .ok (.ifCond .eq 19, 3) := by decide +kernel
theorem dJ0_indexOf_7cf53_7 : decode cJ0_indexOf_7cf53 7 = .ok (.aload_n 0, 1) := by decide +kernel
theorem dJ0_indexOf_7cf53_8 : decode cJ0_indexOf_7cf53 8 = .ok (.getfield 9, 3) := by decide +kernel
theorem dJ0_indexOf_7cf53_11 : decode cJ0_indexOf_7cf53 11 = .ok (.iload_n 1, 1) := by decide +kernel
theorem dJ0_indexOf_7cf53_12 : decode cJ0_indexOf_7cf53 12 = .ok (.iload_n 2, 1) := by decide +kernel
theorem dJ0_indexOf_7cf53_13 : decode cJ0_indexOf_7cf53 13 = .ok (.aload_n 0, 1) := by decide +kernel
theorem dJ0_indexOf_7cf53_14 : decode cJ0_indexOf_7cf53 14 = .ok (.invokevirtual 505, 3) := by decide +kernel
theorem dJ0_indexOf_7cf53_17 : decode cJ0_indexOf_7cf53 17 = .ok (.invokestatic 637, 3) := by decide +kernel
theorem dJ0_indexOf_7cf53_20 : decode cJ0_indexOf_7cf53 20 = .ok (.goto 16, 3) := by decide +kernel
theorem dJ0_indexOf_7cf53_23 : decode cJ0_indexOf_7cf53 23 = .ok (.aload_n 0, 1) := by decide +kernel
theorem dJ0_indexOf_7cf53_24 : decode cJ0_indexOf_7cf53 24 = .ok (.getfield 9, 3) := by decide +kernel
theorem dJ0_indexOf_7cf53_27 : decode cJ0_indexOf_7cf53 27 = .ok (.iload_n 1, 1) := by decide +kernel
theorem dJ0_indexOf_7cf53_28 : decode cJ0_indexOf_7cf53 28 = .ok (.iload_n 2, 1) := by decide +kernel
theorem dJ0_indexOf_7cf53_29 : decode cJ0_indexOf_7cf53 29 = .ok (.aload_n 0, 1) := by decide +kernel
theorem dJ0_indexOf_7cf53_30 : decode cJ0_indexOf_7cf53 30 = .ok (.invokevirtual 505, 3) := by decide +kernel
theorem dJ0_indexOf_7cf53_33 : decode cJ0_indexOf_7cf53 33 = .ok (.invokestatic 640, 3) := by decide +kernel
theorem dJ0_indexOf_7cf53_36 : decode cJ0_indexOf_7cf53 36 = .ok (.ireturn, 1) := by decide +kernel
theorem dJ0_coder_7d493_0 : decode cJ0_coder_7d493 0 = .ok (.getstatic 38, 3) := by decide +kernel
theorem dJ0_coder_7d493_3 : decode cJ0_coder_7d493 3 = .ok (.ifCond .eq 10, 3) := by decide +kernel
theorem dJ0_coder_7d493_6 : decode cJ0_coder_7d493 6 = .ok (.aload_n 0, 1) := by decide +kernel
theorem dJ0_coder_7d493_7 : decode cJ0_coder_7d493 7 = .ok (.getfield 15, 3) := by decide +kernel
theorem dJ0_coder_7d493_10 : decode cJ0_coder_7d493 10 = .ok (.goto 4, 3) := by decide +kernel
theorem dJ0_coder_7d493_13 : decode cJ0_coder_7d493 13 = .ok (.iconst 1, 1) := by decide +kernel
theorem dJ0_coder_7d493_14 : decode cJ0_coder_7d493 14 = .ok (.ireturn, 1) := by decide +kernel
theorem dJ0_isLatin1_aae02_0 : decode cJ0_isLatin1_aae02 0 = .ok (.getstatic 38, 3) := by decide +kernel
theorem dJ0_isLatin1_aae02_3 : decode cJ0_isLatin1_aae02 3 = .ok (.ifCond .eq 14, 3) := by decide +kernel
theorem dJ0_isLatin1_aae02_6 : decode cJ0_isLatin1_aae02 6 = .ok (.aload_n 0, 1) := by decide +kernel
theorem dJ0_isLatin1_aae02_7 : decode cJ0_isLatin1_aae02 7 = .ok (.getfield 15, 3) := by decide +kernel
theorem dJ0_isLatin1_aae02_10 : decode cJ0_isLatin1_aae02 10 = .ok (.ifCond .ne 7, 3) := by decide +kernel
theorem dJ0_isLatin1_aae02_13 : decode cJ0_isLatin1_aae02 13 = .ok (.iconst 1, 1) := by decide +kernel
theorem dJ0_isLatin1_aae02_14 : decode cJ0_isLatin1_aae02 14 = .ok (.goto 4, 3) := by decide +kernel
theorem dJ0_isLatin1_aae02_17 : decode cJ0_isLatin1_aae02 17 = .ok (.iconst 0, 1) := by decide +kernel
theorem dJ0_isLatin1_aae02_18 : decode cJ0_isLatin1_aae02 18 = .ok (.ireturn, 1) := by decide +kernel
theorem dJ0_checkIndex_df160_0 : decode cJ0_checkIndex_df160 0 = .ok (.iload_n 0, 1) := by decide +kernel
theorem dJ0_checkIndex_df160_1 : decode cJ0_checkIndex_df160 1 = .ok (.iload_n 1, 1) := by decide +kernel
theorem dJ0_checkIndex_df160_2 : decode cJ0_checkIndex_df160 2 = .ok (.getstatic 1053, 3) := by decide +kernel
theorem dJ0_checkIndex_df160_5 : decode cJ0_checkIndex_df160 5 = .ok (.invokestatic 1059, 3) := by decide +kernel
theorem dJ0_checkIndex_df160_8 : decode cJ0_checkIndex_df160 8 = .ok (.pop, 1) := by decide +kernel
theorem dJ0_checkIndex_df160_9 : decode cJ0_checkIndex_df160 9 = .ok (.return_, 1) := by decide +kernel
theorem dJ0_checkBoundsBeginEnd_23922_0 : decode cJ0_checkBoundsBeginEnd_23922 0 = .ok (.iload_n 0, 1) := by decide +kernel
theorem dJ0_checkBoundsBeginEnd_23922_1 : decode cJ0_checkBoundsBeginEnd_23922 1 = .ok (.iload_n 1, 1) := by decide +kernel
theorem dJ0_checkBoundsBeginEnd_23922_2 : decode cJ0_checkBoundsBeginEnd_23922 2 = .ok (.iload_n 2, 1) := by decide +kernel
theorem dJ0_checkBoundsBeginEnd_23922_3 : decode cJ0_checkBoundsBeginEnd_23922 3 = .ok (.getstatic 1053, 3) := by decide +kernel
theorem dJ0_checkBoundsBeginEnd_23922_6 : decode cJ0_checkBoundsBeginEnd_23922 6 = .ok (.invokestatic 1062, 3) := by decide +kernel
theorem dJ0_checkBoundsBeginEnd_23922_9 : decode cJ0_checkBoundsBeginEnd_23922 9 = .ok (.pop, 1) := by decide +kernel
theorem dJ0_checkBoundsBeginEnd_23922_10 : decode cJ0_checkBoundsBeginEnd_23922 10 = .ok (.return_, 1) := by decide +kernel
theorem dJ1_charAt_3b067_0 : decode cJ1_charAt_3b067 0 = .ok (.iload_n 1, 1) := by decide +kernel
theorem dJ1_charAt_3b067_1 : decode cJ1_charAt_3b067 1 = .ok (.aload_n 0, 1) := by decide +kernel
theorem dJ1_charAt_3b067_2 : decode cJ1_charAt_3b067 2 = .ok (.arraylength, 1) := by decide +kernel
theorem dJ1_charAt_3b067_3 : decode cJ1_charAt_3b067 3 = .ok (.invokestatic 9, 3) := by decide +kernel
theorem dJ1_charAt_3b067_6 : decode cJ1_charAt_3b067 6 = .ok (.aload_n 0, 1) := by decide +kernel
theorem dJ1_charAt_3b067_7 : decode cJ1_charAt_3b067 7 = .ok (.iload_n 1, 1) := by decide +kernel
theorem dJ1_charAt_3b067_8 : decode cJ1_charAt_3b067 8 = .ok (.baload, 1) := by decide +kernel
theorem dJ1_charAt_3b067_9 : decode cJ1_charAt_3b067 9 = .ok (.sipush 255, 3) := by decide +kernel
theorem dJ1_charAt_3b067_12 : decode cJ1_charAt_3b067 12 = .ok (.iand, 1) := by decide +kernel
theorem dJ1_charAt_3b067_13 : decode cJ1_charAt_3b067 13 = .ok (.i2c, 1) := by decide +kernel
theorem dJ1_charAt_3b067_14 : decode cJ1_charAt_3b067 14 = .ok (.ireturn, 1) := by decide +kernel
theorem dJ1_canEncode_9a6ad_0 : decode cJ1_canEncode_9a6ad 0 = .ok (.iload_n 0, 1) := by decide +kernel
theorem dJ1_canEncode_9a6ad_1 : decode cJ1_canEncode_9a6ad 1 = .ok (.ifCond .lt 14, 3) := by decide +kernel
theorem dJ1_canEncode_9a6ad_4 : decode cJ1_canEncode_9a6ad 4 = .ok (.iload_n 0, 1) := by decide +kernel
theorem dJ1_canEncode_9a6ad_5 : decode cJ1_canEncode_9a6ad 5 = .ok (.sipush 255, 3) := by decide +kernel
theorem dJ1_canEncode_9a6ad_8 : decode cJ1_canEncode_9a6ad 8 = .ok (.if_icmp .gt 7, 3) := by decide +kernel
theorem dJ1_canEncode_9a6ad_11 : decode cJ1_canEncode_9a6ad 11 = .ok (.iconst 1, 1) := by decide +kernel
theorem dJ1_canEncode_9a6ad_12 : decode cJ1_canEncode_9a6ad 12 = .ok (.goto 4, 3) := by decide +kernel
theorem dJ1_canEncode_9a6ad_15 : decode cJ1_canEncode_9a6ad 15 = .ok (.iconst 0, 1) := by decide +kernel
theorem dJ1_canEncode_9a6ad_16 : decode cJ1_canEncode_9a6ad 16 = .ok (.ireturn, 1) := by decide +kernel
theorem dJ1_indexOf_4cfef_0 : decode cJ1_indexOf_4cfef 0 = .ok (.iload_n 1, 1) := by decide +kernel
theorem dJ1_indexOf_4cfef_1 : decode cJ1_indexOf_4cfef 1 = .ok (.invokestatic 88, 3) := by decide +kernel
theorem dJ1_indexOf_4cfef_4 : decode cJ1_indexOf_4cfef 4 = .ok (.ifCond .ne 5, 3) := by decide +kernel
theorem dJ1_indexOf_4cfef_7 : decode cJ1_indexOf_4cfef 7 = .ok (.iconst (-1), 1) := by decide +kernel
theorem dJ1_indexOf_4cfef_8 : decode cJ1_indexOf_4cfef 8 = .ok (.ireturn, 1) := by decide +kernel
theorem dJ1_indexOf_4cfef_9 : decode cJ1_indexOf_4cfef 9 = .ok (.iload_n 2, 1) := by decide +kernel
theorem dJ1_indexOf_4cfef_10 : decode cJ1_indexOf_4cfef 10 = .ok (.iconst 0, 1) := by decide +kernel
theorem dJ1_indexOf_4cfef_11 : decode cJ1_indexOf_4cfef 11 = .ok (.invokestatic 92, 3) := by decide +kernel
theorem dJ1_indexOf_4cfef_14 : decode cJ1_indexOf_4cfef 14 = .ok (.istore_n 2, 1) := by decide +kernel
theorem dJ1_indexOf_4cfef_15 : decode cJ1_indexOf_4cfef 15 = .ok (.iload_n 3, 1) := by decide +kernel
theorem dJ1_indexOf_4cfef_16 : decode cJ1_indexOf_4cfef 16 = .ok (.aload_n 0, 1) := by decide +kernel
theorem dJ1_indexOf_4cfef_17 : decode cJ1_indexOf_4cfef 17 = .ok (.arraylength, 1) := by decide +kernel
theorem dJ1_indexOf_4cfef_18 : decode cJ1_indexOf_4cfef 18 = .ok (.invokestatic 38, 3) := by decide +kernel
theorem dJ1_indexOf_4cfef_21 : decode cJ1_indexOf_4cfef 21 = .ok (.istore_n 3, 1) := by decide +kernel
theorem dJ1_indexOf_4cfef_22 : decode cJ1_indexOf_4cfef 22 = .ok (.iload_n 2, 1) := by decide +kernel
theorem dJ1_indexOf_4cfef_23 : decode cJ1_indexOf_4cfef 23 = .ok (.iload_n 3, 1) := by decide +kernel
theorem dJ1_indexOf_4cfef_24 : decode cJ1_indexOf_4cfef 24 = .ok (.if_icmp .lt 5, 3) := by decide +kernel
theorem dJ1_indexOf_4cfef_27 : decode cJ1_indexOf_4cfef 27 = .ok (.iconst (-1), 1) := by decide +kernel
theorem dJ1_indexOf_4cfef_28 : decode cJ1_indexOf_4cfef 28 = .ok (.ireturn, 1) := by decide +kernel
theorem dJ1_indexOf_4cfef_29 : decode cJ1_indexOf_4cfef 29 = .ok (.aload_n 0, 1) := by decide +kernel
theorem dJ1_indexOf_4cfef_30 : decode cJ1_indexOf_4cfef 30 = .ok (.iload_n 1, 1) := by decide +kernel
theorem dJ1_indexOf_4cfef_31 : decode cJ1_indexOf_4cfef 31 = .ok (.iload_n 2, 1) := by decide +kernel
theorem dJ1_indexOf_4cfef_32 : decode cJ1_indexOf_4cfef 32 = .ok (.iload_n 3, 1) := by decide +kernel
theorem dJ1_indexOf_4cfef_33 : decode cJ1_indexOf_4cfef 33 = .ok (.invokestatic 95, 3) := by decide +kernel
theorem dJ1_indexOf_4cfef_36 : decode cJ1_indexOf_4cfef 36 = .ok (.ireturn, 1) := by decide +kernel
theorem dJ1_indexOfChar_4cfef_0 : decode cJ1_indexOfChar_4cfef 0 = .ok (.iload_n 1, 1) := by decide +kernel
theorem dJ1_indexOfChar_4cfef_1 : decode cJ1_indexOfChar_4cfef 1 = .ok (.i2b, 1) := by decide +kernel
theorem dJ1_indexOfChar_4cfef_2 : decode cJ1_indexOfChar_4cfef 2 = .ok (.istore 4, 2) := by decide +kernel
theorem dJ1_indexOfChar_4cfef_4 : decode cJ1_indexOfChar_4cfef 4 = .ok (.iload_n 2, 1) := by decide +kernel
theorem dJ1_indexOfChar_4cfef_5 : decode cJ1_indexOfChar_4cfef 5 = .ok (.istore 5, 2) := by decide +kernel
theorem dJ1_indexOfChar_4cfef_7 : decode cJ1_indexOfChar_4cfef 7 = .ok (.iload 5, 2) := by decide +kernel
theorem dJ1_indexOfChar_4cfef_9 : decode cJ1_indexOfChar_4cfef 9 = .ok (.iload_n 3, 1) := by decide +kernel
theorem dJ1_indexOfChar_4cfef_10 : decode cJ1_indexOfChar_4cfef 10 = .ok (.if_icmp .ge 21, 3) := by decide +kernel
theorem dJ1_indexOfChar_4cfef_13 : decode cJ1_indexOfChar_4cfef 13 = .ok (.aload_n 0, 1) := by decide +kernel
theorem dJ1_indexOfChar_4cfef_14 : decode cJ1_indexOfChar_4cfef 14 = .ok (.iload 5, 2) := by decide +kernel
theorem dJ1_indexOfChar_4cfef_16 : decode cJ1_indexOfChar_4cfef 16 = .ok (.baload, 1) := by decide +kernel
theorem dJ1_indexOfChar_4cfef_17 : decode cJ1_indexOfChar_4cfef 17 = .ok (.iload 4, 2) := by decide +kernel
theorem dJ1_indexOfChar_4cfef_19 : decode cJ1_indexOfChar_4cfef 19 = .ok (.if_icmp .ne 6, 3) := by decide +kernel
theorem dJ1_indexOfChar_4cfef_22 : decode cJ1_indexOfChar_4cfef 22 = .ok (.iload 5, 2) := by decide +kernel
theorem dJ1_indexOfChar_4cfef_24 : decode cJ1_indexOfChar_4cfef 24 = .ok (.ireturn, 1) := by decide +kernel
theorem dJ1_indexOfChar_4cfef_25 : decode cJ1_indexOfChar_4cfef 25 = .ok (.iinc 5 1, 3) := by decide +kernel
theorem dJ1_indexOfChar_4cfef_28 : decode cJ1_indexOfChar_4cfef 28 = .ok (.goto (-21), 3) := by decide +kernel
theorem dJ1_indexOfChar_4cfef_31 : decode cJ1_indexOfChar_4cfef 31 = .ok (.iconst (-1), 1) := by decide +kernel
theorem dJ1_indexOfChar_4cfef_32 : decode cJ1_indexOfChar_4cfef 32 = .ok (.ireturn, 1) := by decide +kernel
theorem dJ2_getChar_3b067_0 : decode cJ2_getChar_3b067 0 = .ok (.getstatic 44, 3) := by decide +kernel
theorem dJ2_getChar_3b067_3 : decode cJ2_getChar_3b067 3 = .ok (.ifCond .ne 25, 3) := by decide +kernel
theorem dJ2_getChar_3b067_6 : decode cJ2_getChar_3b067 6 = .ok (.iload_n 1, 1) := by decide +kernel
theorem dJ2_getChar_3b067_7 : decode cJ2_getChar_3b067 7 = .ok (.ifCond .lt 11, 3) := by decide +kernel
theorem dJ2_getChar_3b067_10 : decode cJ2_getChar_3b067 10 = .ok (.iload_n 1, 1) := by decide +kernel
theorem dJ2_getChar_3b067_11 : decode cJ2_getChar_3b067 11 = .ok (.aload_n 0, 1) := by decide +kernel
theorem dJ2_getChar_3b067_12 : decode cJ2_getChar_3b067 12 = .ok (.invokestatic 48, 3) := by decide +kernel
theorem dJ2_getChar_3b067_15 : decode cJ2_getChar_3b067 15 = .ok (.if_icmp .lt 13, 3) := by decide +kernel
theorem dJ2_getChar_3b067_18 : decode cJ2_getChar_3b067 18 = .ok (.new 52, 3) := by decide +kernel
theorem dJ2_getChar_3b067_21 : decode cJ2_getChar_3b067 21 = .ok (.dup, 1) := by decide +kernel
theorem dJ2_getChar_3b067_22 : decode cJ2_getChar_3b067 22 = .ok (.ldc 54, 2) := by decide +kernel
theorem dJ2_getChar_3b067_24 : decode cJ2_getChar_3b067 24 = .ok (.invokespecial 56, 3) := by decide +kernel
theorem dJ2_getChar_3b067_27 : decode cJ2_getChar_3b067 27 = .ok (.athrow, 1) := by decide +kernel
theorem dJ2_getChar_3b067_28 : decode cJ2_getChar_3b067 28 = .ok (.iload_n 1, 1) := by decide +kernel
theorem dJ2_getChar_3b067_29 : decode cJ2_getChar_3b067 29 = .ok (.iconst 1, 1) := by decide +kernel
theorem dJ2_getChar_3b067_30 : decode cJ2_getChar_3b067 30 = .ok (.ishl, 1) := by decide +kernel
theorem dJ2_getChar_3b067_31 : decode cJ2_getChar_3b067 31 = .ok (.istore_n 1, 1) := by decide +kernel
theorem dJ2_getChar_3b067_32 : decode cJ2_getChar_3b067 32 = .ok (.aload_n 0, 1) := by decide +kernel
theorem dJ2_getChar_3b067_33 : decode cJ2_getChar_3b067 33 = .ok (.iload_n 1, 1) := by decide +kernel
theorem dJ2_getChar_3b067_34 : decode cJ2_getChar_3b067 34 = .ok (.iinc 1 1, 3) := by decide +kernel
theorem dJ2_getChar_3b067_37 : decode cJ2_getChar_3b067 37 = .ok (.baload, 1) := by decide +kernel
theorem dJ2_getChar_3b067_38 : decode cJ2_getChar_3b067 38 = .ok (.sipush 255, 3) := by decide +kernel
theorem dJ2_getChar_3b067_41 : decode cJ2_getChar_3b067 41 = .ok (.iand, 1) := by decide +kernel
theorem dJ2_getChar_3b067_42 : decode cJ2_getChar_3b067 42 = .ok (.getstatic 59, 3) := by decide +kernel
theorem dJ2_getChar_3b067_45 : decode cJ2_getChar_3b067 45 = .ok (.ishl, 1) := by decide +kernel
theorem dJ2_getChar_3b067_46 : decode cJ2_getChar_3b067 46 = .ok (.aload_n 0, 1) := by decide +kernel
theorem dJ2_getChar_3b067_47 : decode cJ2_getChar_3b067 47 = .ok (.iload_n 1, 1) := by decide +kernel
theorem dJ2_getChar_3b067_48 : decode cJ2_getChar_3b067 48 = .ok (.baload, 1) := by decide +kernel
theorem dJ2_getChar_3b067_49 : decode cJ2_getChar_3b067 49 = .ok (.sipush 255, 3) := by decide +kernel
theorem dJ2_getChar_3b067_52 : decode cJ2_getChar_3b067 52 = .ok (.iand, 1) := by decide +kernel
theorem dJ2_getChar_3b067_53 : decode cJ2_getChar_3b067 53 = .ok (.getstatic 63, 3) := by decide +kernel
theorem dJ2_getChar_3b067_56 : decode cJ2_getChar_3b067 56 = .ok (.ishl, 1) := by decide +kernel
theorem dJ2_getChar_3b067_57 : decode cJ2_getChar_3b067 57 = .ok (.ior, 1) := by decide +kernel
theorem dJ2_getChar_3b067_58 : decode cJ2_getChar_3b067 58 = .ok (.i2c, 1) := by decide +kernel
theorem dJ2_getChar_3b067_59 : decode cJ2_getChar_3b067 59 = .ok (.ireturn, 1) := by decide +kernel
theorem dJ2_length_9d52b_0 : decode cJ2_length_9d52b 0 = .ok (.aload_n 0, 1) := by decide +kernel
theorem dJ2_length_9d52b_1 : decode cJ2_length_9d52b 1 = .ok (.arraylength, 1) := by decide +kernel
theorem dJ2_length_9d52b_2 : decode cJ2_length_9d52b 2 = .ok (.iconst 1, 1) := by decide +kernel
theorem dJ2_length_9d52b_3 : decode cJ2_length_9d52b 3 = .ok (.ishr, 1) := by decide +kernel
theorem dJ2_length_9d52b_4 : decode cJ2_length_9d52b 4 = .ok (.ireturn, 1) := by decide +kernel
theorem dJ2_indexOf_4cfef_0 : decode cJ2_indexOf_4cfef 0 = .ok (.iload_n 2, 1) := by decide +kernel
theorem dJ2_indexOf_4cfef_1 : decode cJ2_indexOf_4cfef 1 = .ok (.iconst 0, 1) := by decide +kernel
theorem dJ2_indexOf_4cfef_2 : decode cJ2_indexOf_4cfef 2 = .ok (.invokestatic 224, 3) := by decide +kernel
theorem dJ2_indexOf_4cfef_5 : decode cJ2_indexOf_4cfef 5 = .ok (.istore_n 2, 1) := by decide +kernel
theorem dJ2_indexOf_4cfef_6 : decode cJ2_indexOf_4cfef 6 = .ok (.iload_n 3, 1) := by decide +kernel
theorem dJ2_indexOf_4cfef_7 : decode cJ2_indexOf_4cfef 7 = .ok (.aload_n 0, 1) := by decide +kernel
theorem dJ2_indexOf_4cfef_8 : decode cJ2_indexOf_4cfef 8 = .ok (.arraylength, 1) := by decide +kernel
theorem dJ2_indexOf_4cfef_9 : decode cJ2_indexOf_4cfef 9 = .ok (.iconst 1, 1) := by decide +kernel
theorem dJ2_indexOf_4cfef_10 : decode cJ2_indexOf_4cfef 10 = .ok (.ishr, 1) := by decide +kernel
theorem dJ2_indexOf_4cfef_11 : decode cJ2_indexOf_4cfef 11 = .ok (.invokestatic 183, 3) := by decide +kernel
theorem dJ2_indexOf_4cfef_14 : decode cJ2_indexOf_4cfef 14 = .ok (.istore_n 3, 1) := by decide +kernel
theorem dJ2_indexOf_4cfef_15 : decode cJ2_indexOf_4cfef 15 = .ok (.iload_n 2, 1) := by decide +kernel
theorem dJ2_indexOf_4cfef_16 : decode cJ2_indexOf_4cfef 16 = .ok (.iload_n 3, 1) := by decide +kernel
theorem dJ2_indexOf_4cfef_17 : decode cJ2_indexOf_4cfef 17 = .ok (.if_icmp .lt 5, 3) := by decide +kernel
theorem dJ2_indexOf_4cfef_20 : decode cJ2_indexOf_4cfef 20 = .ok (.iconst (-1), 1) := by decide +kernel
theorem dJ2_indexOf_4cfef_21 : decode cJ2_indexOf_4cfef 21 = .ok (.ireturn, 1) := by decide +kernel
theorem dJ2_indexOf_4cfef_22 : decode cJ2_indexOf_4cfef 22 = .ok (.iload_n 1, 1) := by decide +kernel
theorem dJ2_indexOf_4cfef_23 : decode cJ2_indexOf_4cfef 23 = .ok (.ldc 227, 2) := by decide +kernel
theorem dJ2_indexOf_4cfef_25 : decode cJ2_indexOf_4cfef 25 = .ok (.if_icmp .ge 11, 3) := by decide +kernel
theorem dJ2_indexOf_4cfef_28 : decode cJ2_indexOf_4cfef 28 = .ok (.aload_n 0, 1) := by decide +kernel
theorem dJ2_indexOf_4cfef_29 : decode cJ2_indexOf_4cfef 29 = .ok (.iload_n 1, 1) := by decide +kernel
theorem dJ2_indexOf_4cfef_30 : decode cJ2_indexOf_4cfef 30 = .ok (.iload_n 2, 1) := by decide +kernel
theorem dJ2_indexOf_4cfef_31 : decode cJ2_indexOf_4cfef 31 = .ok (.iload_n 3, 1) := by decide +kernel
theorem dJ2_indexOf_4cfef_32 : decode cJ2_indexOf_4cfef 32 = .ok (.invokestatic 228, 3) := by decide +kernel
theorem dJ2_indexOf_4cfef_35 : decode cJ2_indexOf_4cfef 35 = .ok (.ireturn, 1) := by decide +kernel
theorem dJ2_indexOf_4cfef_36 : decode cJ2_indexOf_4cfef 36 = .ok (.aload_n 0, 1) := by decide +kernel
theorem dJ2_indexOf_4cfef_37 : decode cJ2_indexOf_4cfef 37 = .ok (.iload_n 1, 1) := by decide +kernel
theorem dJ2_indexOf_4cfef_38 : decode cJ2_indexOf_4cfef 38 = .ok (.iload_n 2, 1) := by decide +kernel
theorem dJ2_indexOf_4cfef_39 : decode cJ2_indexOf_4cfef 39 = .ok (.iload_n 3, 1) := by decide +kernel
theorem dJ2_indexOf_4cfef_40 : decode cJ2_indexOf_4cfef 40 = .ok (.invokestatic 232, 3) := by decide +kernel
theorem dJ2_indexOf_4cfef_43 : decode cJ2_indexOf_4cfef 43 = .ok (.ireturn, 1) := by decide +kernel
theorem dJ2_indexOfChar_4cfef_0 : decode cJ2_indexOfChar_4cfef 0 = .ok (.iload_n 2, 1) := by decide +kernel
theorem dJ2_indexOfChar_4cfef_1 : decode cJ2_indexOfChar_4cfef 1 = .ok (.iload_n 3, 1) := by decide +kernel
theorem dJ2_indexOfChar_4cfef_2 : decode cJ2_indexOfChar_4cfef 2 = .ok (.aload_n 0, 1) := by decide +kernel
theorem dJ2_indexOfChar_4cfef_3 : decode cJ2_indexOfChar_4cfef 3 = .ok (.invokestatic 96, 3) := by decide +kernel
theorem dJ2_indexOfChar_4cfef_6 : decode cJ2_indexOfChar_4cfef 6 = .ok (.aload_n 0, 1) := by decide +kernel
theorem dJ2_indexOfChar_4cfef_7 : decode cJ2_indexOfChar_4cfef 7 = .ok (.iload_n 1, 1) := by decide +kernel
theorem dJ2_indexOfChar_4cfef_8 : decode cJ2_indexOfChar_4cfef 8 = .ok (.iload_n 2, 1) := by decide +kernel
theorem dJ2_indexOfChar_4cfef_9 : decode cJ2_indexOfChar_4cfef 9 = .ok (.iload_n 3, 1) := by decide +kernel
theorem dJ2_indexOfChar_4cfef_10 : decode cJ2_indexOfChar_4cfef 10 = .ok (.invokestatic 244, 3) := by decide +kernel
theorem dJ2_indexOfChar_4cfef_13 : decode cJ2_indexOfChar_4cfef 13 = .ok (.ireturn, 1) := by decide +kernel
theorem dJ2_indexOfCharUnsafe_4cfef_0 : decode cJ2_indexOfCharUnsafe_4cfef 0 = .ok (.iload_n 2, 1) := by decide +kernel
theorem dJ2_indexOfCharUnsafe_4cfef_1 : decode cJ2_indexOfCharUnsafe_4cfef 1 = .ok (.istore 4, 2) := by decide +kernel
theorem dJ2_indexOfCharUnsafe_4cfef_3 : decode cJ2_indexOfCharUnsafe_4cfef 3 = .ok (.iload 4, 2) := by decide +kernel
theorem dJ2_indexOfCharUnsafe_4cfef_5 : decode cJ2_indexOfCharUnsafe_4cfef 5 = .ok (.iload_n 3, 1) := by decide +kernel
theorem dJ2_indexOfCharUnsafe_4cfef_6 : decode cJ2_indexOfCharUnsafe_4cfef 6 = .ok (.if_icmp .ge 22, 3) := by decide +kernel
theorem dJ2_indexOfCharUnsafe_4cfef_9 : decode cJ2_indexOfCharUnsafe_4cfef 9 = .ok (.aload_n 0, 1) := by decide +kernel
theorem dJ2_indexOfCharUnsafe_4cfef_10 : decode cJ2_indexOfCharUnsafe_4cfef 10 = .ok (.iload 4, 2) := by decide +kernel
theorem dJ2_indexOfCharUnsafe_4cfef_12 : decode cJ2_indexOfCharUnsafe_4cfef 12 = .ok (.invokestatic 71, 3) := by decide +kernel
theorem dJ2_indexOfCharUnsafe_4cfef_15 : decode cJ2_indexOfCharUnsafe_4cfef 15 = .ok (.iload_n 1, 1) := by decide +kernel
theorem dJ2_indexOfCharUnsafe_4cfef_16 : decode cJ2_indexOfCharUnsafe_4cfef 16 = .ok (.if_icmp .ne 6, 3) := by decide +kernel
theorem dJ2_indexOfCharUnsafe_4cfef_19 : decode cJ2_indexOfCharUnsafe_4cfef 19 = .ok (.iload 4, 2) := by decide +kernel
theorem dJ2_indexOfCharUnsafe_4cfef_21 : decode cJ2_indexOfCharUnsafe_4cfef 21 = .ok (.ireturn, 1) := by decide +kernel
theorem dJ2_indexOfCharUnsafe_4cfef_22 : decode cJ2_indexOfCharUnsafe_4cfef 22 = .ok (.iinc 4 1, 3) := by decide +kernel
theorem dJ2_indexOfCharUnsafe_4cfef_25 : decode cJ2_indexOfCharUnsafe_4cfef 25 = .ok (.goto (-22), 3) := by decide +kernel
theorem dJ2_indexOfCharUnsafe_4cfef_28 : decode cJ2_indexOfCharUnsafe_4cfef 28 = .ok (.iconst (-1), 1) := by decide +kernel
theorem dJ2_indexOfCharUnsafe_4cfef_29 : decode cJ2_indexOfCharUnsafe_4cfef 29 = .ok (.ireturn, 1) := by decide +kernel
theorem dJ2_indexOfSupplementary_4cfef_0 : decode cJ2_indexOfSupplementary_4cfef 0 = .ok (.iload_n 1, 1) := by decide +kernel
theorem dJ2_indexOfSupplementary_4cfef_1 : decode cJ2_indexOfSupplementary_4cfef 1 = .ok (.invokestatic 164, 3) := by decide +kernel
theorem dJ2_indexOfSupplementary_4cfef_4 : decode cJ2_indexOfSupplementary_4cfef 4 = .ok (.ifCond .eq 65, 3) := by decide +kernel
theorem dJ2_indexOfSupplementary_4cfef_7 : decode cJ2_indexOfSupplementary_4cfef 7 = .ok (.iload_n 1, 1) := by decide +kernel
theorem dJ2_indexOfSupplementary_4cfef_8 : decode cJ2_indexOfSupplementary_4cfef 8 = .ok (.invokestatic 157, 3) := by decide +kernel
theorem dJ2_indexOfSupplementary_4cfef_11 : decode cJ2_indexOfSupplementary_4cfef 11 = .ok (.istore 4, 2) := by decide +kernel
theorem dJ2_indexOfSupplementary_4cfef_13 : decode cJ2_indexOfSupplementary_4cfef 13 = .ok (.iload_n 1, 1) := by decide +kernel
theorem dJ2_indexOfSupplementary_4cfef_14 : decode cJ2_indexOfSupplementary_4cfef 14 = .ok (.invokestatic 161, 3) := by decide +kernel
theorem dJ2_indexOfSupplementary_4cfef_17 : decode cJ2_indexOfSupplementary_4cfef 17 = .ok (.istore 5, 2) := by decide +kernel
theorem dJ2_indexOfSupplementary_4cfef_19 : decode cJ2_indexOfSupplementary_4cfef 19 = .ok (.iload_n 2, 1) := by decide +kernel
theorem dJ2_indexOfSupplementary_4cfef_20 : decode cJ2_indexOfSupplementary_4cfef 20 = .ok (.iload_n 3, 1) := by decide +kernel
theorem dJ2_indexOfSupplementary_4cfef_21 : decode cJ2_indexOfSupplementary_4cfef 21 = .ok (.aload_n 0, 1) := by decide +kernel
theorem dJ2_indexOfSupplementary_4cfef_22 : decode cJ2_indexOfSupplementary_4cfef 22 = .ok (.invokestatic 96, 3) := by decide +kernel
theorem dJ2_indexOfSupplementary_4cfef_25 : decode cJ2_indexOfSupplementary_4cfef 25 = .ok (.iload_n 2, 1) := by decide +kernel
theorem dJ2_indexOfSupplementary_4cfef_26 : decode cJ2_indexOfSupplementary_4cfef 26 = .ok (.istore 6, 2) := by decide +kernel
theorem dJ2_indexOfSupplementary_4cfef_28 : decode cJ2_indexOfSupplementary_4cfef 28 = .ok (.iload 6, 2) := by decide +kernel
theorem dJ2_indexOfSupplementary_4cfef_30 : decode cJ2_indexOfSupplementary_4cfef 30 = .ok (.iload_n 3, 1) := by decide +kernel
theorem dJ2_indexOfSupplementary_4cfef_31 : decode cJ2_indexOfSupplementary_4cfef 31 = .ok (.iconst 1, 1) := by decide +kernel
theorem dJ2_indexOfSupplementary_4cfef_32 : decode cJ2_indexOfSupplementary_4cfef 32 = .ok (.isub, 1) := by decide +kernel
theorem dJ2_indexOfSupplementary_4cfef_33 : decode cJ2_indexOfSupplementary_4cfef 33 = .ok (.if_icmp .ge 36, 3) := by decide +kernel
theorem dJ2_indexOfSupplementary_4cfef_36 : decode cJ2_indexOfSupplementary_4cfef 36 = .ok (.aload_n 0, 1) := by decide +kernel
theorem dJ2_indexOfSupplementary_4cfef_37 : decode cJ2_indexOfSupplementary_4cfef 37 = .ok (.iload 6, 2) := by decide +kernel
theorem dJ2_indexOfSupplementary_4cfef_39 : decode cJ2_indexOfSupplementary_4cfef 39 = .ok (.invokestatic 71, 3) := by decide +kernel
theorem dJ2_indexOfSupplementary_4cfef_42 : decode cJ2_indexOfSupplementary_4cfef 42 = .ok (.iload 4, 2) := by decide +kernel
theorem dJ2_indexOfSupplementary_4cfef_44 : decode cJ2_indexOfSupplementary_4cfef 44 = .ok (.if_icmp .ne 19, 3) := by decide +kernel
theorem dJ2_indexOfSupplementary_4cfef_47 : decode cJ2_indexOfSupplementary_4cfef 47 = .ok (.aload_n 0, 1) := by decide +kernel
theorem dJ2_indexOfSupplementary_4cfef_48 : decode cJ2_indexOfSupplementary_4cfef 48 = .ok (.iload 6, 2) := by decide +kernel
theorem dJ2_indexOfSupplementary_4cfef_50 : decode cJ2_indexOfSupplementary_4cfef 50 = .ok (.iconst 1, 1) := by decide +kernel
theorem dJ2_indexOfSupplementary_4cfef_51 : decode cJ2_indexOfSupplementary_4cfef 51 = .ok (.iadd, 1) := by decide +kernel
theorem dJ2_indexOfSupplementary_4cfef_52 : decode cJ2_indexOfSupplementary_4cfef 52 = .ok (.invokestatic 71, 3) := by decide +kernel
theorem dJ2_indexOfSupplementary_4cfef_55 : decode cJ2_indexOfSupplementary_4cfef 55 = .ok (.iload 5, 2) := by decide +kernel
theorem dJ2_indexOfSupplementary_4cfef_57 : decode cJ2_indexOfSupplementary_4cfef 57 = .ok (.if_icmp .ne 6, 3) := by decide +kernel
theorem dJ2_indexOfSupplementary_4cfef_60 : decode cJ2_indexOfSupplementary_4cfef 60 = .ok (.iload 6, 2) := by decide +kernel
theorem dJ2_indexOfSupplementary_4cfef_62 : decode cJ2_indexOfSupplementary_4cfef 62 = .ok (.ireturn, 1) := by decide +kernel
theorem dJ2_indexOfSupplementary_4cfef_63 : decode cJ2_indexOfSupplementary_4cfef 63 = .ok (.iinc 6 1, 3) := by decide +kernel
theorem dJ2_indexOfSupplementary_4cfef_66 : decode cJ2_indexOfSupplementary_4cfef 66 = .ok (.goto (-38), 3) := by decide +kernel
theorem dJ2_indexOfSupplementary_4cfef_69 : decode cJ2_indexOfSupplementary_4cfef 69 = .ok (.iconst (-1), 1) := by decide +kernel
theorem dJ2_indexOfSupplementary_4cfef_70 : decode cJ2_indexOfSupplementary_4cfef 70 = .ok (.ireturn, 1) := by decide +kernel
theorem dJ2_charAt_3b067_0 : decode cJ2_charAt_3b067 0 = .ok (.iload_n 1, 1) := by decide +kernel
theorem dJ2_charAt_3b067_1 : decode cJ2_charAt_3b067 1 = .ok (.aload_n 0, 1) := by decide +kernel
theorem dJ2_charAt_3b067_2 : decode cJ2_charAt_3b067 2 = .ok (.invokestatic 67, 3) := by decide +kernel
theorem dJ2_charAt_3b067_5 : decode cJ2_charAt_3b067 5 = .ok (.aload_n 0, 1) := by decide +kernel
theorem dJ2_charAt_3b067_6 : decode cJ2_charAt_3b067 6 = .ok (.iload_n 1, 1) := by decide +kernel
theorem dJ2_charAt_3b067_7 : decode cJ2_charAt_3b067 7 = .ok (.invokestatic 71, 3) := by decide +kernel
theorem dJ2_charAt_3b067_10 : decode cJ2_charAt_3b067 10 = .ok (.ireturn, 1) := by decide +kernel
theorem dJ2_checkIndex_2214a_0 : decode cJ2_checkIndex_2214a 0 = .ok (.iload_n 0, 1) := by decide +kernel
theorem dJ2_checkIndex_2214a_1 : decode cJ2_checkIndex_2214a 1 = .ok (.aload_n 1, 1) := by decide +kernel
theorem dJ2_checkIndex_2214a_2 : decode cJ2_checkIndex_2214a 2 = .ok (.invokestatic 48, 3) := by decide +kernel
theorem dJ2_checkIndex_2214a_5 : decode cJ2_checkIndex_2214a 5 = .ok (.invokestatic 414, 3) := by decide +kernel
theorem dJ2_checkIndex_2214a_8 : decode cJ2_checkIndex_2214a 8 = .ok (.return_, 1) := by decide +kernel
theorem dJ2_checkBoundsBeginEnd_d044e_0 : decode cJ2_checkBoundsBeginEnd_d044e 0 = .ok (.iload_n 0, 1) := by decide +kernel
theorem dJ2_checkBoundsBeginEnd_d044e_1 : decode cJ2_checkBoundsBeginEnd_d044e 1 = .ok (.iload_n 1, 1) := by decide +kernel
theorem dJ2_checkBoundsBeginEnd_d044e_2 : decode cJ2_checkBoundsBeginEnd_d044e 2 = .ok (.aload_n 2, 1) := by decide +kernel
theorem dJ2_checkBoundsBeginEnd_d044e_3 : decode cJ2_checkBoundsBeginEnd_d044e 3 = .ok (.invokestatic 48, 3) := by decide +kernel
theorem dJ2_checkBoundsBeginEnd_d044e_6 : decode cJ2_checkBoundsBeginEnd_d044e 6 = .ok (.invokestatic 241, 3) := by decide +kernel
theorem dJ2_checkBoundsBeginEnd_d044e_9 : decode cJ2_checkBoundsBeginEnd_d044e 9 = .ok (.return_, 1) := by decide +kernel
theorem dJ7_fill_53178_0 : decode cJ7_fill_53178 0 = .ok (.iconst 0, 1) := by decide +kernel
theorem dJ7_fill_53178_1 : decode cJ7_fill_53178 1 = .ok (.istore_n 2, 1) := by decide +kernel
theorem dJ7_fill_53178_2 : decode cJ7_fill_53178 2 = .ok (.aload_n 0, 1) := by decide +kernel
theorem dJ7_fill_53178_3 : decode cJ7_fill_53178 3 = .ok (.arraylength, 1) := by decide +kernel
theorem dJ7_fill_53178_4 : decode cJ7_fill_53178 4 = .ok (.istore_n 3, 1) := by decide +kernel
theorem dJ7_fill_53178_5 : decode cJ7_fill_53178 5 = .ok (.iload_n 2, 1) := by decide +kernel
theorem dJ7_fill_53178_6 : decode cJ7_fill_53178 6 = .ok (.iload_n 3, 1) := by decide +kernel
theorem dJ7_fill_53178_7 : decode cJ7_fill_53178 7 = .ok (.if_icmp .ge 13, 3) := by decide +kernel
theorem dJ7_fill_53178_10 : decode cJ7_fill_53178 10 = .ok (.aload_n 0, 1) := by decide +kernel
theorem dJ7_fill_53178_11 : decode cJ7_fill_53178 11 = .ok (.iload_n 2, 1) := by decide +kernel
theorem dJ7_fill_53178_12 : decode cJ7_fill_53178 12 = .ok (.iload_n 1, 1) := by decide +kernel
theorem dJ7_fill_53178_13 : decode cJ7_fill_53178 13 = .ok (.iastore, 1) := by decide +kernel
theorem dJ7_fill_53178_14 : decode cJ7_fill_53178 14 = .ok (.iinc 2 1, 3) := by decide +kernel
theorem dJ7_fill_53178_17 : decode cJ7_fill_53178 17 = .ok (.goto (-12), 3) := by decide +kernel
theorem dJ7_fill_53178_20 : decode cJ7_fill_53178 20 = .ok (.return_, 1) := by decide +kernel
theorem dJ7_copyOf_59c91_0 : decode cJ7_copyOf_59c91 0 = .ok (.iload_n 1, 1) := by decide +kernel
theorem dJ7_copyOf_59c91_1 : decode cJ7_copyOf_59c91 1 = .ok (.aload_n 0, 1) := by decide +kernel
theorem dJ7_copyOf_59c91_2 : decode cJ7_copyOf_59c91 2 = .ok (.arraylength, 1) := by decide +kernel
theorem dJ7_copyOf_59c91_3 : decode cJ7_copyOf_59c91 3 = .ok (.if_icmp .ne 11, 3) := by decide +kernel
theorem dJ7_copyOf_59c91_6 : decode cJ7_copyOf_59c91 6 = .ok (.aload_n 0, 1) := by decide +kernel
theorem dJ7_copyOf_59c91_7 : decode cJ7_copyOf_59c91 7 = .ok (.invokevirtual 316, 3) := by decide +kernel
theorem dJ7_copyOf_59c91_10 : decode cJ7_copyOf_59c91 10 = .ok (.checkcast 317, 3) := by decide +kernel
theorem dJ7_copyOf_59c91_13 : decode cJ7_copyOf_59c91 13 = .ok (.areturn, 1) := by decide +kernel
theorem dJ7_copyOf_59c91_14 : decode cJ7_copyOf_59c91 14 = .ok (.iload_n 1, 1) := by decide +kernel
theorem dJ7_copyOf_59c91_15 : decode cJ7_copyOf_59c91 15 = .ok (.newarray .int, 2) := by decide +kernel
theorem dJ7_copyOf_59c91_17 : decode cJ7_copyOf_59c91 17 = .ok (.astore_n 2, 1) := by decide +kernel
theorem dJ7_copyOf_59c91_18 : decode cJ7_copyOf_59c91 18 = .ok (.aload_n 0, 1) := by decide +kernel
theorem dJ7_copyOf_59c91_19 : decode cJ7_copyOf_59c91 19 = .ok (.iconst 0, 1) := by decide +kernel
theorem dJ7_copyOf_59c91_20 : decode cJ7_copyOf_59c91 20 = .ok (.aload_n 2, 1) := by decide +kernel
theorem dJ7_copyOf_59c91_21 : decode cJ7_copyOf_59c91 21 = .ok (.iconst 0, 1) := by decide +kernel
theorem dJ7_copyOf_59c91_22 : decode cJ7_copyOf_59c91 22 = .ok (.aload_n 0, 1) := by decide +kernel
theorem dJ7_copyOf_59c91_23 : decode cJ7_copyOf_59c91 23 = .ok (.arraylength, 1) := by decide +kernel
theorem dJ7_copyOf_59c91_24 : decode cJ7_copyOf_59c91 24 = .ok (.iload_n 1, 1) := by decide +kernel
theorem dJ7_copyOf_59c91_25 : decode cJ7_copyOf_59c91 25 = .ok (.invokestatic 304, 3) := by decide +kernel
theorem dJ7_copyOf_59c91_28 : decode cJ7_copyOf_59c91 28 = .ok (.invokestatic 150, 3) := by decide +kernel
theorem dJ7_copyOf_59c91_31 : decode cJ7_copyOf_59c91 31 = .ok (.aload_n 2, 1) := by decide +kernel
theorem dJ7_copyOf_59c91_32 : decode cJ7_copyOf_59c91 32 = .ok (.areturn, 1) := by decide +kernel
theorem dJ3_checkIndex_8e157_0 : decode cJ3_checkIndex_8e157 0 = .ok (.iload_n 0, 1) := by decide +kernel
theorem dJ3_checkIndex_8e157_1 : decode cJ3_checkIndex_8e157 1 = .ok (.ifCond .lt 8, 3) := by decide +kernel
theorem dJ3_checkIndex_8e157_4 : decode cJ3_checkIndex_8e157 4 = .ok (.iload_n 0, 1) := by decide +kernel
theorem dJ3_checkIndex_8e157_5 : decode cJ3_checkIndex_8e157 5 = .ok (.iload_n 1, 1) := by decide +kernel
theorem dJ3_checkIndex_8e157_6 : decode cJ3_checkIndex_8e157 6 = .ok (.if_icmp .lt 10, 3) := by decide +kernel
theorem dJ3_checkIndex_8e157_9 : decode cJ3_checkIndex_8e157 9 = .ok (.aload_n 2, 1) := by decide +kernel
theorem dJ3_checkIndex_8e157_10 : decode cJ3_checkIndex_8e157 10 = .ok (.iload_n 0, 1) := by decide +kernel
theorem dJ3_checkIndex_8e157_11 : decode cJ3_checkIndex_8e157 11 = .ok (.iload_n 1, 1) := by decide +kernel
theorem dJ3_checkIndex_8e157_12 : decode cJ3_checkIndex_8e157 12 = .ok (.invokestatic 95, 3) := by decide +kernel
theorem dJ3_checkIndex_8e157_15 : decode cJ3_checkIndex_8e157 15 = .ok (.athrow, 1) := by decide +kernel
theorem dJ3_checkIndex_8e157_16 : decode cJ3_checkIndex_8e157 16 = .ok (.iload_n 0, 1) := by decide +kernel
theorem dJ3_checkIndex_8e157_17 : decode cJ3_checkIndex_8e157 17 = .ok (.ireturn, 1) := by decide +kernel
theorem dJ3_checkFromToIndex_8c36e_0 : decode cJ3_checkFromToIndex_8c36e 0 = .ok (.iload_n 0, 1) := by decide +kernel
theorem dJ3_checkFromToIndex_8c36e_1 : decode cJ3_checkFromToIndex_8c36e 1 = .ok (.ifCond .lt 13, 3) := by decide +kernel
theorem dJ3_checkFromToIndex_8c36e_4 : decode cJ3_checkFromToIndex_8c36e 4 = .ok (.iload_n 0, 1) := by decide +kernel
theorem dJ3_checkFromToIndex_8c36e_5 : decode cJ3_checkFromToIndex_8c36e 5 = .ok (.iload_n 1, 1) := by decide +kernel
theorem dJ3_checkFromToIndex_8c36e_6 : decode cJ3_checkFromToIndex_8c36e 6 = .ok (.if_icmp .gt 8, 3) := by decide +kernel
theorem dJ3_checkFromToIndex_8c36e_9 : decode cJ3_checkFromToIndex_8c36e 9 = .ok (.iload_n 1, 1) := by decide +kernel
theorem dJ3_checkFromToIndex_8c36e_10 : decode cJ3_checkFromToIndex_8c36e 10 = .ok (.iload_n 2, 1) := by decide +kernel
theorem dJ3_checkFromToIndex_8c36e_11 : decode cJ3_checkFromToIndex_8c36e 11 = .ok (.if_icmp .le 11, 3) := by decide +kernel
theorem dJ3_checkFromToIndex_8c36e_14 : decode cJ3_checkFromToIndex_8c36e 14 = .ok (.aload_n 3, 1) := by decide +kernel
theorem dJ3_checkFromToIndex_8c36e_15 : decode cJ3_checkFromToIndex_8c36e 15 = .ok (.iload_n 0, 1) := by decide +kernel
theorem dJ3_checkFromToIndex_8c36e_16 : decode cJ3_checkFromToIndex_8c36e 16 = .ok (.iload_n 1, 1) := by decide +kernel
theorem dJ3_checkFromToIndex_8c36e_17 : decode cJ3_checkFromToIndex_8c36e 17 = .ok (.iload_n 2, 1) := by decide +kernel
theorem dJ3_checkFromToIndex_8c36e_18 : decode cJ3_checkFromToIndex_8c36e 18 = .ok (.invokestatic 99, 3) := by decide +kernel
theorem dJ3_checkFromToIndex_8c36e_21 : decode cJ3_checkFromToIndex_8c36e 21 = .ok (.athrow, 1) := by decide +kernel
theorem dJ3_checkFromToIndex_8c36e_22 : decode cJ3_checkFromToIndex_8c36e 22 = .ok (.iload_n 0, 1) := by decide +kernel
theorem dJ3_checkFromToIndex_8c36e_23 : decode cJ3_checkFromToIndex_8c36e 23 = .ok (.ireturn, 1) := by decide +kernel
