theorem dX0_init_0 : decode cX0_init 0 = .ok (.aload_n 0, 1) := by decide +kernel
theorem dX0_init_1 : decode cX0_init 1 = .ok (.invokespecial 3, 3) := by decide +kernel
theorem dX0_init_4 : decode cX0_init 4 = .ok (.aload_n 0, 1) := by decide +kernel
theorem dX0_init_5 : decode cX0_init 5 = .ok (.iconst 4, 1) := by decide +kernel
theorem dX0_init_6 : decode cX0_init 6 = .ok (.newarray .int, 2) := by decide +kernel
theorem dX0_init_8 : decode cX0_init 8 = .ok (.putfield 9, 3) := by decide +kernel
theorem dX0_init_11 : decode cX0_init 11 = .ok (.aload_n 0, 1) := by decide +kernel
theorem dX0_init_12 : decode cX0_init 12 = .ok (.bipush 7, 2) := by decide +kernel
theorem dX0_init_14 : decode cX0_init 14 = .ok (.newarray .int, 2) := by decide +kernel
theorem dX0_init_16 : decode cX0_init 16 = .ok (.putfield 15, 3) := by decide +kernel
theorem dX0_init_19 : decode cX0_init 19 = .ok (.aload_n 0, 1) := by decide +kernel
theorem dX0_init_20 : decode cX0_init 20 = .ok (.bipush 10, 2) := by decide +kernel
theorem dX0_init_22 : decode cX0_init 22 = .ok (.newarray .int, 2) := by decide +kernel
theorem dX0_init_24 : decode cX0_init 24 = .ok (.putfield 18, 3) := by decide +kernel
theorem dX0_init_27 : decode cX0_init 27 = .ok (.aload_n 0, 1) := by decide +kernel
theorem dX0_init_28 : decode cX0_init 28 = .ok (.bipush 10, 2) := by decide +kernel
theorem dX0_init_30 : decode cX0_init 30 = .ok (.newarray .boolean, 2) := by decide +kernel
theorem dX0_init_32 : decode cX0_init 32 = .ok (.putfield 21, 3) := by decide +kernel
theorem dX0_init_35 : decode cX0_init 35 = .ok (.aload_n 0, 1) := by decide +kernel
theorem dX0_init_36 : decode cX0_init 36 = .ok (.bipush 10, 2) := by decide +kernel
theorem dX0_init_38 : decode cX0_init 38 = .ok (.newarray .int, 2) := by decide +kernel
theorem dX0_init_40 : decode cX0_init 40 = .ok (.putfield 25, 3) := by decide +kernel
theorem dX0_init_43 : decode cX0_init 43 = .ok (.aload_n 0, 1) := by decide +kernel
theorem dX0_init_44 : decode cX0_init 44 = .ok (.bipush 45, 2) := by decide +kernel
theorem dX0_init_46 : decode cX0_init 46 = .ok (.newarray .int, 2) := by decide +kernel
theorem dX0_init_48 : decode cX0_init 48 = .ok (.putfield 28, 3) := by decide +kernel
theorem dX0_init_51 : decode cX0_init 51 = .ok (.aload_n 0, 1) := by decide +kernel
theorem dX0_init_52 : decode cX0_init 52 = .ok (.bipush 36, 2) := by decide +kernel
theorem dX0_init_54 : decode cX0_init 54 = .ok (.newarray .int, 2) := by decide +kernel
theorem dX0_init_56 : decode cX0_init 56 = .ok (.putfield 31, 3) := by decide +kernel
theorem dX0_init_59 : decode cX0_init 59 = .ok (.aload_n 0, 1) := by decide +kernel
theorem dX0_init_60 : decode cX0_init 60 = .ok (.bipush 9, 2) := by decide +kernel
theorem dX0_init_62 : decode cX0_init 62 = .ok (.newarray .int, 2) := by decide +kernel
theorem dX0_init_64 : decode cX0_init 64 = .ok (.putfield 34, 3) := by decide +kernel
theorem dX0_init_67 : decode cX0_init 67 = .ok (.aload_n 0, 1) := by decide +kernel
theorem dX0_init_68 : decode cX0_init 68 = .ok (.bipush 9, 2) := by decide +kernel
theorem dX0_init_70 : decode cX0_init 70 = .ok (.newarray .boolean, 2) := by decide +kernel
theorem dX0_init_72 : decode cX0_init 72 = .ok (.putfield 37, 3) := by decide +kernel
theorem dX0_init_75 : decode cX0_init 75 = .ok (.aload_n 0, 1) := by decide +kernel
theorem dX0_init_76 : decode cX0_init 76 = .ok (.new 40, 3) := by decide +kernel
theorem dX0_init_79 : decode cX0_init 79 = .ok (.dup, 1) := by decide +kernel
theorem dX0_init_80 : decode cX0_init 80 = .ok (.invokespecial 42, 3) := by decide +kernel
theorem dX0_init_83 : decode cX0_init 83 = .ok (.putfield 43, 3) := by decide +kernel
theorem dX0_init_86 : decode cX0_init 86 = .ok (.aload_n 0, 1) := by decide +kernel
theorem dX0_init_87 : decode cX0_init 87 = .ok (.iconst 1, 1) := by decide +kernel
theorem dX0_init_88 : decode cX0_init 88 = .ok (.putfield 47, 3) := by decide +kernel
theorem dX0_init_91 : decode cX0_init 91 = .ok (.iconst 0, 1) := by decide +kernel
theorem dX0_init_92 : decode cX0_init 92 = .ok (.istore_n 1, 1) := by decide +kernel
theorem dX0_init_93 : decode cX0_init 93 = .ok (.iload_n 1, 1) := by decide +kernel
theorem dX0_init_94 : decode cX0_init 94 = .ok (.iconst 4, 1) := by decide +kernel
theorem dX0_init_95 : decode cX0_init 95 = .ok (.if_icmp .ge 17, 3) := by decide +kernel
theorem dX0_init_98 : decode cX0_init 98 = .ok (.aload_n 0, 1) := by decide +kernel
theorem dX0_init_99 : decode cX0_init 99 = .ok (.getfield 9, 3) := by decide +kernel
theorem dX0_init_102 : decode cX0_init 102 = .ok (.iload_n 1, 1) := by decide +kernel
theorem dX0_init_103 : decode cX0_init 103 = .ok (.bipush 50, 2) := by decide +kernel
theorem dX0_init_105 : decode cX0_init 105 = .ok (.iastore, 1) := by decide +kernel
theorem dX0_init_106 : decode cX0_init 106 = .ok (.iinc 1 1, 3) := by decide +kernel
theorem dX0_init_109 : decode cX0_init 109 = .ok (.goto (-16), 3) := by decide +kernel
theorem dX0_init_112 : decode cX0_init 112 = .ok (.iconst 0, 1) := by decide +kernel
theorem dX0_init_113 : decode cX0_init 113 = .ok (.istore_n 1, 1) := by decide +kernel
theorem dX0_init_114 : decode cX0_init 114 = .ok (.iload_n 1, 1) := by decide +kernel
theorem dX0_init_115 : decode cX0_init 115 = .ok (.bipush 7, 2) := by decide +kernel
theorem dX0_init_117 : decode cX0_init 117 = .ok (.if_icmp .ge 20, 3) := by decide +kernel
theorem dX0_init_120 : decode cX0_init 120 = .ok (.aload_n 0, 1) := by decide +kernel
theorem dX0_init_121 : decode cX0_init 121 = .ok (.getfield 15, 3) := by decide +kernel
theorem dX0_init_124 : decode cX0_init 124 = .ok (.iload_n 1, 1) := by decide +kernel
theorem dX0_init_125 : decode cX0_init 125 = .ok (.getstatic 51, 3) := by decide +kernel
theorem dX0_init_128 : decode cX0_init 128 = .ok (.iload_n 1, 1) := by decide +kernel
theorem dX0_init_129 : decode cX0_init 129 = .ok (.iaload, 1) := by decide +kernel
theorem dX0_init_130 : decode cX0_init 130 = .ok (.iastore, 1) := by decide +kernel
theorem dX0_init_131 : decode cX0_init 131 = .ok (.iinc 1 1, 3) := by decide +kernel
theorem dX0_init_134 : decode cX0_init 134 = .ok (.goto (-20), 3) := by decide +kernel
theorem dX0_init_137 : decode cX0_init 137 = .ok (.return_, 1) := by decide +kernel
theorem dX0_copyFrom_0 : decode cX0_copyFrom 0 = .ok (.aload_n 1, 1) := by decide +kernel
theorem dX0_copyFrom_1 : decode cX0_copyFrom 1 = .ok (.getfield 9, 3) := by decide +kernel
theorem dX0_copyFrom_4 : decode cX0_copyFrom 4 = .ok (.iconst 0, 1) := by decide +kernel
theorem dX0_copyFrom_5 : decode cX0_copyFrom 5 = .ok (.aload_n 0, 1) := by decide +kernel
theorem dX0_copyFrom_6 : decode cX0_copyFrom 6 = .ok (.getfield 9, 3) := by decide +kernel
theorem dX0_copyFrom_9 : decode cX0_copyFrom 9 = .ok (.iconst 0, 1) := by decide +kernel
theorem dX0_copyFrom_10 : decode cX0_copyFrom 10 = .ok (.iconst 4, 1) := by decide +kernel
theorem dX0_copyFrom_11 : decode cX0_copyFrom 11 = .ok (.invokestatic 54, 3) := by decide +kernel
theorem dX0_copyFrom_14 : decode cX0_copyFrom 14 = .ok (.aload_n 1, 1) := by decide +kernel
theorem dX0_copyFrom_15 : decode cX0_copyFrom 15 = .ok (.getfield 15, 3) := by decide +kernel
theorem dX0_copyFrom_18 : decode cX0_copyFrom 18 = .ok (.iconst 0, 1) := by decide +kernel
theorem dX0_copyFrom_19 : decode cX0_copyFrom 19 = .ok (.aload_n 0, 1) := by decide +kernel
theorem dX0_copyFrom_20 : decode cX0_copyFrom 20 = .ok (.getfield 15, 3) := by decide +kernel
theorem dX0_copyFrom_23 : decode cX0_copyFrom 23 = .ok (.iconst 0, 1) := by decide +kernel
theorem dX0_copyFrom_24 : decode cX0_copyFrom 24 = .ok (.bipush 7, 2) := by decide +kernel
theorem dX0_copyFrom_26 : decode cX0_copyFrom 26 = .ok (.invokestatic 54, 3) := by decide +kernel
theorem dX0_copyFrom_29 : decode cX0_copyFrom 29 = .ok (.aload_n 0, 1) := by decide +kernel
theorem dX0_copyFrom_30 : decode cX0_copyFrom 30 = .ok (.aload_n 1, 1) := by decide +kernel
theorem dX0_copyFrom_31 : decode cX0_copyFrom 31 = .ok (.getfield 60, 3) := by decide +kernel
theorem dX0_copyFrom_34 : decode cX0_copyFrom 34 = .ok (.putfield 60, 3) := by decide +kernel
theorem dX0_copyFrom_37 : decode cX0_copyFrom 37 = .ok (.aload_n 1, 1) := by decide +kernel
theorem dX0_copyFrom_38 : decode cX0_copyFrom 38 = .ok (.getfield 18, 3) := by decide +kernel
theorem dX0_copyFrom_41 : decode cX0_copyFrom 41 = .ok (.iconst 0, 1) := by decide +kernel
theorem dX0_copyFrom_42 : decode cX0_copyFrom 42 = .ok (.aload_n 0, 1) := by decide +kernel
theorem dX0_copyFrom_43 : decode cX0_copyFrom 43 = .ok (.getfield 18, 3) := by decide +kernel
theorem dX0_copyFrom_46 : decode cX0_copyFrom 46 = .ok (.iconst 0, 1) := by decide +kernel
theorem dX0_copyFrom_47 : decode cX0_copyFrom 47 = .ok (.bipush 10, 2) := by decide +kernel
theorem dX0_copyFrom_49 : decode cX0_copyFrom 49 = .ok (.invokestatic 54, 3) := by decide +kernel
theorem dX0_copyFrom_52 : decode cX0_copyFrom 52 = .ok (.aload_n 1, 1) := by decide +kernel
theorem dX0_copyFrom_53 : decode cX0_copyFrom 53 = .ok (.getfield 25, 3) := by decide +kernel
theorem dX0_copyFrom_56 : decode cX0_copyFrom 56 = .ok (.iconst 0, 1) := by decide +kernel
theorem dX0_copyFrom_57 : decode cX0_copyFrom 57 = .ok (.aload_n 0, 1) := by decide +kernel
theorem dX0_copyFrom_58 : decode cX0_copyFrom 58 = .ok (.getfield 25, 3) := by decide +kernel
theorem dX0_copyFrom_61 : decode cX0_copyFrom 61 = .ok (.iconst 0, 1) := by decide +kernel
theorem dX0_copyFrom_62 : decode cX0_copyFrom 62 = .ok (.bipush 10, 2) := by decide +kernel
theorem dX0_copyFrom_64 : decode cX0_copyFrom 64 = .ok (.invokestatic 54, 3) := by decide +kernel
theorem dX0_copyFrom_67 : decode cX0_copyFrom 67 = .ok (.aload_n 0, 1) := by decide +kernel
theorem dX0_copyFrom_68 : decode cX0_copyFrom 68 = .ok (.aload_n 1, 1) := by decide +kernel
theorem dX0_copyFrom_69 : decode cX0_copyFrom 69 = .ok (.getfield 63, 3) := by decide +kernel
theorem dX0_copyFrom_72 : decode cX0_copyFrom 72 = .ok (.putfield 63, 3) := by decide +kernel
theorem dX0_copyFrom_75 : decode cX0_copyFrom 75 = .ok (.aload_n 1, 1) := by decide +kernel
theorem dX0_copyFrom_76 : decode cX0_copyFrom 76 = .ok (.getfield 28, 3) := by decide +kernel
theorem dX0_copyFrom_79 : decode cX0_copyFrom 79 = .ok (.iconst 0, 1) := by decide +kernel
theorem dX0_copyFrom_80 : decode cX0_copyFrom 80 = .ok (.aload_n 0, 1) := by decide +kernel
theorem dX0_copyFrom_81 : decode cX0_copyFrom 81 = .ok (.getfield 28, 3) := by decide +kernel
theorem dX0_copyFrom_84 : decode cX0_copyFrom 84 = .ok (.iconst 0, 1) := by decide +kernel
theorem dX0_copyFrom_85 : decode cX0_copyFrom 85 = .ok (.bipush 45, 2) := by decide +kernel
theorem dX0_copyFrom_87 : decode cX0_copyFrom 87 = .ok (.invokestatic 54, 3) := by decide +kernel
theorem dX0_copyFrom_90 : decode cX0_copyFrom 90 = .ok (.aload_n 1, 1) := by decide +kernel
theorem dX0_copyFrom_91 : decode cX0_copyFrom 91 = .ok (.getfield 31, 3) := by decide +kernel
theorem dX0_copyFrom_94 : decode cX0_copyFrom 94 = .ok (.iconst 0, 1) := by decide +kernel
theorem dX0_copyFrom_95 : decode cX0_copyFrom 95 = .ok (.aload_n 0, 1) := by decide +kernel
theorem dX0_copyFrom_96 : decode cX0_copyFrom 96 = .ok (.getfield 31, 3) := by decide +kernel
theorem dX0_copyFrom_99 : decode cX0_copyFrom 99 = .ok (.iconst 0, 1) := by decide +kernel
theorem dX0_copyFrom_100 : decode cX0_copyFrom 100 = .ok (.bipush 36, 2) := by decide +kernel
theorem dX0_copyFrom_102 : decode cX0_copyFrom 102 = .ok (.invokestatic 54, 3) := by decide +kernel
theorem dX0_copyFrom_105 : decode cX0_copyFrom 105 = .ok (.aload_n 1, 1) := by decide +kernel
theorem dX0_copyFrom_106 : decode cX0_copyFrom 106 = .ok (.getfield 34, 3) := by decide +kernel
theorem dX0_copyFrom_109 : decode cX0_copyFrom 109 = .ok (.iconst 0, 1) := by decide +kernel
theorem dX0_copyFrom_110 : decode cX0_copyFrom 110 = .ok (.aload_n 0, 1) := by decide +kernel
theorem dX0_copyFrom_111 : decode cX0_copyFrom 111 = .ok (.getfield 34, 3) := by decide +kernel
theorem dX0_copyFrom_114 : decode cX0_copyFrom 114 = .ok (.iconst 0, 1) := by decide +kernel
theorem dX0_copyFrom_115 : decode cX0_copyFrom 115 = .ok (.bipush 9, 2) := by decide +kernel
theorem dX0_copyFrom_117 : decode cX0_copyFrom 117 = .ok (.invokestatic 54, 3) := by decide +kernel
theorem dX0_copyFrom_120 : decode cX0_copyFrom 120 = .ok (.iconst 0, 1) := by decide +kernel
theorem dX0_copyFrom_121 : decode cX0_copyFrom 121 = .ok (.istore_n 2, 1) := by decide +kernel
theorem dX0_copyFrom_122 : decode cX0_copyFrom 122 = .ok (.iload_n 2, 1) := by decide +kernel
theorem dX0_copyFrom_123 : decode cX0_copyFrom 123 = .ok (.bipush 10, 2) := by decide +kernel
theorem dX0_copyFrom_125 : decode cX0_copyFrom 125 = .ok (.if_icmp .ge 21, 3) := by decide +kernel
theorem dX0_copyFrom_128 : decode cX0_copyFrom 128 = .ok (.aload_n 0, 1) := by decide +kernel
theorem dX0_copyFrom_129 : decode cX0_copyFrom 129 = .ok (.getfield 21, 3) := by decide +kernel
theorem dX0_copyFrom_132 : decode cX0_copyFrom 132 = .ok (.iload_n 2, 1) := by decide +kernel
theorem dX0_copyFrom_133 : decode cX0_copyFrom 133 = .ok (.aload_n 1, 1) := by decide +kernel
theorem dX0_copyFrom_134 : decode cX0_copyFrom 134 = .ok (.getfield 21, 3) := by decide +kernel
theorem dX0_copyFrom_137 : decode cX0_copyFrom 137 = .ok (.iload_n 2, 1) := by decide +kernel
theorem dX0_copyFrom_138 : decode cX0_copyFrom 138 = .ok (.baload, 1) := by decide +kernel
theorem dX0_copyFrom_139 : decode cX0_copyFrom 139 = .ok (.bastore, 1) := by decide +kernel
theorem dX0_copyFrom_140 : decode cX0_copyFrom 140 = .ok (.iinc 2 1, 3) := by decide +kernel
theorem dX0_copyFrom_143 : decode cX0_copyFrom 143 = .ok (.goto (-21), 3) := by decide +kernel
theorem dX0_copyFrom_146 : decode cX0_copyFrom 146 = .ok (.iconst 0, 1) := by decide +kernel
theorem dX0_copyFrom_147 : decode cX0_copyFrom 147 = .ok (.istore_n 2, 1) := by decide +kernel
theorem dX0_copyFrom_148 : decode cX0_copyFrom 148 = .ok (.iload_n 2, 1) := by decide +kernel
theorem dX0_copyFrom_149 : decode cX0_copyFrom 149 = .ok (.bipush 9, 2) := by decide +kernel
theorem dX0_copyFrom_151 : decode cX0_copyFrom 151 = .ok (.if_icmp .ge 21, 3) := by decide +kernel
theorem dX0_copyFrom_154 : decode cX0_copyFrom 154 = .ok (.aload_n 0, 1) := by decide +kernel
theorem dX0_copyFrom_155 : decode cX0_copyFrom 155 = .ok (.getfield 37, 3) := by decide +kernel
theorem dX0_copyFrom_158 : decode cX0_copyFrom 158 = .ok (.iload_n 2, 1) := by decide +kernel
theorem dX0_copyFrom_159 : decode cX0_copyFrom 159 = .ok (.aload_n 1, 1) := by decide +kernel
theorem dX0_copyFrom_160 : decode cX0_copyFrom 160 = .ok (.getfield 37, 3) := by decide +kernel
theorem dX0_copyFrom_163 : decode cX0_copyFrom 163 = .ok (.iload_n 2, 1) := by decide +kernel
theorem dX0_copyFrom_164 : decode cX0_copyFrom 164 = .ok (.baload, 1) := by decide +kernel
theorem dX0_copyFrom_165 : decode cX0_copyFrom 165 = .ok (.bastore, 1) := by decide +kernel
theorem dX0_copyFrom_166 : decode cX0_copyFrom 166 = .ok (.iinc 2 1, 3) := by decide +kernel
theorem dX0_copyFrom_169 : decode cX0_copyFrom 169 = .ok (.goto (-21), 3) := by decide +kernel
theorem dX0_copyFrom_172 : decode cX0_copyFrom 172 = .ok (.aload_n 0, 1) := by decide +kernel
theorem dX0_copyFrom_173 : decode cX0_copyFrom 173 = .ok (.getfield 43, 3) := by decide +kernel
theorem dX0_copyFrom_176 : decode cX0_copyFrom 176 = .ok (.aload_n 1, 1) := by decide +kernel
theorem dX0_copyFrom_177 : decode cX0_copyFrom 177 = .ok (.getfield 43, 3) := by decide +kernel
theorem dX0_copyFrom_180 : decode cX0_copyFrom 180 = .ok (.invokevirtual 66, 3) := by decide +kernel
theorem dX0_copyFrom_183 : decode cX0_copyFrom 183 = .ok (.aload_n 0, 1) := by decide +kernel
theorem dX0_copyFrom_184 : decode cX0_copyFrom 184 = .ok (.aload_n 1, 1) := by decide +kernel
theorem dX0_copyFrom_185 : decode cX0_copyFrom 185 = .ok (.getfield 47, 3) := by decide +kernel
theorem dX0_copyFrom_188 : decode cX0_copyFrom 188 = .ok (.putfield 47, 3) := by decide +kernel
theorem dX0_copyFrom_191 : decode cX0_copyFrom 191 = .ok (.return_, 1) := by decide +kernel
theorem dX0_isPerson_0 : decode cX0_isPerson 0 = .ok (.iload_n 1, 1) := by decide +kernel
theorem dX0_isPerson_1 : decode cX0_isPerson 1 = .ok (.ifCond .lt 15, 3) := by decide +kernel
theorem dX0_isPerson_4 : decode cX0_isPerson 4 = .ok (.iload_n 1, 1) := by decide +kernel
theorem dX0_isPerson_5 : decode cX0_isPerson 5 = .ok (.aload_n 0, 1) := by decide +kernel
theorem dX0_isPerson_6 : decode cX0_isPerson 6 = .ok (.getfield 60, 3) := by decide +kernel
theorem dX0_isPerson_9 : decode cX0_isPerson 9 = .ok (.if_icmp .ge 7, 3) := by decide +kernel
theorem dX0_isPerson_12 : decode cX0_isPerson 12 = .ok (.iconst 1, 1) := by decide +kernel
theorem dX0_isPerson_13 : decode cX0_isPerson 13 = .ok (.goto 4, 3) := by decide +kernel
theorem dX0_isPerson_16 : decode cX0_isPerson 16 = .ok (.iconst 0, 1) := by decide +kernel
theorem dX0_isPerson_17 : decode cX0_isPerson 17 = .ok (.ireturn, 1) := by decide +kernel
theorem dX0_isClaim_0 : decode cX0_isClaim 0 = .ok (.iload_n 1, 1) := by decide +kernel
theorem dX0_isClaim_1 : decode cX0_isClaim 1 = .ok (.ifCond .lt 15, 3) := by decide +kernel
theorem dX0_isClaim_4 : decode cX0_isClaim 4 = .ok (.iload_n 1, 1) := by decide +kernel
theorem dX0_isClaim_5 : decode cX0_isClaim 5 = .ok (.aload_n 0, 1) := by decide +kernel
theorem dX0_isClaim_6 : decode cX0_isClaim 6 = .ok (.getfield 63, 3) := by decide +kernel
theorem dX0_isClaim_9 : decode cX0_isClaim 9 = .ok (.if_icmp .ge 7, 3) := by decide +kernel
theorem dX0_isClaim_12 : decode cX0_isClaim 12 = .ok (.iconst 1, 1) := by decide +kernel
theorem dX0_isClaim_13 : decode cX0_isClaim 13 = .ok (.goto 4, 3) := by decide +kernel
theorem dX0_isClaim_16 : decode cX0_isClaim 16 = .ok (.iconst 0, 1) := by decide +kernel
theorem dX0_isClaim_17 : decode cX0_isClaim 17 = .ok (.ireturn, 1) := by decide +kernel
theorem dX0_allClaims_0 : decode cX0_allClaims 0 = .ok (.iconst 1, 1) := by decide +kernel
theorem dX0_allClaims_1 : decode cX0_allClaims 1 = .ok (.aload_n 0, 1) := by decide +kernel
theorem dX0_allClaims_2 : decode cX0_allClaims 2 = .ok (.getfield 63, 3) := by decide +kernel
theorem dX0_allClaims_5 : decode cX0_allClaims 5 = .ok (.ishl, 1) := by decide +kernel
theorem dX0_allClaims_6 : decode cX0_allClaims 6 = .ok (.iconst 1, 1) := by decide +kernel
theorem dX0_allClaims_7 : decode cX0_allClaims 7 = .ok (.isub, 1) := by decide +kernel
theorem dX0_allClaims_8 : decode cX0_allClaims 8 = .ok (.ireturn, 1) := by decide +kernel
theorem dX0_addPerson_0 : decode cX0_addPerson 0 = .ok (.aload_n 0, 1) := by decide +kernel
theorem dX0_addPerson_1 : decode cX0_addPerson 1 = .ok (.getfield 60, 3) := by decide +kernel
theorem dX0_addPerson_4 : decode cX0_addPerson 4 = .ok (.bipush 10, 2) := by decide +kernel
theorem dX0_addPerson_6 : decode cX0_addPerson 6 = .ok (.if_icmp .lt 6, 3) := by decide +kernel
theorem dX0_addPerson_9 : decode cX0_addPerson 9 = .ok (.bipush (-2), 2) := by decide +kernel
theorem dX0_addPerson_11 : decode cX0_addPerson 11 = .ok (.ireturn, 1) := by decide +kernel
theorem dX0_addPerson_12 : decode cX0_addPerson 12 = .ok (.aload_n 0, 1) := by decide +kernel
theorem dX0_addPerson_13 : decode cX0_addPerson 13 = .ok (.getfield 18, 3) := by decide +kernel
theorem dX0_addPerson_16 : decode cX0_addPerson 16 = .ok (.aload_n 0, 1) := by decide +kernel
theorem dX0_addPerson_17 : decode cX0_addPerson 17 = .ok (.getfield 60, 3) := by decide +kernel
theorem dX0_addPerson_20 : decode cX0_addPerson 20 = .ok (.iload_n 1, 1) := by decide +kernel
theorem dX0_addPerson_21 : decode cX0_addPerson 21 = .ok (.iastore, 1) := by decide +kernel
theorem dX0_addPerson_22 : decode cX0_addPerson 22 = .ok (.aload_n 0, 1) := by decide +kernel
theorem dX0_addPerson_23 : decode cX0_addPerson 23 = .ok (.getfield 21, 3) := by decide +kernel
theorem dX0_addPerson_26 : decode cX0_addPerson 26 = .ok (.aload_n 0, 1) := by decide +kernel
theorem dX0_addPerson_27 : decode cX0_addPerson 27 = .ok (.getfield 60, 3) := by decide +kernel
theorem dX0_addPerson_30 : decode cX0_addPerson 30 = .ok (.iload_n 2, 1) := by decide +kernel
theorem dX0_addPerson_31 : decode cX0_addPerson 31 = .ok (.bastore, 1) := by decide +kernel
theorem dX0_addPerson_32 : decode cX0_addPerson 32 = .ok (.aload_n 0, 1) := by decide +kernel
theorem dX0_addPerson_33 : decode cX0_addPerson 33 = .ok (.getfield 25, 3) := by decide +kernel
theorem dX0_addPerson_36 : decode cX0_addPerson 36 = .ok (.aload_n 0, 1) := by decide +kernel
theorem dX0_addPerson_37 : decode cX0_addPerson 37 = .ok (.getfield 60, 3) := by decide +kernel
theorem dX0_addPerson_40 : decode cX0_addPerson 40 = .ok (.aload_n 0, 1) := by decide +kernel
theorem dX0_addPerson_41 : decode cX0_addPerson 41 = .ok (.getfield 60, 3) := by decide +kernel
theorem dX0_addPerson_44 : decode cX0_addPerson 44 = .ok (.iastore, 1) := by decide +kernel
theorem dX0_addPerson_45 : decode cX0_addPerson 45 = .ok (.aload_n 0, 1) := by decide +kernel
theorem dX0_addPerson_46 : decode cX0_addPerson 46 = .ok (.dup, 1) := by decide +kernel
theorem dX0_addPerson_47 : decode cX0_addPerson 47 = .ok (.getfield 60, 3) := by decide +kernel
theorem dX0_addPerson_50 : decode cX0_addPerson 50 = .ok (.dup_x1, 1) := by decide +kernel
theorem dX0_addPerson_51 : decode cX0_addPerson 51 = .ok (.iconst 1, 1) := by decide +kernel
theorem dX0_addPerson_52 : decode cX0_addPerson 52 = .ok (.iadd, 1) := by decide +kernel
theorem dX0_addPerson_53 : decode cX0_addPerson 53 = .ok (.putfield 60, 3) := by decide +kernel
theorem dX0_addPerson_56 : decode cX0_addPerson 56 = .ok (.ireturn, 1) := by decide +kernel
theorem dX0_addClaim_0 : decode cX0_addClaim 0 = .ok (.aload_n 0, 1) := by decide +kernel
theorem dX0_addClaim_1 : decode cX0_addClaim 1 = .ok (.getfield 63, 3) := by decide +kernel
theorem dX0_addClaim_4 : decode cX0_addClaim 4 = .ok (.bipush 9, 2) := by decide +kernel
theorem dX0_addClaim_6 : decode cX0_addClaim 6 = .ok (.if_icmp .lt 6, 3) := by decide +kernel
theorem dX0_addClaim_9 : decode cX0_addClaim 9 = .ok (.bipush (-2), 2) := by decide +kernel
theorem dX0_addClaim_11 : decode cX0_addClaim 11 = .ok (.ireturn, 1) := by decide +kernel
theorem dX0_addClaim_12 : decode cX0_addClaim 12 = .ok (.aload_n 0, 1) := by decide +kernel
theorem dX0_addClaim_13 : decode cX0_addClaim 13 = .ok (.getfield 63, 3) := by decide +kernel
theorem dX0_addClaim_16 : decode cX0_addClaim 16 = .ok (.iconst 5, 1) := by decide +kernel
theorem dX0_addClaim_17 : decode cX0_addClaim 17 = .ok (.imul, 1) := by decide +kernel
theorem dX0_addClaim_18 : decode cX0_addClaim 18 = .ok (.istore 6, 2) := by decide +kernel
theorem dX0_addClaim_20 : decode cX0_addClaim 20 = .ok (.aload_n 0, 1) := by decide +kernel
theorem dX0_addClaim_21 : decode cX0_addClaim 21 = .ok (.getfield 28, 3) := by decide +kernel
theorem dX0_addClaim_24 : decode cX0_addClaim 24 = .ok (.iload 6, 2) := by decide +kernel
theorem dX0_addClaim_26 : decode cX0_addClaim 26 = .ok (.iconst 0, 1) := by decide +kernel
theorem dX0_addClaim_27 : decode cX0_addClaim 27 = .ok (.iadd, 1) := by decide +kernel
theorem dX0_addClaim_28 : decode cX0_addClaim 28 = .ok (.iload_n 1, 1) := by decide +kernel
theorem dX0_addClaim_29 : decode cX0_addClaim 29 = .ok (.iastore, 1) := by decide +kernel
theorem dX0_addClaim_30 : decode cX0_addClaim 30 = .ok (.aload_n 0, 1) := by decide +kernel
theorem dX0_addClaim_31 : decode cX0_addClaim 31 = .ok (.getfield 28, 3) := by decide +kernel
theorem dX0_addClaim_34 : decode cX0_addClaim 34 = .ok (.iload 6, 2) := by decide +kernel
theorem dX0_addClaim_36 : decode cX0_addClaim 36 = .ok (.iconst 1, 1) := by decide +kernel
theorem dX0_addClaim_37 : decode cX0_addClaim 37 = .ok (.iadd, 1) := by decide +kernel
theorem dX0_addClaim_38 : decode cX0_addClaim 38 = .ok (.iload_n 2, 1) := by decide +kernel
theorem dX0_addClaim_39 : decode cX0_addClaim 39 = .ok (.iastore, 1) := by decide +kernel
theorem dX0_addClaim_40 : decode cX0_addClaim 40 = .ok (.aload_n 0, 1) := by decide +kernel
theorem dX0_addClaim_41 : decode cX0_addClaim 41 = .ok (.getfield 28, 3) := by decide +kernel
theorem dX0_addClaim_44 : decode cX0_addClaim 44 = .ok (.iload 6, 2) := by decide +kernel
theorem dX0_addClaim_46 : decode cX0_addClaim 46 = .ok (.iconst 2, 1) := by decide +kernel
theorem dX0_addClaim_47 : decode cX0_addClaim 47 = .ok (.iadd, 1) := by decide +kernel
theorem dX0_addClaim_48 : decode cX0_addClaim 48 = .ok (.iload_n 3, 1) := by decide +kernel
theorem dX0_addClaim_49 : decode cX0_addClaim 49 = .ok (.iastore, 1) := by decide +kernel
theorem dX0_addClaim_50 : decode cX0_addClaim 50 = .ok (.aload_n 0, 1) := by decide +kernel
theorem dX0_addClaim_51 : decode cX0_addClaim 51 = .ok (.getfield 28, 3) := by decide +kernel
theorem dX0_addClaim_54 : decode cX0_addClaim 54 = .ok (.iload 6, 2) := by decide +kernel
theorem dX0_addClaim_56 : decode cX0_addClaim 56 = .ok (.iconst 3, 1) := by decide +kernel
theorem dX0_addClaim_57 : decode cX0_addClaim 57 = .ok (.iadd, 1) := by decide +kernel
theorem dX0_addClaim_58 : decode cX0_addClaim 58 = .ok (.iload 4, 2) := by decide +kernel
theorem dX0_addClaim_60 : decode cX0_addClaim 60 = .ok (.iastore, 1) := by decide +kernel
theorem dX0_addClaim_61 : decode cX0_addClaim 61 = .ok (.aload_n 0, 1) := by decide +kernel
theorem dX0_addClaim_62 : decode cX0_addClaim 62 = .ok (.getfield 28, 3) := by decide +kernel
theorem dX0_addClaim_65 : decode cX0_addClaim 65 = .ok (.iload 6, 2) := by decide +kernel
theorem dX0_addClaim_67 : decode cX0_addClaim 67 = .ok (.iconst 4, 1) := by decide +kernel
theorem dX0_addClaim_68 : decode cX0_addClaim 68 = .ok (.iadd, 1) := by decide +kernel
theorem dX0_addClaim_69 : decode cX0_addClaim 69 = .ok (.iload 5, 2) := by decide +kernel
theorem dX0_addClaim_71 : decode cX0_addClaim 71 = .ok (.iastore, 1) := by decide +kernel
theorem dX0_addClaim_72 : decode cX0_addClaim 72 = .ok (.iconst 0, 1) := by decide +kernel
theorem dX0_addClaim_73 : decode cX0_addClaim 73 = .ok (.istore 7, 2) := by decide +kernel
theorem dX0_addClaim_75 : decode cX0_addClaim 75 = .ok (.iload 7, 2) := by decide +kernel
theorem dX0_addClaim_77 : decode cX0_addClaim 77 = .ok (.iconst 4, 1) := by decide +kernel
theorem dX0_addClaim_78 : decode cX0_addClaim 78 = .ok (.if_icmp .ge 25, 3) := by decide +kernel
theorem dX0_addClaim_81 : decode cX0_addClaim 81 = .ok (.aload_n 0, 1) := by decide +kernel
theorem dX0_addClaim_82 : decode cX0_addClaim 82 = .ok (.getfield 31, 3) := by decide +kernel
theorem dX0_addClaim_85 : decode cX0_addClaim 85 = .ok (.aload_n 0, 1) := by decide +kernel
theorem dX0_addClaim_86 : decode cX0_addClaim 86 = .ok (.getfield 63, 3) := by decide +kernel
theorem dX0_addClaim_89 : decode cX0_addClaim 89 = .ok (.iconst 4, 1) := by decide +kernel
theorem dX0_addClaim_90 : decode cX0_addClaim 90 = .ok (.imul, 1) := by decide +kernel
theorem dX0_addClaim_91 : decode cX0_addClaim 91 = .ok (.iload 7, 2) := by decide +kernel
theorem dX0_addClaim_93 : decode cX0_addClaim 93 = .ok (.iadd, 1) := by decide +kernel
theorem dX0_addClaim_94 : decode cX0_addClaim 94 = .ok (.bipush (-9), 2) := by decide +kernel
theorem dX0_addClaim_96 : decode cX0_addClaim 96 = .ok (.iastore, 1) := by decide +kernel
theorem dX0_addClaim_97 : decode cX0_addClaim 97 = .ok (.iinc 7 1, 3) := by decide +kernel
theorem dX0_addClaim_100 : decode cX0_addClaim 100 = .ok (.goto (-25), 3) := by decide +kernel
theorem dX0_addClaim_103 : decode cX0_addClaim 103 = .ok (.aload_n 0, 1) := by decide +kernel
theorem dX0_addClaim_104 : decode cX0_addClaim 104 = .ok (.getfield 34, 3) := by decide +kernel
theorem dX0_addClaim_107 : decode cX0_addClaim 107 = .ok (.aload_n 0, 1) := by decide +kernel
theorem dX0_addClaim_108 : decode cX0_addClaim 108 = .ok (.getfield 63, 3) := by decide +kernel
theorem dX0_addClaim_111 : decode cX0_addClaim 111 = .ok (.bipush (-9), 2) := by decide +kernel
theorem dX0_addClaim_113 : decode cX0_addClaim 113 = .ok (.iastore, 1) := by decide +kernel
theorem dX0_addClaim_114 : decode cX0_addClaim 114 = .ok (.aload_n 0, 1) := by decide +kernel
theorem dX0_addClaim_115 : decode cX0_addClaim 115 = .ok (.getfield 37, 3) := by decide +kernel
theorem dX0_addClaim_118 : decode cX0_addClaim 118 = .ok (.aload_n 0, 1) := by decide +kernel
theorem dX0_addClaim_119 : decode cX0_addClaim 119 = .ok (.getfield 63, 3) := by decide +kernel
theorem dX0_addClaim_122 : decode cX0_addClaim 122 = .ok (.iconst 0, 1) := by decide +kernel
theorem dX0_addClaim_123 : decode cX0_addClaim 123 = .ok (.bastore, 1) := by decide +kernel
theorem dX0_addClaim_124 : decode cX0_addClaim 124 = .ok (.aload_n 0, 1) := by decide +kernel
theorem dX0_addClaim_125 : decode cX0_addClaim 125 = .ok (.dup, 1) := by decide +kernel
theorem dX0_addClaim_126 : decode cX0_addClaim 126 = .ok (.getfield 63, 3) := by decide +kernel
theorem dX0_addClaim_129 : decode cX0_addClaim 129 = .ok (.dup_x1, 1) := by decide +kernel
theorem dX0_addClaim_130 : decode cX0_addClaim 130 = .ok (.iconst 1, 1) := by decide +kernel
theorem dX0_addClaim_131 : decode cX0_addClaim 131 = .ok (.iadd, 1) := by decide +kernel
theorem dX0_addClaim_132 : decode cX0_addClaim 132 = .ok (.putfield 63, 3) := by decide +kernel
theorem dX0_addClaim_135 : decode cX0_addClaim 135 = .ok (.ireturn, 1) := by decide +kernel
theorem dX0_fact_0 : decode cX0_fact 0 = .ok (.aload_n 0, 1) := by decide +kernel
theorem dX0_fact_1 : decode cX0_fact 1 = .ok (.iload_n 1, 1) := by decide +kernel
theorem dX0_fact_2 : decode cX0_fact 2 = .ok (.invokevirtual 70, 3) := by decide +kernel
theorem dX0_fact_5 : decode cX0_fact 5 = .ok (.ifCond .eq 12, 3) := by decide +kernel
theorem dX0_fact_8 : decode cX0_fact 8 = .ok (.iload_n 2, 1) := by decide +kernel
theorem dX0_fact_9 : decode cX0_fact 9 = .ok (.ifCond .lt 8, 3) := by decide +kernel
theorem dX0_fact_12 : decode cX0_fact 12 = .ok (.iload_n 2, 1) := by decide +kernel
theorem dX0_fact_13 : decode cX0_fact 13 = .ok (.iconst 5, 1) := by decide +kernel
theorem dX0_fact_14 : decode cX0_fact 14 = .ok (.if_icmp .lt 5, 3) := by decide +kernel
theorem dX0_fact_17 : decode cX0_fact 17 = .ok (.iconst 0, 1) := by decide +kernel
theorem dX0_fact_18 : decode cX0_fact 18 = .ok (.ireturn, 1) := by decide +kernel
theorem dX0_fact_19 : decode cX0_fact 19 = .ok (.aload_n 0, 1) := by decide +kernel
theorem dX0_fact_20 : decode cX0_fact 20 = .ok (.getfield 28, 3) := by decide +kernel
theorem dX0_fact_23 : decode cX0_fact 23 = .ok (.iload_n 1, 1) := by decide +kernel
theorem dX0_fact_24 : decode cX0_fact 24 = .ok (.iconst 5, 1) := by decide +kernel
theorem dX0_fact_25 : decode cX0_fact 25 = .ok (.imul, 1) := by decide +kernel
theorem dX0_fact_26 : decode cX0_fact 26 = .ok (.iload_n 2, 1) := by decide +kernel
theorem dX0_fact_27 : decode cX0_fact 27 = .ok (.iadd, 1) := by decide +kernel
theorem dX0_fact_28 : decode cX0_fact 28 = .ok (.iaload, 1) := by decide +kernel
theorem dX0_fact_29 : decode cX0_fact 29 = .ok (.ireturn, 1) := by decide +kernel
theorem dX0_law_0 : decode cX0_law 0 = .ok (.iload_n 1, 1) := by decide +kernel
theorem dX0_law_1 : decode cX0_law 1 = .ok (.ifCond .lt 18, 3) := by decide +kernel
theorem dX0_law_4 : decode cX0_law 4 = .ok (.iload_n 1, 1) := by decide +kernel
theorem dX0_law_5 : decode cX0_law 5 = .ok (.bipush 7, 2) := by decide +kernel
theorem dX0_law_7 : decode cX0_law 7 = .ok (.if_icmp .ge 12, 3) := by decide +kernel
theorem dX0_law_10 : decode cX0_law 10 = .ok (.aload_n 0, 1) := by decide +kernel
theorem dX0_law_11 : decode cX0_law 11 = .ok (.getfield 15, 3) := by decide +kernel
theorem dX0_law_14 : decode cX0_law 14 = .ok (.iload_n 1, 1) := by decide +kernel
theorem dX0_law_15 : decode cX0_law 15 = .ok (.iaload, 1) := by decide +kernel
theorem dX0_law_16 : decode cX0_law 16 = .ok (.goto 4, 3) := by decide +kernel
theorem dX0_law_19 : decode cX0_law 19 = .ok (.iconst 0, 1) := by decide +kernel
theorem dX0_law_20 : decode cX0_law 20 = .ok (.ireturn, 1) := by decide +kernel
theorem dX0_sitter_0 : decode cX0_sitter 0 = .ok (.iload_n 1, 1) := by decide +kernel
theorem dX0_sitter_1 : decode cX0_sitter 1 = .ok (.ifCond .lt 20, 3) := by decide +kernel
theorem dX0_sitter_4 : decode cX0_sitter 4 = .ok (.iload_n 1, 1) := by decide +kernel
theorem dX0_sitter_5 : decode cX0_sitter 5 = .ok (.aload_n 0, 1) := by decide +kernel
theorem dX0_sitter_6 : decode cX0_sitter 6 = .ok (.getfield 63, 3) := by decide +kernel
theorem dX0_sitter_9 : decode cX0_sitter 9 = .ok (.if_icmp .ge 12, 3) := by decide +kernel
theorem dX0_sitter_12 : decode cX0_sitter 12 = .ok (.iload_n 2, 1) := by decide +kernel
theorem dX0_sitter_13 : decode cX0_sitter 13 = .ok (.ifCond .lt 8, 3) := by decide +kernel
theorem dX0_sitter_16 : decode cX0_sitter 16 = .ok (.iload_n 2, 1) := by decide +kernel
theorem dX0_sitter_17 : decode cX0_sitter 17 = .ok (.iconst 4, 1) := by decide +kernel
theorem dX0_sitter_18 : decode cX0_sitter 18 = .ok (.if_icmp .lt 6, 3) := by decide +kernel
theorem dX0_sitter_21 : decode cX0_sitter 21 = .ok (.bipush (-9), 2) := by decide +kernel
theorem dX0_sitter_23 : decode cX0_sitter 23 = .ok (.ireturn, 1) := by decide +kernel
theorem dX0_sitter_24 : decode cX0_sitter 24 = .ok (.aload_n 0, 1) := by decide +kernel
theorem dX0_sitter_25 : decode cX0_sitter 25 = .ok (.getfield 31, 3) := by decide +kernel
theorem dX0_sitter_28 : decode cX0_sitter 28 = .ok (.iload_n 1, 1) := by decide +kernel
theorem dX0_sitter_29 : decode cX0_sitter 29 = .ok (.iconst 4, 1) := by decide +kernel
theorem dX0_sitter_30 : decode cX0_sitter 30 = .ok (.imul, 1) := by decide +kernel
theorem dX0_sitter_31 : decode cX0_sitter 31 = .ok (.iload_n 2, 1) := by decide +kernel
theorem dX0_sitter_32 : decode cX0_sitter 32 = .ok (.iadd, 1) := by decide +kernel
theorem dX0_sitter_33 : decode cX0_sitter 33 = .ok (.iaload, 1) := by decide +kernel
theorem dX0_sitter_34 : decode cX0_sitter 34 = .ok (.ireturn, 1) := by decide +kernel
theorem dX0_oneAt_0 : decode cX0_oneAt 0 = .ok (.aload_n 0, 1) := by decide +kernel
theorem dX0_oneAt_1 : decode cX0_oneAt 1 = .ok (.iload_n 1, 1) := by decide +kernel
theorem dX0_oneAt_2 : decode cX0_oneAt 2 = .ok (.iload_n 2, 1) := by decide +kernel
theorem dX0_oneAt_3 : decode cX0_oneAt 3 = .ok (.invokevirtual 74, 3) := by decide +kernel
theorem dX0_oneAt_6 : decode cX0_oneAt 6 = .ok (.istore_n 3, 1) := by decide +kernel
theorem dX0_oneAt_7 : decode cX0_oneAt 7 = .ok (.aload_n 0, 1) := by decide +kernel
theorem dX0_oneAt_8 : decode cX0_oneAt 8 = .ok (.iload_n 3, 1) := by decide +kernel
theorem dX0_oneAt_9 : decode cX0_oneAt 9 = .ok (.invokevirtual 78, 3) := by decide +kernel
theorem dX0_oneAt_12 : decode cX0_oneAt 12 = .ok (.ifCond .eq 12, 3) := by decide +kernel
theorem dX0_oneAt_15 : decode cX0_oneAt 15 = .ok (.aload_n 0, 1) := by decide +kernel
theorem dX0_oneAt_16 : decode cX0_oneAt 16 = .ok (.getfield 25, 3) := by decide +kernel
theorem dX0_oneAt_19 : decode cX0_oneAt 19 = .ok (.iload_n 3, 1) := by decide +kernel
theorem dX0_oneAt_20 : decode cX0_oneAt 20 = .ok (.iaload, 1) := by decide +kernel
theorem dX0_oneAt_21 : decode cX0_oneAt 21 = .ok (.goto 5, 3) := by decide +kernel
theorem dX0_oneAt_24 : decode cX0_oneAt 24 = .ok (.bipush (-9), 2) := by decide +kernel
theorem dX0_oneAt_26 : decode cX0_oneAt 26 = .ok (.ireturn, 1) := by decide +kernel
theorem dX0_isIn_0 : decode cX0_isIn 0 = .ok (.aload_n 0, 1) := by decide +kernel
theorem dX0_isIn_1 : decode cX0_isIn 1 = .ok (.iload_n 1, 1) := by decide +kernel
theorem dX0_isIn_2 : decode cX0_isIn 2 = .ok (.iconst (-1), 1) := by decide +kernel
theorem dX0_isIn_3 : decode cX0_isIn 3 = .ok (.iload_n 2, 1) := by decide +kernel
theorem dX0_isIn_4 : decode cX0_isIn 4 = .ok (.invokevirtual 81, 3) := by decide +kernel
theorem dX0_isIn_7 : decode cX0_isIn 7 = .ok (.ireturn, 1) := by decide +kernel
theorem dX0_isElsewhere_0 : decode cX0_isElsewhere 0 = .ok (.iconst 0, 1) := by decide +kernel
theorem dX0_isElsewhere_1 : decode cX0_isElsewhere 1 = .ok (.istore 4, 2) := by decide +kernel
theorem dX0_isElsewhere_3 : decode cX0_isElsewhere 3 = .ok (.iload 4, 2) := by decide +kernel
theorem dX0_isElsewhere_5 : decode cX0_isElsewhere 5 = .ok (.iconst 4, 1) := by decide +kernel
theorem dX0_isElsewhere_6 : decode cX0_isElsewhere 6 = .ok (.if_icmp .ge 28, 3) := by decide +kernel
theorem dX0_isElsewhere_9 : decode cX0_isElsewhere 9 = .ok (.iload 4, 2) := by decide +kernel
theorem dX0_isElsewhere_11 : decode cX0_isElsewhere 11 = .ok (.iload_n 2, 1) := by decide +kernel
theorem dX0_isElsewhere_12 : decode cX0_isElsewhere 12 = .ok (.if_icmp .eq 16, 3) := by decide +kernel
theorem dX0_isElsewhere_15 : decode cX0_isElsewhere 15 = .ok (.aload_n 0, 1) := by decide +kernel
theorem dX0_isElsewhere_16 : decode cX0_isElsewhere 16 = .ok (.iload_n 1, 1) := by decide +kernel
theorem dX0_isElsewhere_17 : decode cX0_isElsewhere 17 = .ok (.iload 4, 2) := by decide +kernel
theorem dX0_isElsewhere_19 : decode cX0_isElsewhere 19 = .ok (.invokevirtual 85, 3) := by decide +kernel
theorem dX0_isElsewhere_22 : decode cX0_isElsewhere 22 = .ok (.iload_n 3, 1) := by decide +kernel
theorem dX0_isElsewhere_23 : decode cX0_isElsewhere 23 = .ok (.if_icmp .ne 5, 3) := by decide +kernel
theorem dX0_isElsewhere_26 : decode cX0_isElsewhere 26 = .ok (.iconst 1, 1) := by decide +kernel
theorem dX0_isElsewhere_27 : decode cX0_isElsewhere 27 = .ok (.ireturn, 1) := by decide +kernel
theorem dX0_isElsewhere_28 : decode cX0_isElsewhere 28 = .ok (.iinc 4 1, 3) := by decide +kernel
theorem dX0_isElsewhere_31 : decode cX0_isElsewhere 31 = .ok (.goto (-28), 3) := by decide +kernel
theorem dX0_isElsewhere_34 : decode cX0_isElsewhere 34 = .ok (.iconst 0, 1) := by decide +kernel
theorem dX0_isElsewhere_35 : decode cX0_isElsewhere 35 = .ok (.ireturn, 1) := by decide +kernel
theorem dX0_seated_0 : decode cX0_seated 0 = .ok (.iconst 0, 1) := by decide +kernel
theorem dX0_seated_1 : decode cX0_seated 1 = .ok (.istore_n 2, 1) := by decide +kernel
theorem dX0_seated_2 : decode cX0_seated 2 = .ok (.iconst 0, 1) := by decide +kernel
theorem dX0_seated_3 : decode cX0_seated 3 = .ok (.istore_n 3, 1) := by decide +kernel
theorem dX0_seated_4 : decode cX0_seated 4 = .ok (.iload_n 3, 1) := by decide +kernel
theorem dX0_seated_5 : decode cX0_seated 5 = .ok (.iconst 4, 1) := by decide +kernel
theorem dX0_seated_6 : decode cX0_seated 6 = .ok (.if_icmp .ge 23, 3) := by decide +kernel
theorem dX0_seated_9 : decode cX0_seated 9 = .ok (.aload_n 0, 1) := by decide +kernel
theorem dX0_seated_10 : decode cX0_seated 10 = .ok (.iload_n 1, 1) := by decide +kernel
theorem dX0_seated_11 : decode cX0_seated 11 = .ok (.iload_n 3, 1) := by decide +kernel
theorem dX0_seated_12 : decode cX0_seated 12 = .ok (.invokevirtual 74, 3) := by decide +kernel
theorem dX0_seated_15 : decode cX0_seated 15 = .ok (.bipush (-9), 2) := by decide +kernel
theorem dX0_seated_17 : decode cX0_seated 17 = .ok (.if_icmp .eq 6, 3) := by decide +kernel
theorem dX0_seated_20 : decode cX0_seated 20 = .ok (.iinc 2 1, 3) := by decide +kernel
theorem dX0_seated_23 : decode cX0_seated 23 = .ok (.iinc 3 1, 3) := by decide +kernel
theorem dX0_seated_26 : decode cX0_seated 26 = .ok (.goto (-22), 3) := by decide +kernel
theorem dX0_seated_29 : decode cX0_seated 29 = .ok (.iload_n 2, 1) := by decide +kernel
theorem dX0_seated_30 : decode cX0_seated 30 = .ok (.ireturn, 1) := by decide +kernel
theorem dX0_isHub_0 : decode cX0_isHub 0 = .ok (.iconst 0, 1) := by decide +kernel
theorem dX0_isHub_1 : decode cX0_isHub 1 = .ok (.istore_n 2, 1) := by decide +kernel
theorem dX0_isHub_2 : decode cX0_isHub 2 = .ok (.iload_n 2, 1) := by decide +kernel
theorem dX0_isHub_3 : decode cX0_isHub 3 = .ok (.aload_n 0, 1) := by decide +kernel
theorem dX0_isHub_4 : decode cX0_isHub 4 = .ok (.getfield 60, 3) := by decide +kernel
theorem dX0_isHub_7 : decode cX0_isHub 7 = .ok (.if_icmp .ge 30, 3) := by decide +kernel
theorem dX0_isHub_10 : decode cX0_isHub 10 = .ok (.aload_n 0, 1) := by decide +kernel
theorem dX0_isHub_11 : decode cX0_isHub 11 = .ok (.getfield 25, 3) := by decide +kernel
theorem dX0_isHub_14 : decode cX0_isHub 14 = .ok (.iload_n 2, 1) := by decide +kernel
theorem dX0_isHub_15 : decode cX0_isHub 15 = .ok (.iaload, 1) := by decide +kernel
theorem dX0_isHub_16 : decode cX0_isHub 16 = .ok (.iload_n 1, 1) := by decide +kernel
theorem dX0_isHub_17 : decode cX0_isHub 17 = .ok (.if_icmp .ne 14, 3) := by decide +kernel
theorem dX0_isHub_20 : decode cX0_isHub 20 = .ok (.aload_n 0, 1) := by decide +kernel
theorem dX0_isHub_21 : decode cX0_isHub 21 = .ok (.getfield 21, 3) := by decide +kernel
theorem dX0_isHub_24 : decode cX0_isHub 24 = .ok (.iload_n 2, 1) := by decide +kernel
theorem dX0_isHub_25 : decode cX0_isHub 25 = .ok (.baload, 1) := by decide +kernel
theorem dX0_isHub_26 : decode cX0_isHub 26 = .ok (.ifCond .eq 5, 3) := by decide +kernel
theorem dX0_isHub_29 : decode cX0_isHub 29 = .ok (.iconst 1, 1) := by decide +kernel
theorem dX0_isHub_30 : decode cX0_isHub 30 = .ok (.ireturn, 1) := by decide +kernel
theorem dX0_isHub_31 : decode cX0_isHub 31 = .ok (.iinc 2 1, 3) := by decide +kernel
theorem dX0_isHub_34 : decode cX0_isHub 34 = .ok (.goto (-32), 3) := by decide +kernel
theorem dX0_isHub_37 : decode cX0_isHub 37 = .ok (.iconst 0, 1) := by decide +kernel
theorem dX0_isHub_38 : decode cX0_isHub 38 = .ok (.ireturn, 1) := by decide +kernel
theorem dX0_claimsWith_0 : decode cX0_claimsWith 0 = .ok (.iconst 0, 1) := by decide +kernel
theorem dX0_claimsWith_1 : decode cX0_claimsWith 1 = .ok (.istore_n 2, 1) := by decide +kernel
theorem dX0_claimsWith_2 : decode cX0_claimsWith 2 = .ok (.iconst 0, 1) := by decide +kernel
theorem dX0_claimsWith_3 : decode cX0_claimsWith 3 = .ok (.istore_n 3, 1) := by decide +kernel
theorem dX0_claimsWith_4 : decode cX0_claimsWith 4 = .ok (.iload_n 3, 1) := by decide +kernel
theorem dX0_claimsWith_5 : decode cX0_claimsWith 5 = .ok (.aload_n 0, 1) := by decide +kernel
theorem dX0_claimsWith_6 : decode cX0_claimsWith 6 = .ok (.getfield 63, 3) := by decide +kernel
theorem dX0_claimsWith_9 : decode cX0_claimsWith 9 = .ok (.if_icmp .ge 21, 3) := by decide +kernel
theorem dX0_claimsWith_12 : decode cX0_claimsWith 12 = .ok (.aload_n 0, 1) := by decide +kernel
theorem dX0_claimsWith_13 : decode cX0_claimsWith 13 = .ok (.iload_n 3, 1) := by decide +kernel
theorem dX0_claimsWith_14 : decode cX0_claimsWith 14 = .ok (.iload_n 1, 1) := by decide +kernel
theorem dX0_claimsWith_15 : decode cX0_claimsWith 15 = .ok (.invokevirtual 88, 3) := by decide +kernel
theorem dX0_claimsWith_18 : decode cX0_claimsWith 18 = .ok (.ifCond .eq 6, 3) := by decide +kernel
theorem dX0_claimsWith_21 : decode cX0_claimsWith 21 = .ok (.iinc 2 1, 3) := by decide +kernel
theorem dX0_claimsWith_24 : decode cX0_claimsWith 24 = .ok (.iinc 3 1, 3) := by decide +kernel
theorem dX0_claimsWith_27 : decode cX0_claimsWith 27 = .ok (.goto (-23), 3) := by decide +kernel
theorem dX0_claimsWith_30 : decode cX0_claimsWith 30 = .ok (.iload_n 2, 1) := by decide +kernel
theorem dX0_claimsWith_31 : decode cX0_claimsWith 31 = .ok (.ireturn, 1) := by decide +kernel
theorem dX0_joinOnes_0 : decode cX0_joinOnes 0 = .ok (.iload_n 1, 1) := by decide +kernel
theorem dX0_joinOnes_1 : decode cX0_joinOnes 1 = .ok (.iload_n 2, 1) := by decide +kernel
theorem dX0_joinOnes_2 : decode cX0_joinOnes 2 = .ok (.if_icmp .ne 5, 3) := by decide +kernel
theorem dX0_joinOnes_5 : decode cX0_joinOnes 5 = .ok (.iconst 0, 1) := by decide +kernel
theorem dX0_joinOnes_6 : decode cX0_joinOnes 6 = .ok (.ireturn, 1) := by decide +kernel
theorem dX0_joinOnes_7 : decode cX0_joinOnes 7 = .ok (.iload_n 1, 1) := by decide +kernel
theorem dX0_joinOnes_8 : decode cX0_joinOnes 8 = .ok (.iload_n 2, 1) := by decide +kernel
theorem dX0_joinOnes_9 : decode cX0_joinOnes 9 = .ok (.invokestatic 92, 3) := by decide +kernel
theorem dX0_joinOnes_12 : decode cX0_joinOnes 12 = .ok (.istore_n 3, 1) := by decide +kernel
theorem dX0_joinOnes_13 : decode cX0_joinOnes 13 = .ok (.iload_n 1, 1) := by decide +kernel
theorem dX0_joinOnes_14 : decode cX0_joinOnes 14 = .ok (.iload_n 2, 1) := by decide +kernel
theorem dX0_joinOnes_15 : decode cX0_joinOnes 15 = .ok (.invokestatic 97, 3) := by decide +kernel
theorem dX0_joinOnes_18 : decode cX0_joinOnes 18 = .ok (.istore 4, 2) := by decide +kernel
theorem dX0_joinOnes_20 : decode cX0_joinOnes 20 = .ok (.iconst 0, 1) := by decide +kernel
theorem dX0_joinOnes_21 : decode cX0_joinOnes 21 = .ok (.istore 5, 2) := by decide +kernel
theorem dX0_joinOnes_23 : decode cX0_joinOnes 23 = .ok (.iload 5, 2) := by decide +kernel
theorem dX0_joinOnes_25 : decode cX0_joinOnes 25 = .ok (.aload_n 0, 1) := by decide +kernel
theorem dX0_joinOnes_26 : decode cX0_joinOnes 26 = .ok (.getfield 60, 3) := by decide +kernel
theorem dX0_joinOnes_29 : decode cX0_joinOnes 29 = .ok (.if_icmp .ge 29, 3) := by decide +kernel
theorem dX0_joinOnes_32 : decode cX0_joinOnes 32 = .ok (.aload_n 0, 1) := by decide +kernel
theorem dX0_joinOnes_33 : decode cX0_joinOnes 33 = .ok (.getfield 25, 3) := by decide +kernel
theorem dX0_joinOnes_36 : decode cX0_joinOnes 36 = .ok (.iload 5, 2) := by decide +kernel
theorem dX0_joinOnes_38 : decode cX0_joinOnes 38 = .ok (.iaload, 1) := by decide +kernel
theorem dX0_joinOnes_39 : decode cX0_joinOnes 39 = .ok (.iload 4, 2) := by decide +kernel
theorem dX0_joinOnes_41 : decode cX0_joinOnes 41 = .ok (.if_icmp .ne 11, 3) := by decide +kernel
theorem dX0_joinOnes_44 : decode cX0_joinOnes 44 = .ok (.aload_n 0, 1) := by decide +kernel
theorem dX0_joinOnes_45 : decode cX0_joinOnes 45 = .ok (.getfield 25, 3) := by decide +kernel
theorem dX0_joinOnes_48 : decode cX0_joinOnes 48 = .ok (.iload 5, 2) := by decide +kernel
theorem dX0_joinOnes_50 : decode cX0_joinOnes 50 = .ok (.iload_n 3, 1) := by decide +kernel
theorem dX0_joinOnes_51 : decode cX0_joinOnes 51 = .ok (.iastore, 1) := by decide +kernel
theorem dX0_joinOnes_52 : decode cX0_joinOnes 52 = .ok (.iinc 5 1, 3) := by decide +kernel
theorem dX0_joinOnes_55 : decode cX0_joinOnes 55 = .ok (.goto (-32), 3) := by decide +kernel
theorem dX0_joinOnes_58 : decode cX0_joinOnes 58 = .ok (.iconst 1, 1) := by decide +kernel
theorem dX0_joinOnes_59 : decode cX0_joinOnes 59 = .ok (.ireturn, 1) := by decide +kernel
theorem dX0_countOnes_0 : decode cX0_countOnes 0 = .ok (.iconst 0, 1) := by decide +kernel
theorem dX0_countOnes_1 : decode cX0_countOnes 1 = .ok (.istore_n 1, 1) := by decide +kernel
theorem dX0_countOnes_2 : decode cX0_countOnes 2 = .ok (.iconst 0, 1) := by decide +kernel
theorem dX0_countOnes_3 : decode cX0_countOnes 3 = .ok (.istore_n 2, 1) := by decide +kernel
theorem dX0_countOnes_4 : decode cX0_countOnes 4 = .ok (.iload_n 2, 1) := by decide +kernel
theorem dX0_countOnes_5 : decode cX0_countOnes 5 = .ok (.aload_n 0, 1) := by decide +kernel
theorem dX0_countOnes_6 : decode cX0_countOnes 6 = .ok (.getfield 60, 3) := by decide +kernel
theorem dX0_countOnes_9 : decode cX0_countOnes 9 = .ok (.if_icmp .ge 22, 3) := by decide +kernel
theorem dX0_countOnes_12 : decode cX0_countOnes 12 = .ok (.aload_n 0, 1) := by decide +kernel
theorem dX0_countOnes_13 : decode cX0_countOnes 13 = .ok (.getfield 25, 3) := by decide +kernel
theorem dX0_countOnes_16 : decode cX0_countOnes 16 = .ok (.iload_n 2, 1) := by decide +kernel
theorem dX0_countOnes_17 : decode cX0_countOnes 17 = .ok (.iaload, 1) := by decide +kernel
theorem dX0_countOnes_18 : decode cX0_countOnes 18 = .ok (.iload_n 2, 1) := by decide +kernel
theorem dX0_countOnes_19 : decode cX0_countOnes 19 = .ok (.if_icmp .ne 6, 3) := by decide +kernel
theorem dX0_countOnes_22 : decode cX0_countOnes 22 = .ok (.iinc 1 1, 3) := by decide +kernel
theorem dX0_countOnes_25 : decode cX0_countOnes 25 = .ok (.iinc 2 1, 3) := by decide +kernel
theorem dX0_countOnes_28 : decode cX0_countOnes 28 = .ok (.goto (-24), 3) := by decide +kernel
theorem dX0_countOnes_31 : decode cX0_countOnes 31 = .ok (.iload_n 1, 1) := by decide +kernel
theorem dX0_countOnes_32 : decode cX0_countOnes 32 = .ok (.ireturn, 1) := by decide +kernel
theorem dX0_countFound_0 : decode cX0_countFound 0 = .ok (.iconst 0, 1) := by decide +kernel
theorem dX0_countFound_1 : decode cX0_countFound 1 = .ok (.istore_n 1, 1) := by decide +kernel
theorem dX0_countFound_2 : decode cX0_countFound 2 = .ok (.iconst 0, 1) := by decide +kernel
theorem dX0_countFound_3 : decode cX0_countFound 3 = .ok (.istore_n 2, 1) := by decide +kernel
theorem dX0_countFound_4 : decode cX0_countFound 4 = .ok (.iload_n 2, 1) := by decide +kernel
theorem dX0_countFound_5 : decode cX0_countFound 5 = .ok (.aload_n 0, 1) := by decide +kernel
theorem dX0_countFound_6 : decode cX0_countFound 6 = .ok (.getfield 63, 3) := by decide +kernel
theorem dX0_countFound_9 : decode cX0_countFound 9 = .ok (.if_icmp .ge 23, 3) := by decide +kernel
theorem dX0_countFound_12 : decode cX0_countFound 12 = .ok (.aload_n 0, 1) := by decide +kernel
theorem dX0_countFound_13 : decode cX0_countFound 13 = .ok (.getfield 34, 3) := by decide +kernel
theorem dX0_countFound_16 : decode cX0_countFound 16 = .ok (.iload_n 2, 1) := by decide +kernel
theorem dX0_countFound_17 : decode cX0_countFound 17 = .ok (.iaload, 1) := by decide +kernel
theorem dX0_countFound_18 : decode cX0_countFound 18 = .ok (.bipush (-9), 2) := by decide +kernel
theorem dX0_countFound_20 : decode cX0_countFound 20 = .ok (.if_icmp .eq 6, 3) := by decide +kernel
theorem dX0_countFound_23 : decode cX0_countFound 23 = .ok (.iinc 1 1, 3) := by decide +kernel
theorem dX0_countFound_26 : decode cX0_countFound 26 = .ok (.iinc 2 1, 3) := by decide +kernel
theorem dX0_countFound_29 : decode cX0_countFound 29 = .ok (.goto (-25), 3) := by decide +kernel
theorem dX0_countFound_32 : decode cX0_countFound 32 = .ok (.iload_n 1, 1) := by decide +kernel
theorem dX0_countFound_33 : decode cX0_countFound 33 = .ok (.ireturn, 1) := by decide +kernel
theorem dX1_init_0 : decode cX1_init 0 = .ok (.aload_n 0, 1) := by decide +kernel
theorem dX1_init_1 : decode cX1_init 1 = .ok (.invokespecial 1, 3) := by decide +kernel
theorem dX1_init_4 : decode cX1_init 4 = .ok (.aload_n 0, 1) := by decide +kernel
theorem dX1_init_5 : decode cX1_init 5 = .ok (.iconst 4, 1) := by decide +kernel
theorem dX1_init_6 : decode cX1_init 6 = .ok (.newarray .int, 2) := by decide +kernel
theorem dX1_init_8 : decode cX1_init 8 = .ok (.putfield 9, 3) := by decide +kernel
theorem dX1_init_11 : decode cX1_init 11 = .ok (.aload_n 0, 1) := by decide +kernel
theorem dX1_init_12 : decode cX1_init 12 = .ok (.iconst 4, 1) := by decide +kernel
theorem dX1_init_13 : decode cX1_init 13 = .ok (.newarray .int, 2) := by decide +kernel
theorem dX1_init_15 : decode cX1_init 15 = .ok (.putfield 13, 3) := by decide +kernel
theorem dX1_init_18 : decode cX1_init 18 = .ok (.aload_n 0, 1) := by decide +kernel
theorem dX1_init_19 : decode cX1_init 19 = .ok (.sipush 160, 3) := by decide +kernel
theorem dX1_init_22 : decode cX1_init 22 = .ok (.newarray .long, 2) := by decide +kernel
theorem dX1_init_24 : decode cX1_init 24 = .ok (.putfield 16, 3) := by decide +kernel
theorem dX1_init_27 : decode cX1_init 27 = .ok (.aload_n 0, 1) := by decide +kernel
theorem dX1_init_28 : decode cX1_init 28 = .ok (.iconst 4, 1) := by decide +kernel
theorem dX1_init_29 : decode cX1_init 29 = .ok (.newarray .int, 2) := by decide +kernel
theorem dX1_init_31 : decode cX1_init 31 = .ok (.putfield 20, 3) := by decide +kernel
theorem dX1_init_34 : decode cX1_init 34 = .ok (.aload_n 0, 1) := by decide +kernel
theorem dX1_init_35 : decode cX1_init 35 = .ok (.iconst 4, 1) := by decide +kernel
theorem dX1_init_36 : decode cX1_init 36 = .ok (.newarray .int, 2) := by decide +kernel
theorem dX1_init_38 : decode cX1_init 38 = .ok (.putfield 23, 3) := by decide +kernel
theorem dX1_init_41 : decode cX1_init 41 = .ok (.iconst 0, 1) := by decide +kernel
theorem dX1_init_42 : decode cX1_init 42 = .ok (.istore_n 1, 1) := by decide +kernel
theorem dX1_init_43 : decode cX1_init 43 = .ok (.iload_n 1, 1) := by decide +kernel
theorem dX1_init_44 : decode cX1_init 44 = .ok (.iconst 4, 1) := by decide +kernel
theorem dX1_init_45 : decode cX1_init 45 = .ok (.if_icmp .ge 16, 3) := by decide +kernel
theorem dX1_init_48 : decode cX1_init 48 = .ok (.aload_n 0, 1) := by decide +kernel
theorem dX1_init_49 : decode cX1_init 49 = .ok (.getfield 9, 3) := by decide +kernel
theorem dX1_init_52 : decode cX1_init 52 = .ok (.iload_n 1, 1) := by decide +kernel
theorem dX1_init_53 : decode cX1_init 53 = .ok (.iconst (-1), 1) := by decide +kernel
theorem dX1_init_54 : decode cX1_init 54 = .ok (.iastore, 1) := by decide +kernel
theorem dX1_init_55 : decode cX1_init 55 = .ok (.iinc 1 1, 3) := by decide +kernel
theorem dX1_init_58 : decode cX1_init 58 = .ok (.goto (-15), 3) := by decide +kernel
theorem dX1_init_61 : decode cX1_init 61 = .ok (.iconst 0, 1) := by decide +kernel
theorem dX1_init_62 : decode cX1_init 62 = .ok (.istore_n 1, 1) := by decide +kernel
theorem dX1_init_63 : decode cX1_init 63 = .ok (.iload_n 1, 1) := by decide +kernel
theorem dX1_init_64 : decode cX1_init 64 = .ok (.iconst 4, 1) := by decide +kernel
theorem dX1_init_65 : decode cX1_init 65 = .ok (.if_icmp .ge 16, 3) := by decide +kernel
theorem dX1_init_68 : decode cX1_init 68 = .ok (.aload_n 0, 1) := by decide +kernel
theorem dX1_init_69 : decode cX1_init 69 = .ok (.getfield 20, 3) := by decide +kernel
theorem dX1_init_72 : decode cX1_init 72 = .ok (.iload_n 1, 1) := by decide +kernel
theorem dX1_init_73 : decode cX1_init 73 = .ok (.iconst (-1), 1) := by decide +kernel
theorem dX1_init_74 : decode cX1_init 74 = .ok (.iastore, 1) := by decide +kernel
theorem dX1_init_75 : decode cX1_init 75 = .ok (.iinc 1 1, 3) := by decide +kernel
theorem dX1_init_78 : decode cX1_init 78 = .ok (.goto (-15), 3) := by decide +kernel
theorem dX1_init_81 : decode cX1_init 81 = .ok (.return_, 1) := by decide +kernel
theorem dX1_isSheet_0 : decode cX1_isSheet 0 = .ok (.iload_n 0, 1) := by decide +kernel
theorem dX1_isSheet_1 : decode cX1_isSheet 1 = .ok (.ifCond .lt 12, 3) := by decide +kernel
theorem dX1_isSheet_4 : decode cX1_isSheet 4 = .ok (.iload_n 0, 1) := by decide +kernel
theorem dX1_isSheet_5 : decode cX1_isSheet 5 = .ok (.iconst 4, 1) := by decide +kernel
theorem dX1_isSheet_6 : decode cX1_isSheet 6 = .ok (.if_icmp .ge 7, 3) := by decide +kernel
theorem dX1_isSheet_9 : decode cX1_isSheet 9 = .ok (.iconst 1, 1) := by decide +kernel
theorem dX1_isSheet_10 : decode cX1_isSheet 10 = .ok (.goto 4, 3) := by decide +kernel
theorem dX1_isSheet_13 : decode cX1_isSheet 13 = .ok (.iconst 0, 1) := by decide +kernel
theorem dX1_isSheet_14 : decode cX1_isSheet 14 = .ok (.ireturn, 1) := by decide +kernel
theorem dX1_isShelf_0 : decode cX1_isShelf 0 = .ok (.iload_n 0, 1) := by decide +kernel
theorem dX1_isShelf_1 : decode cX1_isShelf 1 = .ok (.ifCond .lt 12, 3) := by decide +kernel
theorem dX1_isShelf_4 : decode cX1_isShelf 4 = .ok (.iload_n 0, 1) := by decide +kernel
theorem dX1_isShelf_5 : decode cX1_isShelf 5 = .ok (.iconst 4, 1) := by decide +kernel
theorem dX1_isShelf_6 : decode cX1_isShelf 6 = .ok (.if_icmp .ge 7, 3) := by decide +kernel
theorem dX1_isShelf_9 : decode cX1_isShelf 9 = .ok (.iconst 1, 1) := by decide +kernel
theorem dX1_isShelf_10 : decode cX1_isShelf 10 = .ok (.goto 4, 3) := by decide +kernel
theorem dX1_isShelf_13 : decode cX1_isShelf 13 = .ok (.iconst 0, 1) := by decide +kernel
theorem dX1_isShelf_14 : decode cX1_isShelf 14 = .ok (.ireturn, 1) := by decide +kernel
theorem dX1_isMissing_0 : decode cX1_isMissing 0 = .ok (.iload_n 1, 1) := by decide +kernel
theorem dX1_isMissing_1 : decode cX1_isMissing 1 = .ok (.invokestatic 26, 3) := by decide +kernel
theorem dX1_isMissing_4 : decode cX1_isMissing 4 = .ok (.ifCond .eq 13, 3) := by decide +kernel
theorem dX1_isMissing_7 : decode cX1_isMissing 7 = .ok (.aload_n 0, 1) := by decide +kernel
theorem dX1_isMissing_8 : decode cX1_isMissing 8 = .ok (.getfield 9, 3) := by decide +kernel
theorem dX1_isMissing_11 : decode cX1_isMissing 11 = .ok (.iload_n 1, 1) := by decide +kernel
theorem dX1_isMissing_12 : decode cX1_isMissing 12 = .ok (.iaload, 1) := by decide +kernel
theorem dX1_isMissing_13 : decode cX1_isMissing 13 = .ok (.iconst (-1), 1) := by decide +kernel
theorem dX1_isMissing_14 : decode cX1_isMissing 14 = .ok (.if_icmp .ne 7, 3) := by decide +kernel
theorem dX1_isMissing_17 : decode cX1_isMissing 17 = .ok (.iconst 1, 1) := by decide +kernel
theorem dX1_isMissing_18 : decode cX1_isMissing 18 = .ok (.goto 4, 3) := by decide +kernel
theorem dX1_isMissing_21 : decode cX1_isMissing 21 = .ok (.iconst 0, 1) := by decide +kernel
theorem dX1_isMissing_22 : decode cX1_isMissing 22 = .ok (.ireturn, 1) := by decide +kernel
theorem dX1_isInside_0 : decode cX1_isInside 0 = .ok (.aload_n 0, 1) := by decide +kernel
theorem dX1_isInside_1 : decode cX1_isInside 1 = .ok (.iload_n 1, 1) := by decide +kernel
theorem dX1_isInside_2 : decode cX1_isInside 2 = .ok (.invokevirtual 30, 3) := by decide +kernel
theorem dX1_isInside_5 : decode cX1_isInside 5 = .ok (.ifCond .ne 27, 3) := by decide +kernel
theorem dX1_isInside_8 : decode cX1_isInside 8 = .ok (.iload_n 2, 1) := by decide +kernel
theorem dX1_isInside_9 : decode cX1_isInside 9 = .ok (.ifCond .lt 23, 3) := by decide +kernel
theorem dX1_isInside_12 : decode cX1_isInside 12 = .ok (.iload_n 2, 1) := by decide +kernel
theorem dX1_isInside_13 : decode cX1_isInside 13 = .ok (.aload_n 0, 1) := by decide +kernel
theorem dX1_isInside_14 : decode cX1_isInside 14 = .ok (.getfield 13, 3) := by decide +kernel
theorem dX1_isInside_17 : decode cX1_isInside 17 = .ok (.iload_n 1, 1) := by decide +kernel
theorem dX1_isInside_18 : decode cX1_isInside 18 = .ok (.iaload, 1) := by decide +kernel
theorem dX1_isInside_19 : decode cX1_isInside 19 = .ok (.if_icmp .ge 13, 3) := by decide +kernel
theorem dX1_isInside_22 : decode cX1_isInside 22 = .ok (.iload_n 2, 1) := by decide +kernel
theorem dX1_isInside_23 : decode cX1_isInside 23 = .ok (.bipush 40, 2) := by decide +kernel
theorem dX1_isInside_25 : decode cX1_isInside 25 = .ok (.if_icmp .ge 7, 3) := by decide +kernel
theorem dX1_isInside_28 : decode cX1_isInside 28 = .ok (.iconst 1, 1) := by decide +kernel
theorem dX1_isInside_29 : decode cX1_isInside 29 = .ok (.goto 4, 3) := by decide +kernel
theorem dX1_isInside_32 : decode cX1_isInside 32 = .ok (.iconst 0, 1) := by decide +kernel
theorem dX1_isInside_33 : decode cX1_isInside 33 = .ok (.ireturn, 1) := by decide +kernel
theorem dX1_drop_0 : decode cX1_drop 0 = .ok (.iload_n 1, 1) := by decide +kernel
theorem dX1_drop_1 : decode cX1_drop 1 = .ok (.invokestatic 26, 3) := by decide +kernel
theorem dX1_drop_4 : decode cX1_drop 4 = .ok (.ifCond .eq 10, 3) := by decide +kernel
theorem dX1_drop_7 : decode cX1_drop 7 = .ok (.aload_n 0, 1) := by decide +kernel
theorem dX1_drop_8 : decode cX1_drop 8 = .ok (.getfield 9, 3) := by decide +kernel
theorem dX1_drop_11 : decode cX1_drop 11 = .ok (.iload_n 1, 1) := by decide +kernel
theorem dX1_drop_12 : decode cX1_drop 12 = .ok (.iconst (-1), 1) := by decide +kernel
theorem dX1_drop_13 : decode cX1_drop 13 = .ok (.iastore, 1) := by decide +kernel
theorem dX1_drop_14 : decode cX1_drop 14 = .ok (.return_, 1) := by decide +kernel
theorem dX1_lay_0 : decode cX1_lay 0 = .ok (.iload_n 1, 1) := by decide +kernel
theorem dX1_lay_1 : decode cX1_lay 1 = .ok (.invokestatic 26, 3) := by decide +kernel
theorem dX1_lay_4 : decode cX1_lay 4 = .ok (.ifCond .ne 4, 3) := by decide +kernel
theorem dX1_lay_7 : decode cX1_lay 7 = .ok (.return_, 1) := by decide +kernel
theorem dX1_lay_8 : decode cX1_lay 8 = .ok (.aload_n 0, 1) := by decide +kernel
theorem dX1_lay_9 : decode cX1_lay 9 = .ok (.getfield 9, 3) := by decide +kernel
theorem dX1_lay_12 : decode cX1_lay 12 = .ok (.iload_n 1, 1) := by decide +kernel
theorem dX1_lay_13 : decode cX1_lay 13 = .ok (.iload_n 2, 1) := by decide +kernel
theorem dX1_lay_14 : decode cX1_lay 14 = .ok (.iastore, 1) := by decide +kernel
theorem dX1_lay_15 : decode cX1_lay 15 = .ok (.aload_n 0, 1) := by decide +kernel
theorem dX1_lay_16 : decode cX1_lay 16 = .ok (.getfield 13, 3) := by decide +kernel
theorem dX1_lay_19 : decode cX1_lay 19 = .ok (.iload_n 1, 1) := by decide +kernel
theorem dX1_lay_20 : decode cX1_lay 20 = .ok (.iload_n 3, 1) := by decide +kernel
theorem dX1_lay_21 : decode cX1_lay 21 = .ok (.iastore, 1) := by decide +kernel
theorem dX1_lay_22 : decode cX1_lay 22 = .ok (.iconst 0, 1) := by decide +kernel
theorem dX1_lay_23 : decode cX1_lay 23 = .ok (.istore 4, 2) := by decide +kernel
theorem dX1_lay_25 : decode cX1_lay 25 = .ok (.iload 4, 2) := by decide +kernel
theorem dX1_lay_27 : decode cX1_lay 27 = .ok (.bipush 40, 2) := by decide +kernel
theorem dX1_lay_29 : decode cX1_lay 29 = .ok (.if_icmp .ge 22, 3) := by decide +kernel
theorem dX1_lay_32 : decode cX1_lay 32 = .ok (.aload_n 0, 1) := by decide +kernel
theorem dX1_lay_33 : decode cX1_lay 33 = .ok (.getfield 16, 3) := by decide +kernel
theorem dX1_lay_36 : decode cX1_lay 36 = .ok (.iload_n 1, 1) := by decide +kernel
theorem dX1_lay_37 : decode cX1_lay 37 = .ok (.bipush 40, 2) := by decide +kernel
theorem dX1_lay_39 : decode cX1_lay 39 = .ok (.imul, 1) := by decide +kernel
theorem dX1_lay_40 : decode cX1_lay 40 = .ok (.iload 4, 2) := by decide +kernel
theorem dX1_lay_42 : decode cX1_lay 42 = .ok (.iadd, 1) := by decide +kernel
theorem dX1_lay_43 : decode cX1_lay 43 = .ok (.lconst 0, 1) := by decide +kernel
theorem dX1_lay_44 : decode cX1_lay 44 = .ok (.lastore, 1) := by decide +kernel
theorem dX1_lay_45 : decode cX1_lay 45 = .ok (.iinc 4 1, 3) := by decide +kernel
theorem dX1_lay_48 : decode cX1_lay 48 = .ok (.goto (-23), 3) := by decide +kernel
theorem dX1_lay_51 : decode cX1_lay 51 = .ok (.return_, 1) := by decide +kernel
theorem dX1_write_0 : decode cX1_write 0 = .ok (.aload_n 0, 1) := by decide +kernel
theorem dX1_write_1 : decode cX1_write 1 = .ok (.iload_n 1, 1) := by decide +kernel
theorem dX1_write_2 : decode cX1_write 2 = .ok (.iload_n 2, 1) := by decide +kernel
theorem dX1_write_3 : decode cX1_write 3 = .ok (.invokevirtual 33, 3) := by decide +kernel
theorem dX1_write_6 : decode cX1_write 6 = .ok (.ifCond .ne 4, 3) := by decide +kernel
theorem dX1_write_9 : decode cX1_write 9 = .ok (.return_, 1) := by decide +kernel
theorem dX1_write_10 : decode cX1_write 10 = .ok (.aload_n 0, 1) := by decide +kernel
theorem dX1_write_11 : decode cX1_write 11 = .ok (.getfield 9, 3) := by decide +kernel
theorem dX1_write_14 : decode cX1_write 14 = .ok (.iload_n 1, 1) := by decide +kernel
theorem dX1_write_15 : decode cX1_write 15 = .ok (.iaload, 1) := by decide +kernel
theorem dX1_write_16 : decode cX1_write 16 = .ok (.ifCond .ne 8, 3) := by decide +kernel
theorem dX1_write_19 : decode cX1_write 19 = .ok (.iload_n 3, 1) := by decide +kernel
theorem dX1_write_20 : decode cX1_write 20 = .ok (.i2b, 1) := by decide +kernel
theorem dX1_write_21 : decode cX1_write 21 = .ok (.goto 19, 3) := by decide +kernel
theorem dX1_write_24 : decode cX1_write 24 = .ok (.aload_n 0, 1) := by decide +kernel
theorem dX1_write_25 : decode cX1_write 25 = .ok (.getfield 9, 3) := by decide +kernel
theorem dX1_write_28 : decode cX1_write 28 = .ok (.iload_n 1, 1) := by decide +kernel
theorem dX1_write_29 : decode cX1_write 29 = .ok (.iaload, 1) := by decide +kernel
theorem dX1_write_30 : decode cX1_write 30 = .ok (.iconst 1, 1) := by decide +kernel
theorem dX1_write_31 : decode cX1_write 31 = .ok (.if_icmp .ne 8, 3) := by decide +kernel
theorem dX1_write_34 : decode cX1_write 34 = .ok (.iload_n 3, 1) := by decide +kernel
theorem dX1_write_35 : decode cX1_write 35 = .ok (.i2s, 1) := by decide +kernel
theorem dX1_write_36 : decode cX1_write 36 = .ok (.goto 4, 3) := by decide +kernel
theorem dX1_write_39 : decode cX1_write 39 = .ok (.iload_n 3, 1) := by decide +kernel
theorem dX1_write_40 : decode cX1_write 40 = .ok (.istore 4, 2) := by decide +kernel
theorem dX1_write_42 : decode cX1_write 42 = .ok (.aload_n 0, 1) := by decide +kernel
theorem dX1_write_43 : decode cX1_write 43 = .ok (.getfield 16, 3) := by decide +kernel
theorem dX1_write_46 : decode cX1_write 46 = .ok (.iload_n 1, 1) := by decide +kernel
theorem dX1_write_47 : decode cX1_write 47 = .ok (.bipush 40, 2) := by decide +kernel
theorem dX1_write_49 : decode cX1_write 49 = .ok (.imul, 1) := by decide +kernel
theorem dX1_write_50 : decode cX1_write 50 = .ok (.iload_n 2, 1) := by decide +kernel
theorem dX1_write_51 : decode cX1_write 51 = .ok (.iadd, 1) := by decide +kernel
theorem dX1_write_52 : decode cX1_write 52 = .ok (.iload 4, 2) := by decide +kernel
theorem dX1_write_54 : decode cX1_write 54 = .ok (.i2l, 1) := by decide +kernel
theorem dX1_write_55 : decode cX1_write 55 = .ok (.lastore, 1) := by decide +kernel
theorem dX1_write_56 : decode cX1_write 56 = .ok (.return_, 1) := by decide +kernel
theorem dX1_read_0 : decode cX1_read 0 = .ok (.aload_n 0, 1) := by decide +kernel
theorem dX1_read_1 : decode cX1_read 1 = .ok (.iload_n 1, 1) := by decide +kernel
theorem dX1_read_2 : decode cX1_read 2 = .ok (.iload_n 2, 1) := by decide +kernel
theorem dX1_read_3 : decode cX1_read 3 = .ok (.invokevirtual 33, 3) := by decide +kernel
theorem dX1_read_6 : decode cX1_read 6 = .ok (.ifCond .eq 18, 3) := by decide +kernel
theorem dX1_read_9 : decode cX1_read 9 = .ok (.aload_n 0, 1) := by decide +kernel
theorem dX1_read_10 : decode cX1_read 10 = .ok (.getfield 16, 3) := by decide +kernel
theorem dX1_read_13 : decode cX1_read 13 = .ok (.iload_n 1, 1) := by decide +kernel
theorem dX1_read_14 : decode cX1_read 14 = .ok (.bipush 40, 2) := by decide +kernel
theorem dX1_read_16 : decode cX1_read 16 = .ok (.imul, 1) := by decide +kernel
theorem dX1_read_17 : decode cX1_read 17 = .ok (.iload_n 2, 1) := by decide +kernel
theorem dX1_read_18 : decode cX1_read 18 = .ok (.iadd, 1) := by decide +kernel
theorem dX1_read_19 : decode cX1_read 19 = .ok (.laload, 1) := by decide +kernel
theorem dX1_read_20 : decode cX1_read 20 = .ok (.l2i, 1) := by decide +kernel
theorem dX1_read_21 : decode cX1_read 21 = .ok (.goto 4, 3) := by decide +kernel
theorem dX1_read_24 : decode cX1_read 24 = .ok (.iconst 0, 1) := by decide +kernel
theorem dX1_read_25 : decode cX1_read 25 = .ok (.ireturn, 1) := by decide +kernel
theorem dX1_holdNothing_0 : decode cX1_holdNothing 0 = .ok (.iload_n 1, 1) := by decide +kernel
theorem dX1_holdNothing_1 : decode cX1_holdNothing 1 = .ok (.invokestatic 37, 3) := by decide +kernel
theorem dX1_holdNothing_4 : decode cX1_holdNothing 4 = .ok (.ifCond .eq 10, 3) := by decide +kernel
theorem dX1_holdNothing_7 : decode cX1_holdNothing 7 = .ok (.aload_n 0, 1) := by decide +kernel
theorem dX1_holdNothing_8 : decode cX1_holdNothing 8 = .ok (.getfield 20, 3) := by decide +kernel
theorem dX1_holdNothing_11 : decode cX1_holdNothing 11 = .ok (.iload_n 1, 1) := by decide +kernel
theorem dX1_holdNothing_12 : decode cX1_holdNothing 12 = .ok (.iconst (-1), 1) := by decide +kernel
theorem dX1_holdNothing_13 : decode cX1_holdNothing 13 = .ok (.iastore, 1) := by decide +kernel
theorem dX1_holdNothing_14 : decode cX1_holdNothing 14 = .ok (.return_, 1) := by decide +kernel
theorem dX1_holdClaim_0 : decode cX1_holdClaim 0 = .ok (.iload_n 1, 1) := by decide +kernel
theorem dX1_holdClaim_1 : decode cX1_holdClaim 1 = .ok (.invokestatic 37, 3) := by decide +kernel
theorem dX1_holdClaim_4 : decode cX1_holdClaim 4 = .ok (.ifCond .ne 4, 3) := by decide +kernel
theorem dX1_holdClaim_7 : decode cX1_holdClaim 7 = .ok (.return_, 1) := by decide +kernel
theorem dX1_holdClaim_8 : decode cX1_holdClaim 8 = .ok (.aload_n 0, 1) := by decide +kernel
theorem dX1_holdClaim_9 : decode cX1_holdClaim 9 = .ok (.getfield 20, 3) := by decide +kernel
theorem dX1_holdClaim_12 : decode cX1_holdClaim 12 = .ok (.iload_n 1, 1) := by decide +kernel
theorem dX1_holdClaim_13 : decode cX1_holdClaim 13 = .ok (.iconst 0, 1) := by decide +kernel
theorem dX1_holdClaim_14 : decode cX1_holdClaim 14 = .ok (.iastore, 1) := by decide +kernel
theorem dX1_holdClaim_15 : decode cX1_holdClaim 15 = .ok (.aload_n 0, 1) := by decide +kernel
theorem dX1_holdClaim_16 : decode cX1_holdClaim 16 = .ok (.getfield 23, 3) := by decide +kernel
theorem dX1_holdClaim_19 : decode cX1_holdClaim 19 = .ok (.iload_n 1, 1) := by decide +kernel
theorem dX1_holdClaim_20 : decode cX1_holdClaim 20 = .ok (.iload_n 2, 1) := by decide +kernel
theorem dX1_holdClaim_21 : decode cX1_holdClaim 21 = .ok (.iastore, 1) := by decide +kernel
theorem dX1_holdClaim_22 : decode cX1_holdClaim 22 = .ok (.return_, 1) := by decide +kernel
theorem dX1_holdRow_0 : decode cX1_holdRow 0 = .ok (.iload_n 1, 1) := by decide +kernel
theorem dX1_holdRow_1 : decode cX1_holdRow 1 = .ok (.invokestatic 37, 3) := by decide +kernel
theorem dX1_holdRow_4 : decode cX1_holdRow 4 = .ok (.ifCond .eq 10, 3) := by decide +kernel
theorem dX1_holdRow_7 : decode cX1_holdRow 7 = .ok (.iload_n 2, 1) := by decide +kernel
theorem dX1_holdRow_8 : decode cX1_holdRow 8 = .ok (.invokestatic 26, 3) := by decide +kernel
theorem dX1_holdRow_11 : decode cX1_holdRow 11 = .ok (.ifCond .ne 4, 3) := by decide +kernel
theorem dX1_holdRow_14 : decode cX1_holdRow 14 = .ok (.return_, 1) := by decide +kernel
theorem dX1_holdRow_15 : decode cX1_holdRow 15 = .ok (.aload_n 0, 1) := by decide +kernel
theorem dX1_holdRow_16 : decode cX1_holdRow 16 = .ok (.getfield 20, 3) := by decide +kernel
theorem dX1_holdRow_19 : decode cX1_holdRow 19 = .ok (.iload_n 1, 1) := by decide +kernel
theorem dX1_holdRow_20 : decode cX1_holdRow 20 = .ok (.aload_n 0, 1) := by decide +kernel
theorem dX1_holdRow_21 : decode cX1_holdRow 21 = .ok (.iload_n 2, 1) := by decide +kernel
theorem dX1_holdRow_22 : decode cX1_holdRow 22 = .ok (.invokevirtual 30, 3) := by decide +kernel
theorem dX1_holdRow_25 : decode cX1_holdRow 25 = .ok (.ifCond .eq 7, 3) := by decide +kernel
theorem dX1_holdRow_28 : decode cX1_holdRow 28 = .ok (.iconst (-1), 1) := by decide +kernel
theorem dX1_holdRow_29 : decode cX1_holdRow 29 = .ok (.goto 12, 3) := by decide +kernel
theorem dX1_holdRow_32 : decode cX1_holdRow 32 = .ok (.bipush 10, 2) := by decide +kernel
theorem dX1_holdRow_34 : decode cX1_holdRow 34 = .ok (.aload_n 0, 1) := by decide +kernel
theorem dX1_holdRow_35 : decode cX1_holdRow 35 = .ok (.getfield 9, 3) := by decide +kernel
theorem dX1_holdRow_38 : decode cX1_holdRow 38 = .ok (.iload_n 2, 1) := by decide +kernel
theorem dX1_holdRow_39 : decode cX1_holdRow 39 = .ok (.iaload, 1) := by decide +kernel
theorem dX1_holdRow_40 : decode cX1_holdRow 40 = .ok (.iadd, 1) := by decide +kernel
theorem dX1_holdRow_41 : decode cX1_holdRow 41 = .ok (.iastore, 1) := by decide +kernel
theorem dX1_holdRow_42 : decode cX1_holdRow 42 = .ok (.aload_n 0, 1) := by decide +kernel
theorem dX1_holdRow_43 : decode cX1_holdRow 43 = .ok (.getfield 23, 3) := by decide +kernel
theorem dX1_holdRow_46 : decode cX1_holdRow 46 = .ok (.iload_n 1, 1) := by decide +kernel
theorem dX1_holdRow_47 : decode cX1_holdRow 47 = .ok (.aload_n 0, 1) := by decide +kernel
theorem dX1_holdRow_48 : decode cX1_holdRow 48 = .ok (.getfield 13, 3) := by decide +kernel
theorem dX1_holdRow_51 : decode cX1_holdRow 51 = .ok (.iload_n 2, 1) := by decide +kernel
theorem dX1_holdRow_52 : decode cX1_holdRow 52 = .ok (.iaload, 1) := by decide +kernel
theorem dX1_holdRow_53 : decode cX1_holdRow 53 = .ok (.iastore, 1) := by decide +kernel
theorem dX1_holdRow_54 : decode cX1_holdRow 54 = .ok (.return_, 1) := by decide +kernel
theorem dX1_heldOn_0 : decode cX1_heldOn 0 = .ok (.iload_n 1, 1) := by decide +kernel
theorem dX1_heldOn_1 : decode cX1_heldOn 1 = .ok (.invokestatic 37, 3) := by decide +kernel
theorem dX1_heldOn_4 : decode cX1_heldOn 4 = .ok (.ifCond .ne 5, 3) := by decide +kernel
theorem dX1_heldOn_7 : decode cX1_heldOn 7 = .ok (.iconst (-1), 1) := by decide +kernel
theorem dX1_heldOn_8 : decode cX1_heldOn 8 = .ok (.ireturn, 1) := by decide +kernel
theorem dX1_heldOn_9 : decode cX1_heldOn 9 = .ok (.aload_n 0, 1) := by decide +kernel
theorem dX1_heldOn_10 : decode cX1_heldOn 10 = .ok (.getfield 20, 3) := by decide +kernel
theorem dX1_heldOn_13 : decode cX1_heldOn 13 = .ok (.iload_n 1, 1) := by decide +kernel
theorem dX1_heldOn_14 : decode cX1_heldOn 14 = .ok (.iaload, 1) := by decide +kernel
theorem dX1_heldOn_15 : decode cX1_heldOn 15 = .ok (.ifCond .ne 17, 3) := by decide +kernel
theorem dX1_heldOn_18 : decode cX1_heldOn 18 = .ok (.aload_n 0, 1) := by decide +kernel
theorem dX1_heldOn_19 : decode cX1_heldOn 19 = .ok (.getfield 23, 3) := by decide +kernel
theorem dX1_heldOn_22 : decode cX1_heldOn 22 = .ok (.iload_n 1, 1) := by decide +kernel
theorem dX1_heldOn_23 : decode cX1_heldOn 23 = .ok (.iaload, 1) := by decide +kernel
theorem dX1_heldOn_24 : decode cX1_heldOn 24 = .ok (.iload_n 2, 1) := by decide +kernel
theorem dX1_heldOn_25 : decode cX1_heldOn 25 = .ok (.if_icmp .lt 7, 3) := by decide +kernel
theorem dX1_heldOn_28 : decode cX1_heldOn 28 = .ok (.iconst 1, 1) := by decide +kernel
theorem dX1_heldOn_29 : decode cX1_heldOn 29 = .ok (.goto 4, 3) := by decide +kernel
theorem dX1_heldOn_32 : decode cX1_heldOn 32 = .ok (.iconst 0, 1) := by decide +kernel
theorem dX1_heldOn_33 : decode cX1_heldOn 33 = .ok (.istore_n 3, 1) := by decide +kernel
theorem dX1_heldOn_34 : decode cX1_heldOn 34 = .ok (.iload_n 3, 1) := by decide +kernel
theorem dX1_heldOn_35 : decode cX1_heldOn 35 = .ok (.ifCond .eq 7, 3) := by decide +kernel
theorem dX1_heldOn_38 : decode cX1_heldOn 38 = .ok (.iconst (-1), 1) := by decide +kernel
theorem dX1_heldOn_39 : decode cX1_heldOn 39 = .ok (.goto 9, 3) := by decide +kernel
theorem dX1_heldOn_42 : decode cX1_heldOn 42 = .ok (.aload_n 0, 1) := by decide +kernel
theorem dX1_heldOn_43 : decode cX1_heldOn 43 = .ok (.getfield 20, 3) := by decide +kernel
theorem dX1_heldOn_46 : decode cX1_heldOn 46 = .ok (.iload_n 1, 1) := by decide +kernel
theorem dX1_heldOn_47 : decode cX1_heldOn 47 = .ok (.iaload, 1) := by decide +kernel
theorem dX1_heldOn_48 : decode cX1_heldOn 48 = .ok (.ireturn, 1) := by decide +kernel
theorem dX2_asManyOrMore_0 : decode cX2_asManyOrMore 0 = .ok (.lconst 0, 1) := by decide +kernel
theorem dX2_asManyOrMore_1 : decode cX2_asManyOrMore 1 = .ok (.lstore 4, 2) := by decide +kernel
theorem dX2_asManyOrMore_3 : decode cX2_asManyOrMore 3 = .ok (.lconst 1, 1) := by decide +kernel
theorem dX2_asManyOrMore_4 : decode cX2_asManyOrMore 4 = .ok (.lstore 6, 2) := by decide +kernel
theorem dX2_asManyOrMore_6 : decode cX2_asManyOrMore 6 = .ok (.iconst 0, 1) := by decide +kernel
theorem dX2_asManyOrMore_7 : decode cX2_asManyOrMore 7 = .ok (.istore 8, 2) := by decide +kernel
theorem dX2_asManyOrMore_9 : decode cX2_asManyOrMore 9 = .ok (.iload 8, 2) := by decide +kernel
theorem dX2_asManyOrMore_11 : decode cX2_asManyOrMore 11 = .ok (.iload_n 0, 1) := by decide +kernel
theorem dX2_asManyOrMore_12 : decode cX2_asManyOrMore 12 = .ok (.if_icmp .gt 60, 3) := by decide +kernel
theorem dX2_asManyOrMore_15 : decode cX2_asManyOrMore 15 = .ok (.iload 8, 2) := by decide +kernel
theorem dX2_asManyOrMore_17 : decode cX2_asManyOrMore 17 = .ok (.iload_n 1, 1) := by decide +kernel
theorem dX2_asManyOrMore_18 : decode cX2_asManyOrMore 18 = .ok (.if_icmp .lt 32, 3) := by decide +kernel
theorem dX2_asManyOrMore_21 : decode cX2_asManyOrMore 21 = .ok (.lload 4, 2) := by decide +kernel
theorem dX2_asManyOrMore_23 : decode cX2_asManyOrMore 23 = .ok (.lload 6, 2) := by decide +kernel
theorem dX2_asManyOrMore_25 : decode cX2_asManyOrMore 25 = .ok (.ldc2_w 9, 3) := by decide +kernel
theorem dX2_asManyOrMore_28 : decode cX2_asManyOrMore 28 = .ok (.iload 8, 2) := by decide +kernel
theorem dX2_asManyOrMore_30 : decode cX2_asManyOrMore 30 = .ok (.invokestatic 11, 3) := by decide +kernel
theorem dX2_asManyOrMore_33 : decode cX2_asManyOrMore 33 = .ok (.lmul, 1) := by decide +kernel
theorem dX2_asManyOrMore_34 : decode cX2_asManyOrMore 34 = .ok (.lload_n 2, 1) := by decide +kernel
theorem dX2_asManyOrMore_35 : decode cX2_asManyOrMore 35 = .ok (.ldc2_w 9, 3) := by decide +kernel
theorem dX2_asManyOrMore_38 : decode cX2_asManyOrMore 38 = .ok (.lsub, 1) := by decide +kernel
theorem dX2_asManyOrMore_39 : decode cX2_asManyOrMore 39 = .ok (.iload_n 0, 1) := by decide +kernel
theorem dX2_asManyOrMore_40 : decode cX2_asManyOrMore 40 = .ok (.iload 8, 2) := by decide +kernel
theorem dX2_asManyOrMore_42 : decode cX2_asManyOrMore 42 = .ok (.isub, 1) := by decide +kernel
theorem dX2_asManyOrMore_43 : decode cX2_asManyOrMore 43 = .ok (.invokestatic 11, 3) := by decide +kernel
theorem dX2_asManyOrMore_46 : decode cX2_asManyOrMore 46 = .ok (.lmul, 1) := by decide +kernel
theorem dX2_asManyOrMore_47 : decode cX2_asManyOrMore 47 = .ok (.ladd, 1) := by decide +kernel
theorem dX2_asManyOrMore_48 : decode cX2_asManyOrMore 48 = .ok (.lstore 4, 2) := by decide +kernel
theorem dX2_asManyOrMore_50 : decode cX2_asManyOrMore 50 = .ok (.lload 6, 2) := by decide +kernel
theorem dX2_asManyOrMore_52 : decode cX2_asManyOrMore 52 = .ok (.iload_n 0, 1) := by decide +kernel
theorem dX2_asManyOrMore_53 : decode cX2_asManyOrMore 53 = .ok (.iload 8, 2) := by decide +kernel
theorem dX2_asManyOrMore_55 : decode cX2_asManyOrMore 55 = .ok (.isub, 1) := by decide +kernel
theorem dX2_asManyOrMore_56 : decode cX2_asManyOrMore 56 = .ok (.i2l, 1) := by decide +kernel
theorem dX2_asManyOrMore_57 : decode cX2_asManyOrMore 57 = .ok (.lmul, 1) := by decide +kernel
theorem dX2_asManyOrMore_58 : decode cX2_asManyOrMore 58 = .ok (.iload 8, 2) := by decide +kernel
theorem dX2_asManyOrMore_60 : decode cX2_asManyOrMore 60 = .ok (.iconst 1, 1) := by decide +kernel
theorem dX2_asManyOrMore_61 : decode cX2_asManyOrMore 61 = .ok (.iadd, 1) := by decide +kernel
theorem dX2_asManyOrMore_62 : decode cX2_asManyOrMore 62 = .ok (.i2l, 1) := by decide +kernel
theorem dX2_asManyOrMore_63 : decode cX2_asManyOrMore 63 = .ok (.ldiv, 1) := by decide +kernel
theorem dX2_asManyOrMore_64 : decode cX2_asManyOrMore 64 = .ok (.lstore 6, 2) := by decide +kernel
theorem dX2_asManyOrMore_66 : decode cX2_asManyOrMore 66 = .ok (.iinc 8 1, 3) := by decide +kernel
theorem dX2_asManyOrMore_69 : decode cX2_asManyOrMore 69 = .ok (.goto (-60), 3) := by decide +kernel
theorem dX2_asManyOrMore_72 : decode cX2_asManyOrMore 72 = .ok (.lload 4, 2) := by decide +kernel
theorem dX2_asManyOrMore_74 : decode cX2_asManyOrMore 74 = .ok (.lreturn, 1) := by decide +kernel
theorem dX2_power_0 : decode cX2_power 0 = .ok (.lconst 1, 1) := by decide +kernel
theorem dX2_power_1 : decode cX2_power 1 = .ok (.lstore_n 3, 1) := by decide +kernel
theorem dX2_power_2 : decode cX2_power 2 = .ok (.iconst 0, 1) := by decide +kernel
theorem dX2_power_3 : decode cX2_power 3 = .ok (.istore 5, 2) := by decide +kernel
theorem dX2_power_5 : decode cX2_power 5 = .ok (.iload 5, 2) := by decide +kernel
theorem dX2_power_7 : decode cX2_power 7 = .ok (.iload_n 2, 1) := by decide +kernel
theorem dX2_power_8 : decode cX2_power 8 = .ok (.if_icmp .ge 13, 3) := by decide +kernel
theorem dX2_power_11 : decode cX2_power 11 = .ok (.lload_n 3, 1) := by decide +kernel
theorem dX2_power_12 : decode cX2_power 12 = .ok (.lload_n 0, 1) := by decide +kernel
theorem dX2_power_13 : decode cX2_power 13 = .ok (.lmul, 1) := by decide +kernel
theorem dX2_power_14 : decode cX2_power 14 = .ok (.lstore_n 3, 1) := by decide +kernel
theorem dX2_power_15 : decode cX2_power 15 = .ok (.iinc 5 1, 3) := by decide +kernel
theorem dX2_power_18 : decode cX2_power 18 = .ok (.goto (-13), 3) := by decide +kernel
theorem dX2_power_21 : decode cX2_power 21 = .ok (.lload_n 3, 1) := by decide +kernel
theorem dX2_power_22 : decode cX2_power 22 = .ok (.lreturn, 1) := by decide +kernel
theorem dX2_part_0 : decode cX2_part 0 = .ok (.lload_n 0, 1) := by decide +kernel
theorem dX2_part_1 : decode cX2_part 1 = .ok (.lload_n 2, 1) := by decide +kernel
theorem dX2_part_2 : decode cX2_part 2 = .ok (.invokestatic 17, 3) := by decide +kernel
theorem dX2_part_5 : decode cX2_part 5 = .ok (.lstore 5, 2) := by decide +kernel
theorem dX2_part_7 : decode cX2_part 7 = .ok (.lload 5, 2) := by decide +kernel
theorem dX2_part_9 : decode cX2_part 9 = .ok (.lconst 0, 1) := by decide +kernel
theorem dX2_part_10 : decode cX2_part 10 = .ok (.lcmp, 1) := by decide +kernel
theorem dX2_part_11 : decode cX2_part 11 = .ok (.ifCond .ne 5, 3) := by decide +kernel
theorem dX2_part_14 : decode cX2_part 14 = .ok (.lconst 0, 1) := by decide +kernel
theorem dX2_part_15 : decode cX2_part 15 = .ok (.lreturn, 1) := by decide +kernel
theorem dX2_part_16 : decode cX2_part 16 = .ok (.iload 4, 2) := by decide +kernel
theorem dX2_part_18 : decode cX2_part 18 = .ok (.ifCond .ne 7, 3) := by decide +kernel
theorem dX2_part_21 : decode cX2_part 21 = .ok (.lload_n 0, 1) := by decide +kernel
theorem dX2_part_22 : decode cX2_part 22 = .ok (.goto 4, 3) := by decide +kernel
theorem dX2_part_25 : decode cX2_part 25 = .ok (.lload_n 2, 1) := by decide +kernel
theorem dX2_part_26 : decode cX2_part 26 = .ok (.lload 5, 2) := by decide +kernel
theorem dX2_part_28 : decode cX2_part 28 = .ok (.ldiv, 1) := by decide +kernel
theorem dX2_part_29 : decode cX2_part 29 = .ok (.lreturn, 1) := by decide +kernel
theorem dX2_commonDivisor_0 : decode cX2_commonDivisor 0 = .ok (.lload_n 0, 1) := by decide +kernel
theorem dX2_commonDivisor_1 : decode cX2_commonDivisor 1 = .ok (.lstore 4, 2) := by decide +kernel
theorem dX2_commonDivisor_3 : decode cX2_commonDivisor 3 = .ok (.lload_n 2, 1) := by decide +kernel
theorem dX2_commonDivisor_4 : decode cX2_commonDivisor 4 = .ok (.lstore 6, 2) := by decide +kernel
theorem dX2_commonDivisor_6 : decode cX2_commonDivisor 6 = .ok (.iconst 0, 1) := by decide +kernel
theorem dX2_commonDivisor_7 : decode cX2_commonDivisor 7 = .ok (.istore 8, 2) := by decide +kernel
theorem dX2_commonDivisor_9 : decode cX2_commonDivisor 9 = .ok (.iload 8, 2) := by decide +kernel
theorem dX2_commonDivisor_11 : decode cX2_commonDivisor 11 = .ok (.sipush 200, 3) := by decide +kernel
theorem dX2_commonDivisor_14 : decode cX2_commonDivisor 14 = .ok (.if_icmp .ge 31, 3) := by decide +kernel
theorem dX2_commonDivisor_17 : decode cX2_commonDivisor 17 = .ok (.lload 6, 2) := by decide +kernel
theorem dX2_commonDivisor_19 : decode cX2_commonDivisor 19 = .ok (.lconst 0, 1) := by decide +kernel
theorem dX2_commonDivisor_20 : decode cX2_commonDivisor 20 = .ok (.lcmp, 1) := by decide +kernel
theorem dX2_commonDivisor_21 : decode cX2_commonDivisor 21 = .ok (.ifCond .eq 24, 3) := by decide +kernel
theorem dX2_commonDivisor_24 : decode cX2_commonDivisor 24 = .ok (.lload 4, 2) := by decide +kernel
theorem dX2_commonDivisor_26 : decode cX2_commonDivisor 26 = .ok (.lload 6, 2) := by decide +kernel
theorem dX2_commonDivisor_28 : decode cX2_commonDivisor 28 = .ok (.lrem, 1) := by decide +kernel
theorem dX2_commonDivisor_29 : decode cX2_commonDivisor 29 = .ok (.lstore 9, 2) := by decide +kernel
theorem dX2_commonDivisor_31 : decode cX2_commonDivisor 31 = .ok (.lload 6, 2) := by decide +kernel
theorem dX2_commonDivisor_33 : decode cX2_commonDivisor 33 = .ok (.lstore 4, 2) := by decide +kernel
theorem dX2_commonDivisor_35 : decode cX2_commonDivisor 35 = .ok (.lload 9, 2) := by decide +kernel
theorem dX2_commonDivisor_37 : decode cX2_commonDivisor 37 = .ok (.lstore 6, 2) := by decide +kernel
theorem dX2_commonDivisor_39 : decode cX2_commonDivisor 39 = .ok (.iinc 8 1, 3) := by decide +kernel
theorem dX2_commonDivisor_42 : decode cX2_commonDivisor 42 = .ok (.goto (-33), 3) := by decide +kernel
theorem dX2_commonDivisor_45 : decode cX2_commonDivisor 45 = .ok (.lload 4, 2) := by decide +kernel
theorem dX2_commonDivisor_47 : decode cX2_commonDivisor 47 = .ok (.lreturn, 1) := by decide +kernel
theorem dX3_init_0 : decode cX3_init 0 = .ok (.aload_n 0, 1) := by decide +kernel
theorem dX3_init_1 : decode cX3_init 1 = .ok (.invokespecial 3, 3) := by decide +kernel
theorem dX3_init_4 : decode cX3_init 4 = .ok (.aload_n 0, 1) := by decide +kernel
theorem dX3_init_5 : decode cX3_init 5 = .ok (.bipush 30, 2) := by decide +kernel
theorem dX3_init_7 : decode cX3_init 7 = .ok (.newarray .int, 2) := by decide +kernel
theorem dX3_init_9 : decode cX3_init 9 = .ok (.putfield 11, 3) := by decide +kernel
theorem dX3_init_12 : decode cX3_init 12 = .ok (.return_, 1) := by decide +kernel
theorem dX3_perform_0 : decode cX3_perform 0 = .ok (.aload_n 0, 1) := by decide +kernel
theorem dX3_perform_1 : decode cX3_perform 1 = .ok (.iload_n 1, 1) := by decide +kernel
theorem dX3_perform_2 : decode cX3_perform 2 = .ok (.putfield 15, 3) := by decide +kernel
theorem dX3_perform_5 : decode cX3_perform 5 = .ok (.aload_n 0, 1) := by decide +kernel
theorem dX3_perform_6 : decode cX3_perform 6 = .ok (.iload_n 2, 1) := by decide +kernel
theorem dX3_perform_7 : decode cX3_perform 7 = .ok (.putfield 19, 3) := by decide +kernel
theorem dX3_perform_10 : decode cX3_perform 10 = .ok (.aload_n 0, 1) := by decide +kernel
theorem dX3_perform_11 : decode cX3_perform 11 = .ok (.iload_n 3, 1) := by decide +kernel
theorem dX3_perform_12 : decode cX3_perform 12 = .ok (.putfield 22, 3) := by decide +kernel
theorem dX3_perform_15 : decode cX3_perform 15 = .ok (.aload_n 0, 1) := by decide +kernel
theorem dX3_perform_16 : decode cX3_perform 16 = .ok (.iconst 0, 1) := by decide +kernel
theorem dX3_perform_17 : decode cX3_perform 17 = .ok (.putfield 25, 3) := by decide +kernel
theorem dX3_perform_20 : decode cX3_perform 20 = .ok (.aload_n 0, 1) := by decide +kernel
theorem dX3_perform_21 : decode cX3_perform 21 = .ok (.iconst 0, 1) := by decide +kernel
theorem dX3_perform_22 : decode cX3_perform 22 = .ok (.putfield 28, 3) := by decide +kernel
theorem dX3_perform_25 : decode cX3_perform 25 = .ok (.aload_n 0, 1) := by decide +kernel
theorem dX3_perform_26 : decode cX3_perform 26 = .ok (.aload_n 0, 1) := by decide +kernel
theorem dX3_perform_27 : decode cX3_perform 27 = .ok (.iload 4, 2) := by decide +kernel
theorem dX3_perform_29 : decode cX3_perform 29 = .ok (.invokevirtual 32, 3) := by decide +kernel
theorem dX3_perform_32 : decode cX3_perform 32 = .ok (.iload 5, 2) := by decide +kernel
theorem dX3_perform_34 : decode cX3_perform 34 = .ok (.iconst 0, 1) := by decide +kernel
theorem dX3_perform_35 : decode cX3_perform 35 = .ok (.invokevirtual 36, 3) := by decide +kernel
theorem dX3_perform_38 : decode cX3_perform 38 = .ok (.istore 6, 2) := by decide +kernel
theorem dX3_perform_40 : decode cX3_perform 40 = .ok (.aload_n 0, 1) := by decide +kernel
theorem dX3_perform_41 : decode cX3_perform 41 = .ok (.getfield 28, 3) := by decide +kernel
theorem dX3_perform_44 : decode cX3_perform 44 = .ok (.ifCond .eq 8, 3) := by decide +kernel
theorem dX3_perform_47 : decode cX3_perform 47 = .ok (.bipush (-15), 2) := by decide +kernel
theorem dX3_perform_49 : decode cX3_perform 49 = .ok (.goto 5, 3) := by decide +kernel
theorem dX3_perform_52 : decode cX3_perform 52 = .ok (.iload 6, 2) := by decide +kernel
theorem dX3_perform_54 : decode cX3_perform 54 = .ok (.ireturn, 1) := by decide +kernel
theorem dX3_bodyOf_0 : decode cX3_bodyOf 0 = .ok (.aload_n 0, 1) := by decide +kernel
theorem dX3_bodyOf_1 : decode cX3_bodyOf 1 = .ok (.getfield 15, 3) := by decide +kernel
theorem dX3_bodyOf_4 : decode cX3_bodyOf 4 = .ok (.iconst 4, 1) := by decide +kernel
theorem dX3_bodyOf_5 : decode cX3_bodyOf 5 = .ok (.imul, 1) := by decide +kernel
theorem dX3_bodyOf_6 : decode cX3_bodyOf 6 = .ok (.iload_n 1, 1) := by decide +kernel
theorem dX3_bodyOf_7 : decode cX3_bodyOf 7 = .ok (.iadd, 1) := by decide +kernel
theorem dX3_bodyOf_8 : decode cX3_bodyOf 8 = .ok (.istore_n 2, 1) := by decide +kernel
theorem dX3_bodyOf_9 : decode cX3_bodyOf 9 = .ok (.iload_n 1, 1) := by decide +kernel
theorem dX3_bodyOf_10 : decode cX3_bodyOf 10 = .ok (.ifCond .lt 28, 3) := by decide +kernel
theorem dX3_bodyOf_13 : decode cX3_bodyOf 13 = .ok (.iload_n 1, 1) := by decide +kernel
theorem dX3_bodyOf_14 : decode cX3_bodyOf 14 = .ok (.iconst 4, 1) := by decide +kernel
theorem dX3_bodyOf_15 : decode cX3_bodyOf 15 = .ok (.if_icmp .ge 23, 3) := by decide +kernel
theorem dX3_bodyOf_18 : decode cX3_bodyOf 18 = .ok (.iload_n 2, 1) := by decide +kernel
theorem dX3_bodyOf_19 : decode cX3_bodyOf 19 = .ok (.ifCond .lt 19, 3) := by decide +kernel
theorem dX3_bodyOf_22 : decode cX3_bodyOf 22 = .ok (.iload_n 2, 1) := by decide +kernel
theorem dX3_bodyOf_23 : decode cX3_bodyOf 23 = .ok (.getstatic 40, 3) := by decide +kernel
theorem dX3_bodyOf_26 : decode cX3_bodyOf 26 = .ok (.arraylength, 1) := by decide +kernel
theorem dX3_bodyOf_27 : decode cX3_bodyOf 27 = .ok (.if_icmp .ge 11, 3) := by decide +kernel
theorem dX3_bodyOf_30 : decode cX3_bodyOf 30 = .ok (.getstatic 40, 3) := by decide +kernel
theorem dX3_bodyOf_33 : decode cX3_bodyOf 33 = .ok (.iload_n 2, 1) := by decide +kernel
theorem dX3_bodyOf_34 : decode cX3_bodyOf 34 = .ok (.iaload, 1) := by decide +kernel
theorem dX3_bodyOf_35 : decode cX3_bodyOf 35 = .ok (.goto 4, 3) := by decide +kernel
theorem dX3_bodyOf_38 : decode cX3_bodyOf 38 = .ok (.iconst 0, 1) := by decide +kernel
theorem dX3_bodyOf_39 : decode cX3_bodyOf 39 = .ok (.ireturn, 1) := by decide +kernel
theorem dX3_run_0 : decode cX3_run 0 = .ok (.aload_n 0, 1) := by decide +kernel
theorem dX3_run_1 : decode cX3_run 1 = .ok (.getfield 28, 3) := by decide +kernel
theorem dX3_run_4 : decode cX3_run 4 = .ok (.ifCond .ne 9, 3) := by decide +kernel
theorem dX3_run_7 : decode cX3_run 7 = .ok (.iload_n 3, 1) := by decide +kernel
theorem dX3_run_8 : decode cX3_run 8 = .ok (.bipush 40, 2) := by decide +kernel
theorem dX3_run_10 : decode cX3_run 10 = .ok (.if_icmp .le 5, 3) := by decide +kernel
theorem dX3_run_13 : decode cX3_run 13 = .ok (.iconst 0, 1) := by decide +kernel
theorem dX3_run_14 : decode cX3_run 14 = .ok (.ireturn, 1) := by decide +kernel
theorem dX3_run_15 : decode cX3_run 15 = .ok (.aload_n 0, 1) := by decide +kernel
theorem dX3_run_16 : decode cX3_run 16 = .ok (.getfield 25, 3) := by decide +kernel
theorem dX3_run_19 : decode cX3_run 19 = .ok (.bipush 30, 2) := by decide +kernel
theorem dX3_run_21 : decode cX3_run 21 = .ok (.if_icmp .ge 20, 3) := by decide +kernel
theorem dX3_run_24 : decode cX3_run 24 = .ok (.aload_n 0, 1) := by decide +kernel
theorem dX3_run_25 : decode cX3_run 25 = .ok (.getfield 11, 3) := by decide +kernel
theorem dX3_run_28 : decode cX3_run 28 = .ok (.aload_n 0, 1) := by decide +kernel
theorem dX3_run_29 : decode cX3_run 29 = .ok (.dup, 1) := by decide +kernel
theorem dX3_run_30 : decode cX3_run 30 = .ok (.getfield 25, 3) := by decide +kernel
theorem dX3_run_33 : decode cX3_run 33 = .ok (.dup_x1, 1) := by decide +kernel
theorem dX3_run_34 : decode cX3_run 34 = .ok (.iconst 1, 1) := by decide +kernel
theorem dX3_run_35 : decode cX3_run 35 = .ok (.iadd, 1) := by decide +kernel
theorem dX3_run_36 : decode cX3_run 36 = .ok (.putfield 25, 3) := by decide +kernel
theorem dX3_run_39 : decode cX3_run 39 = .ok (.iload_n 1, 1) := by decide +kernel
theorem dX3_run_40 : decode cX3_run 40 = .ok (.iastore, 1) := by decide +kernel
theorem dX3_run_41 : decode cX3_run 41 = .ok (.iload_n 3, 1) := by decide +kernel
theorem dX3_run_42 : decode cX3_run 42 = .ok (.iconst 1, 1) := by decide +kernel
theorem dX3_run_43 : decode cX3_run 43 = .ok (.iadd, 1) := by decide +kernel
theorem dX3_run_44 : decode cX3_run 44 = .ok (.istore 4, 2) := by decide +kernel
theorem dX3_run_46 : decode cX3_run 46 = .ok (.iload_n 1, 1) := by decide +kernel
theorem dX3_run_47 : decode cX3_run 47 = .ok (.tableswitch 425 10 61 #[221, 228, 243, 249, 425, 425, 425, 425, 425, 425, 267, 425, 425, 425, 425, 425, 425, 425, 425, 425, 282, 294, 425, 425, 425, 425, 425, 425, 425, 425, 320, 332, 425, 425, 425, 425, 425, 425, 425, 425, 358, 372, 425, 425, 425, 425, 425, 425, 425, 425, 387, 399], 221) := by decide +kernel
theorem dX3_run_268 : decode cX3_run 268 = .ok (.iload_n 2, 1) := by decide +kernel
theorem dX3_run_269 : decode cX3_run 269 = .ok (.aload_n 0, 1) := by decide +kernel
theorem dX3_run_270 : decode cX3_run 270 = .ok (.getfield 19, 3) := by decide +kernel
theorem dX3_run_273 : decode cX3_run 273 = .ok (.iadd, 1) := by decide +kernel
theorem dX3_run_274 : decode cX3_run 274 = .ok (.ireturn, 1) := by decide +kernel
theorem dX3_run_275 : decode cX3_run 275 = .ok (.aload_n 0, 1) := by decide +kernel
theorem dX3_run_276 : decode cX3_run 276 = .ok (.aload_n 0, 1) := by decide +kernel
theorem dX3_run_277 : decode cX3_run 277 = .ok (.iconst 0, 1) := by decide +kernel
theorem dX3_run_278 : decode cX3_run 278 = .ok (.invokevirtual 32, 3) := by decide +kernel
theorem dX3_run_281 : decode cX3_run 281 = .ok (.iload_n 2, 1) := by decide +kernel
theorem dX3_run_282 : decode cX3_run 282 = .ok (.iload 4, 2) := by decide +kernel
theorem dX3_run_284 : decode cX3_run 284 = .ok (.invokevirtual 36, 3) := by decide +kernel
theorem dX3_run_287 : decode cX3_run 287 = .ok (.iconst 2, 1) := by decide +kernel
theorem dX3_run_288 : decode cX3_run 288 = .ok (.imul, 1) := by decide +kernel
theorem dX3_run_289 : decode cX3_run 289 = .ok (.ireturn, 1) := by decide +kernel
theorem dX3_run_290 : decode cX3_run 290 = .ok (.aload_n 0, 1) := by decide +kernel
theorem dX3_run_291 : decode cX3_run 291 = .ok (.iload_n 2, 1) := by decide +kernel
theorem dX3_run_292 : decode cX3_run 292 = .ok (.invokevirtual 43, 3) := by decide +kernel
theorem dX3_run_295 : decode cX3_run 295 = .ok (.ireturn, 1) := by decide +kernel
theorem dX3_run_296 : decode cX3_run 296 = .ok (.aload_n 0, 1) := by decide +kernel
theorem dX3_run_297 : decode cX3_run 297 = .ok (.aload_n 0, 1) := by decide +kernel
theorem dX3_run_298 : decode cX3_run 298 = .ok (.iconst 1, 1) := by decide +kernel
theorem dX3_run_299 : decode cX3_run 299 = .ok (.invokevirtual 32, 3) := by decide +kernel
theorem dX3_run_302 : decode cX3_run 302 = .ok (.iload_n 2, 1) := by decide +kernel
theorem dX3_run_303 : decode cX3_run 303 = .ok (.iload 4, 2) := by decide +kernel
theorem dX3_run_305 : decode cX3_run 305 = .ok (.invokevirtual 36, 3) := by decide +kernel
theorem dX3_run_308 : decode cX3_run 308 = .ok (.aload_n 0, 1) := by decide +kernel
theorem dX3_run_309 : decode cX3_run 309 = .ok (.getfield 22, 3) := by decide +kernel
theorem dX3_run_312 : decode cX3_run 312 = .ok (.ixor, 1) := by decide +kernel
theorem dX3_run_313 : decode cX3_run 313 = .ok (.ireturn, 1) := by decide +kernel
theorem dX3_run_314 : decode cX3_run 314 = .ok (.aload_n 0, 1) := by decide +kernel
theorem dX3_run_315 : decode cX3_run 315 = .ok (.bipush 11, 2) := by decide +kernel
theorem dX3_run_317 : decode cX3_run 317 = .ok (.iload_n 2, 1) := by decide +kernel
theorem dX3_run_318 : decode cX3_run 318 = .ok (.iload 4, 2) := by decide +kernel
theorem dX3_run_320 : decode cX3_run 320 = .ok (.invokevirtual 36, 3) := by decide +kernel
theorem dX3_run_323 : decode cX3_run 323 = .ok (.aload_n 0, 1) := by decide +kernel
theorem dX3_run_324 : decode cX3_run 324 = .ok (.getfield 22, 3) := by decide +kernel
theorem dX3_run_327 : decode cX3_run 327 = .ok (.isub, 1) := by decide +kernel
theorem dX3_run_328 : decode cX3_run 328 = .ok (.ireturn, 1) := by decide +kernel
theorem dX3_run_329 : decode cX3_run 329 = .ok (.aload_n 0, 1) := by decide +kernel
theorem dX3_run_330 : decode cX3_run 330 = .ok (.bipush 10, 2) := by decide +kernel
theorem dX3_run_332 : decode cX3_run 332 = .ok (.iload_n 2, 1) := by decide +kernel
theorem dX3_run_333 : decode cX3_run 333 = .ok (.iload 4, 2) := by decide +kernel
theorem dX3_run_335 : decode cX3_run 335 = .ok (.invokevirtual 36, 3) := by decide +kernel
theorem dX3_run_338 : decode cX3_run 338 = .ok (.iconst 3, 1) := by decide +kernel
theorem dX3_run_339 : decode cX3_run 339 = .ok (.imul, 1) := by decide +kernel
theorem dX3_run_340 : decode cX3_run 340 = .ok (.ireturn, 1) := by decide +kernel
theorem dX3_run_341 : decode cX3_run 341 = .ok (.aload_n 0, 1) := by decide +kernel
theorem dX3_run_342 : decode cX3_run 342 = .ok (.bipush 13, 2) := by decide +kernel
theorem dX3_run_344 : decode cX3_run 344 = .ok (.iload_n 2, 1) := by decide +kernel
theorem dX3_run_345 : decode cX3_run 345 = .ok (.iload 4, 2) := by decide +kernel
theorem dX3_run_347 : decode cX3_run 347 = .ok (.invokevirtual 36, 3) := by decide +kernel
theorem dX3_run_350 : decode cX3_run 350 = .ok (.aload_n 0, 1) := by decide +kernel
theorem dX3_run_351 : decode cX3_run 351 = .ok (.aload_n 0, 1) := by decide +kernel
theorem dX3_run_352 : decode cX3_run 352 = .ok (.iconst 2, 1) := by decide +kernel
theorem dX3_run_353 : decode cX3_run 353 = .ok (.invokevirtual 32, 3) := by decide +kernel
theorem dX3_run_356 : decode cX3_run 356 = .ok (.aload_n 0, 1) := by decide +kernel
theorem dX3_run_357 : decode cX3_run 357 = .ok (.getfield 19, 3) := by decide +kernel
theorem dX3_run_360 : decode cX3_run 360 = .ok (.iload 4, 2) := by decide +kernel
theorem dX3_run_362 : decode cX3_run 362 = .ok (.invokevirtual 36, 3) := by decide +kernel
theorem dX3_run_365 : decode cX3_run 365 = .ok (.iadd, 1) := by decide +kernel
theorem dX3_run_366 : decode cX3_run 366 = .ok (.ireturn, 1) := by decide +kernel
theorem dX3_run_367 : decode cX3_run 367 = .ok (.iconst 0, 1) := by decide +kernel
theorem dX3_run_368 : decode cX3_run 368 = .ok (.aload_n 0, 1) := by decide +kernel
theorem dX3_run_369 : decode cX3_run 369 = .ok (.bipush 10, 2) := by decide +kernel
theorem dX3_run_371 : decode cX3_run 371 = .ok (.iload_n 2, 1) := by decide +kernel
theorem dX3_run_372 : decode cX3_run 372 = .ok (.iload 4, 2) := by decide +kernel
theorem dX3_run_374 : decode cX3_run 374 = .ok (.invokevirtual 36, 3) := by decide +kernel
theorem dX3_run_377 : decode cX3_run 377 = .ok (.isub, 1) := by decide +kernel
theorem dX3_run_378 : decode cX3_run 378 = .ok (.ireturn, 1) := by decide +kernel
theorem dX3_run_379 : decode cX3_run 379 = .ok (.aload_n 0, 1) := by decide +kernel
theorem dX3_run_380 : decode cX3_run 380 = .ok (.bipush 20, 2) := by decide +kernel
theorem dX3_run_382 : decode cX3_run 382 = .ok (.iload_n 2, 1) := by decide +kernel
theorem dX3_run_383 : decode cX3_run 383 = .ok (.iload 4, 2) := by decide +kernel
theorem dX3_run_385 : decode cX3_run 385 = .ok (.invokevirtual 36, 3) := by decide +kernel
theorem dX3_run_388 : decode cX3_run 388 = .ok (.aload_n 0, 1) := by decide +kernel
theorem dX3_run_389 : decode cX3_run 389 = .ok (.aload_n 0, 1) := by decide +kernel
theorem dX3_run_390 : decode cX3_run 390 = .ok (.iconst 0, 1) := by decide +kernel
theorem dX3_run_391 : decode cX3_run 391 = .ok (.invokevirtual 32, 3) := by decide +kernel
theorem dX3_run_394 : decode cX3_run 394 = .ok (.aload_n 0, 1) := by decide +kernel
theorem dX3_run_395 : decode cX3_run 395 = .ok (.getfield 19, 3) := by decide +kernel
theorem dX3_run_398 : decode cX3_run 398 = .ok (.iload 4, 2) := by decide +kernel
theorem dX3_run_400 : decode cX3_run 400 = .ok (.invokevirtual 36, 3) := by decide +kernel
theorem dX3_run_403 : decode cX3_run 403 = .ok (.iadd, 1) := by decide +kernel
theorem dX3_run_404 : decode cX3_run 404 = .ok (.ireturn, 1) := by decide +kernel
theorem dX3_run_405 : decode cX3_run 405 = .ok (.aload_n 0, 1) := by decide +kernel
theorem dX3_run_406 : decode cX3_run 406 = .ok (.bipush 12, 2) := by decide +kernel
theorem dX3_run_408 : decode cX3_run 408 = .ok (.iload_n 2, 1) := by decide +kernel
theorem dX3_run_409 : decode cX3_run 409 = .ok (.iconst 2, 1) := by decide +kernel
theorem dX3_run_410 : decode cX3_run 410 = .ok (.iadd, 1) := by decide +kernel
theorem dX3_run_411 : decode cX3_run 411 = .ok (.iload 4, 2) := by decide +kernel
theorem dX3_run_413 : decode cX3_run 413 = .ok (.invokevirtual 36, 3) := by decide +kernel
theorem dX3_run_416 : decode cX3_run 416 = .ok (.iconst 1, 1) := by decide +kernel
theorem dX3_run_417 : decode cX3_run 417 = .ok (.ixor, 1) := by decide +kernel
theorem dX3_run_418 : decode cX3_run 418 = .ok (.ireturn, 1) := by decide +kernel
theorem dX3_run_419 : decode cX3_run 419 = .ok (.aload_n 0, 1) := by decide +kernel
theorem dX3_run_420 : decode cX3_run 420 = .ok (.bipush 30, 2) := by decide +kernel
theorem dX3_run_422 : decode cX3_run 422 = .ok (.iload_n 2, 1) := by decide +kernel
theorem dX3_run_423 : decode cX3_run 423 = .ok (.iload 4, 2) := by decide +kernel
theorem dX3_run_425 : decode cX3_run 425 = .ok (.invokevirtual 36, 3) := by decide +kernel
theorem dX3_run_428 : decode cX3_run 428 = .ok (.aload_n 0, 1) := by decide +kernel
theorem dX3_run_429 : decode cX3_run 429 = .ok (.getfield 19, 3) := by decide +kernel
theorem dX3_run_432 : decode cX3_run 432 = .ok (.isub, 1) := by decide +kernel
theorem dX3_run_433 : decode cX3_run 433 = .ok (.ireturn, 1) := by decide +kernel
theorem dX3_run_434 : decode cX3_run 434 = .ok (.aload_n 0, 1) := by decide +kernel
theorem dX3_run_435 : decode cX3_run 435 = .ok (.bipush 13, 2) := by decide +kernel
theorem dX3_run_437 : decode cX3_run 437 = .ok (.iload_n 2, 1) := by decide +kernel
theorem dX3_run_438 : decode cX3_run 438 = .ok (.iload 4, 2) := by decide +kernel
theorem dX3_run_440 : decode cX3_run 440 = .ok (.invokevirtual 36, 3) := by decide +kernel
theorem dX3_run_443 : decode cX3_run 443 = .ok (.iconst 2, 1) := by decide +kernel
theorem dX3_run_444 : decode cX3_run 444 = .ok (.imul, 1) := by decide +kernel
theorem dX3_run_445 : decode cX3_run 445 = .ok (.ireturn, 1) := by decide +kernel
theorem dX3_run_446 : decode cX3_run 446 = .ok (.aload_n 0, 1) := by decide +kernel
theorem dX3_run_447 : decode cX3_run 447 = .ok (.bipush 12, 2) := by decide +kernel
theorem dX3_run_449 : decode cX3_run 449 = .ok (.iload_n 2, 1) := by decide +kernel
theorem dX3_run_450 : decode cX3_run 450 = .ok (.iload 4, 2) := by decide +kernel
theorem dX3_run_452 : decode cX3_run 452 = .ok (.invokevirtual 36, 3) := by decide +kernel
theorem dX3_run_455 : decode cX3_run 455 = .ok (.aload_n 0, 1) := by decide +kernel
theorem dX3_run_456 : decode cX3_run 456 = .ok (.aload_n 0, 1) := by decide +kernel
theorem dX3_run_457 : decode cX3_run 457 = .ok (.iconst 0, 1) := by decide +kernel
theorem dX3_run_458 : decode cX3_run 458 = .ok (.invokevirtual 32, 3) := by decide +kernel
theorem dX3_run_461 : decode cX3_run 461 = .ok (.aload_n 0, 1) := by decide +kernel
theorem dX3_run_462 : decode cX3_run 462 = .ok (.getfield 22, 3) := by decide +kernel
theorem dX3_run_465 : decode cX3_run 465 = .ok (.iload 4, 2) := by decide +kernel
theorem dX3_run_467 : decode cX3_run 467 = .ok (.invokevirtual 36, 3) := by decide +kernel
theorem dX3_run_470 : decode cX3_run 470 = .ok (.iadd, 1) := by decide +kernel
theorem dX3_run_471 : decode cX3_run 471 = .ok (.ireturn, 1) := by decide +kernel
theorem dX3_run_472 : decode cX3_run 472 = .ok (.iconst 0, 1) := by decide +kernel
theorem dX3_run_473 : decode cX3_run 473 = .ok (.ireturn, 1) := by decide +kernel
theorem dX3_share_0 : decode cX3_share 0 = .ok (.aload_n 0, 1) := by decide +kernel
theorem dX3_share_1 : decode cX3_share 1 = .ok (.getfield 22, 3) := by decide +kernel
theorem dX3_share_4 : decode cX3_share 4 = .ok (.aload_n 0, 1) := by decide +kernel
theorem dX3_share_5 : decode cX3_share 5 = .ok (.getfield 19, 3) := by decide +kernel
theorem dX3_share_8 : decode cX3_share 8 = .ok (.isub, 1) := by decide +kernel
theorem dX3_share_9 : decode cX3_share 9 = .ok (.istore_n 2, 1) := by decide +kernel
theorem dX3_share_10 : decode cX3_share 10 = .ok (.iload_n 2, 1) := by decide +kernel
theorem dX3_share_11 : decode cX3_share 11 = .ok (.ifCond .ne 10, 3) := by decide +kernel
theorem dX3_share_14 : decode cX3_share 14 = .ok (.aload_n 0, 1) := by decide +kernel
theorem dX3_share_15 : decode cX3_share 15 = .ok (.iconst 1, 1) := by decide +kernel
theorem dX3_share_16 : decode cX3_share 16 = .ok (.putfield 28, 3) := by decide +kernel
theorem dX3_share_19 : decode cX3_share 19 = .ok (.iconst 0, 1) := by decide +kernel
theorem dX3_share_20 : decode cX3_share 20 = .ok (.ireturn, 1) := by decide +kernel
theorem dX3_share_21 : decode cX3_share 21 = .ok (.iload_n 1, 1) := by decide +kernel
theorem dX3_share_22 : decode cX3_share 22 = .ok (.iload_n 2, 1) := by decide +kernel
theorem dX3_share_23 : decode cX3_share 23 = .ok (.idiv, 1) := by decide +kernel
theorem dX3_share_24 : decode cX3_share 24 = .ok (.ireturn, 1) := by decide +kernel
theorem dX4_init_0 : decode cX4_init 0 = .ok (.aload_n 0, 1) := by decide +kernel
theorem dX4_init_1 : decode cX4_init 1 = .ok (.invokespecial 3, 3) := by decide +kernel
theorem dX4_init_4 : decode cX4_init 4 = .ok (.aload_n 0, 1) := by decide +kernel
theorem dX4_init_5 : decode cX4_init 5 = .ok (.sipush 200, 3) := by decide +kernel
theorem dX4_init_8 : decode cX4_init 8 = .ok (.newarray .int, 2) := by decide +kernel
theorem dX4_init_10 : decode cX4_init 10 = .ok (.putfield 9, 3) := by decide +kernel
theorem dX4_init_13 : decode cX4_init 13 = .ok (.aload_n 0, 1) := by decide +kernel
theorem dX4_init_14 : decode cX4_init 14 = .ok (.sipush 201, 3) := by decide +kernel
theorem dX4_init_17 : decode cX4_init 17 = .ok (.newarray .int, 2) := by decide +kernel
theorem dX4_init_19 : decode cX4_init 19 = .ok (.putfield 15, 3) := by decide +kernel
theorem dX4_init_22 : decode cX4_init 22 = .ok (.aload_n 0, 1) := by decide +kernel
theorem dX4_init_23 : decode cX4_init 23 = .ok (.sipush 201, 3) := by decide +kernel
theorem dX4_init_26 : decode cX4_init 26 = .ok (.newarray .int, 2) := by decide +kernel
theorem dX4_init_28 : decode cX4_init 28 = .ok (.putfield 18, 3) := by decide +kernel
theorem dX4_init_31 : decode cX4_init 31 = .ok (.aload_n 0, 1) := by decide +kernel
theorem dX4_init_32 : decode cX4_init 32 = .ok (.new 21, 3) := by decide +kernel
theorem dX4_init_35 : decode cX4_init 35 = .ok (.dup, 1) := by decide +kernel
theorem dX4_init_36 : decode cX4_init 36 = .ok (.invokespecial 23, 3) := by decide +kernel
theorem dX4_init_39 : decode cX4_init 39 = .ok (.putfield 24, 3) := by decide +kernel
theorem dX4_init_42 : decode cX4_init 42 = .ok (.return_, 1) := by decide +kernel
theorem dX4_append_0 : decode cX4_append 0 = .ok (.aload_n 0, 1) := by decide +kernel
theorem dX4_append_1 : decode cX4_append 1 = .ok (.getfield 28, 3) := by decide +kernel
theorem dX4_append_4 : decode cX4_append 4 = .ok (.sipush 200, 3) := by decide +kernel
theorem dX4_append_7 : decode cX4_append 7 = .ok (.if_icmp .ge 20, 3) := by decide +kernel
theorem dX4_append_10 : decode cX4_append 10 = .ok (.aload_n 0, 1) := by decide +kernel
theorem dX4_append_11 : decode cX4_append 11 = .ok (.getfield 9, 3) := by decide +kernel
theorem dX4_append_14 : decode cX4_append 14 = .ok (.aload_n 0, 1) := by decide +kernel
theorem dX4_append_15 : decode cX4_append 15 = .ok (.dup, 1) := by decide +kernel
theorem dX4_append_16 : decode cX4_append 16 = .ok (.getfield 28, 3) := by decide +kernel
theorem dX4_append_19 : decode cX4_append 19 = .ok (.dup_x1, 1) := by decide +kernel
theorem dX4_append_20 : decode cX4_append 20 = .ok (.iconst 1, 1) := by decide +kernel
theorem dX4_append_21 : decode cX4_append 21 = .ok (.iadd, 1) := by decide +kernel
theorem dX4_append_22 : decode cX4_append 22 = .ok (.putfield 28, 3) := by decide +kernel
theorem dX4_append_25 : decode cX4_append 25 = .ok (.iload_n 1, 1) := by decide +kernel
theorem dX4_append_26 : decode cX4_append 26 = .ok (.iastore, 1) := by decide +kernel
theorem dX4_append_27 : decode cX4_append 27 = .ok (.return_, 1) := by decide +kernel
theorem dX4_readText_0 : decode cX4_readText 0 = .ok (.aload_n 0, 1) := by decide +kernel
theorem dX4_readText_1 : decode cX4_readText 1 = .ok (.invokevirtual 32, 3) := by decide +kernel
theorem dX4_readText_4 : decode cX4_readText 4 = .ok (.aload_n 0, 1) := by decide +kernel
theorem dX4_readText_5 : decode cX4_readText 5 = .ok (.getfield 24, 3) := by decide +kernel
theorem dX4_readText_8 : decode cX4_readText 8 = .ok (.iconst 0, 1) := by decide +kernel
theorem dX4_readText_9 : decode cX4_readText 9 = .ok (.putfield 35, 3) := by decide +kernel
theorem dX4_readText_12 : decode cX4_readText 12 = .ok (.aload_n 0, 1) := by decide +kernel
theorem dX4_readText_13 : decode cX4_readText 13 = .ok (.getfield 24, 3) := by decide +kernel
theorem dX4_readText_16 : decode cX4_readText 16 = .ok (.iconst 0, 1) := by decide +kernel
theorem dX4_readText_17 : decode cX4_readText 17 = .ok (.putfield 38, 3) := by decide +kernel
theorem dX4_readText_20 : decode cX4_readText 20 = .ok (.aload_n 0, 1) := by decide +kernel
theorem dX4_readText_21 : decode cX4_readText 21 = .ok (.iconst 0, 1) := by decide +kernel
theorem dX4_readText_22 : decode cX4_readText 22 = .ok (.putfield 41, 3) := by decide +kernel
theorem dX4_readText_25 : decode cX4_readText 25 = .ok (.aload_n 0, 1) := by decide +kernel
theorem dX4_readText_26 : decode cX4_readText 26 = .ok (.iconst 0, 1) := by decide +kernel
theorem dX4_readText_27 : decode cX4_readText 27 = .ok (.putfield 44, 3) := by decide +kernel
theorem dX4_readText_30 : decode cX4_readText 30 = .ok (.iconst 0, 1) := by decide +kernel
theorem dX4_readText_31 : decode cX4_readText 31 = .ok (.istore_n 1, 1) := by decide +kernel
theorem dX4_readText_32 : decode cX4_readText 32 = .ok (.iload_n 1, 1) := by decide +kernel
theorem dX4_readText_33 : decode cX4_readText 33 = .ok (.bipush 8, 2) := by decide +kernel
theorem dX4_readText_35 : decode cX4_readText 35 = .ok (.if_icmp .ge 28, 3) := by decide +kernel
theorem dX4_readText_38 : decode cX4_readText 38 = .ok (.aload_n 0, 1) := by decide +kernel
theorem dX4_readText_39 : decode cX4_readText 39 = .ok (.invokevirtual 47, 3) := by decide +kernel
theorem dX4_readText_42 : decode cX4_readText 42 = .ok (.sipush 3004, 3) := by decide +kernel
theorem dX4_readText_45 : decode cX4_readText 45 = .ok (.if_icmp .eq 18, 3) := by decide +kernel
theorem dX4_readText_48 : decode cX4_readText 48 = .ok (.aload_n 0, 1) := by decide +kernel
theorem dX4_readText_49 : decode cX4_readText 49 = .ok (.invokevirtual 51, 3) := by decide +kernel
theorem dX4_readText_52 : decode cX4_readText 52 = .ok (.ifCond .ne 5, 3) := by decide +kernel
theorem dX4_readText_55 : decode cX4_readText 55 = .ok (.iconst 0, 1) := by decide +kernel
theorem dX4_readText_56 : decode cX4_readText 56 = .ok (.ireturn, 1) := by decide +kernel
theorem dX4_readText_57 : decode cX4_readText 57 = .ok (.iinc 1 1, 3) := by decide +kernel
theorem dX4_readText_60 : decode cX4_readText 60 = .ok (.goto (-28), 3) := by decide +kernel
theorem dX4_readText_63 : decode cX4_readText 63 = .ok (.aload_n 0, 1) := by decide +kernel
theorem dX4_readText_64 : decode cX4_readText 64 = .ok (.invokevirtual 47, 3) := by decide +kernel
theorem dX4_readText_67 : decode cX4_readText 67 = .ok (.sipush 3004, 3) := by decide +kernel
theorem dX4_readText_70 : decode cX4_readText 70 = .ok (.if_icmp .eq 10, 3) := by decide +kernel
theorem dX4_readText_73 : decode cX4_readText 73 = .ok (.aload_n 0, 1) := by decide +kernel
theorem dX4_readText_74 : decode cX4_readText 74 = .ok (.invokevirtual 55, 3) := by decide +kernel
theorem dX4_readText_77 : decode cX4_readText 77 = .ok (.ifCond .eq 7, 3) := by decide +kernel
theorem dX4_readText_80 : decode cX4_readText 80 = .ok (.iconst 1, 1) := by decide +kernel
theorem dX4_readText_81 : decode cX4_readText 81 = .ok (.goto 4, 3) := by decide +kernel
theorem dX4_readText_84 : decode cX4_readText 84 = .ok (.iconst 0, 1) := by decide +kernel
theorem dX4_readText_85 : decode cX4_readText 85 = .ok (.ireturn, 1) := by decide +kernel
theorem dX4_readClause_0 : decode cX4_readClause 0 = .ok (.aload_n 0, 1) := by decide +kernel
theorem dX4_readClause_1 : decode cX4_readClause 1 = .ok (.invokevirtual 47, 3) := by decide +kernel
theorem dX4_readClause_4 : decode cX4_readClause 4 = .ok (.istore_n 1, 1) := by decide +kernel
theorem dX4_readClause_5 : decode cX4_readClause 5 = .ok (.iload_n 1, 1) := by decide +kernel
theorem dX4_readClause_6 : decode cX4_readClause 6 = .ok (.sipush 2011, 3) := by decide +kernel
theorem dX4_readClause_9 : decode cX4_readClause 9 = .ok (.if_icmp .eq 15, 3) := by decide +kernel
theorem dX4_readClause_12 : decode cX4_readClause 12 = .ok (.iload_n 1, 1) := by decide +kernel
theorem dX4_readClause_13 : decode cX4_readClause 13 = .ok (.sipush 2010, 3) := by decide +kernel
theorem dX4_readClause_16 : decode cX4_readClause 16 = .ok (.if_icmp .eq 8, 3) := by decide +kernel
theorem dX4_readClause_19 : decode cX4_readClause 19 = .ok (.aload_n 0, 1) := by decide +kernel
theorem dX4_readClause_20 : decode cX4_readClause 20 = .ok (.invokevirtual 55, 3) := by decide +kernel
theorem dX4_readClause_23 : decode cX4_readClause 23 = .ok (.ireturn, 1) := by decide +kernel
theorem dX4_readClause_24 : decode cX4_readClause 24 = .ok (.aload_n 0, 1) := by decide +kernel
theorem dX4_readClause_25 : decode cX4_readClause 25 = .ok (.dup, 1) := by decide +kernel
theorem dX4_readClause_26 : decode cX4_readClause 26 = .ok (.getfield 41, 3) := by decide +kernel
theorem dX4_readClause_29 : decode cX4_readClause 29 = .ok (.iconst 1, 1) := by decide +kernel
theorem dX4_readClause_30 : decode cX4_readClause 30 = .ok (.iadd, 1) := by decide +kernel
theorem dX4_readClause_31 : decode cX4_readClause 31 = .ok (.putfield 41, 3) := by decide +kernel
theorem dX4_readClause_34 : decode cX4_readClause 34 = .ok (.aload_n 0, 1) := by decide +kernel
theorem dX4_readClause_35 : decode cX4_readClause 35 = .ok (.invokevirtual 47, 3) := by decide +kernel
theorem dX4_readClause_38 : decode cX4_readClause 38 = .ok (.sipush 3000, 3) := by decide +kernel
theorem dX4_readClause_41 : decode cX4_readClause 41 = .ok (.if_icmp .ne 7, 3) := by decide +kernel
theorem dX4_readClause_44 : decode cX4_readClause 44 = .ok (.iconst 1, 1) := by decide +kernel
theorem dX4_readClause_45 : decode cX4_readClause 45 = .ok (.goto 4, 3) := by decide +kernel
theorem dX4_readClause_48 : decode cX4_readClause 48 = .ok (.iconst 0, 1) := by decide +kernel
theorem dX4_readClause_49 : decode cX4_readClause 49 = .ok (.istore_n 2, 1) := by decide +kernel
theorem dX4_readClause_50 : decode cX4_readClause 50 = .ok (.iload_n 2, 1) := by decide +kernel
theorem dX4_readClause_51 : decode cX4_readClause 51 = .ok (.ifCond .eq 23, 3) := by decide +kernel
theorem dX4_readClause_54 : decode cX4_readClause 54 = .ok (.aload_n 0, 1) := by decide +kernel
theorem dX4_readClause_55 : decode cX4_readClause 55 = .ok (.dup, 1) := by decide +kernel
theorem dX4_readClause_56 : decode cX4_readClause 56 = .ok (.getfield 41, 3) := by decide +kernel
theorem dX4_readClause_59 : decode cX4_readClause 59 = .ok (.iconst 1, 1) := by decide +kernel
theorem dX4_readClause_60 : decode cX4_readClause 60 = .ok (.iadd, 1) := by decide +kernel
theorem dX4_readClause_61 : decode cX4_readClause 61 = .ok (.putfield 41, 3) := by decide +kernel
theorem dX4_readClause_64 : decode cX4_readClause 64 = .ok (.aload_n 0, 1) := by decide +kernel
theorem dX4_readClause_65 : decode cX4_readClause 65 = .ok (.iconst 0, 1) := by decide +kernel
theorem dX4_readClause_66 : decode cX4_readClause 66 = .ok (.invokevirtual 58, 3) := by decide +kernel
theorem dX4_readClause_69 : decode cX4_readClause 69 = .ok (.ifCond .ne 5, 3) := by decide +kernel
theorem dX4_readClause_72 : decode cX4_readClause 72 = .ok (.iconst 0, 1) := by decide +kernel
theorem dX4_readClause_73 : decode cX4_readClause 73 = .ok (.ireturn, 1) := by decide +kernel
theorem dX4_readClause_74 : decode cX4_readClause 74 = .ok (.aload_n 0, 1) := by decide +kernel
theorem dX4_readClause_75 : decode cX4_readClause 75 = .ok (.invokevirtual 47, 3) := by decide +kernel
theorem dX4_readClause_78 : decode cX4_readClause 78 = .ok (.sipush 3003, 3) := by decide +kernel
theorem dX4_readClause_81 : decode cX4_readClause 81 = .ok (.if_icmp .eq 8, 3) := by decide +kernel
theorem dX4_readClause_84 : decode cX4_readClause 84 = .ok (.aload_n 0, 1) := by decide +kernel
theorem dX4_readClause_85 : decode cX4_readClause 85 = .ok (.invokevirtual 55, 3) := by decide +kernel
theorem dX4_readClause_88 : decode cX4_readClause 88 = .ok (.ireturn, 1) := by decide +kernel
theorem dX4_readClause_89 : decode cX4_readClause 89 = .ok (.aload_n 0, 1) := by decide +kernel
theorem dX4_readClause_90 : decode cX4_readClause 90 = .ok (.dup, 1) := by decide +kernel
theorem dX4_readClause_91 : decode cX4_readClause 91 = .ok (.getfield 41, 3) := by decide +kernel
theorem dX4_readClause_94 : decode cX4_readClause 94 = .ok (.iconst 1, 1) := by decide +kernel
theorem dX4_readClause_95 : decode cX4_readClause 95 = .ok (.iadd, 1) := by decide +kernel
theorem dX4_readClause_96 : decode cX4_readClause 96 = .ok (.putfield 41, 3) := by decide +kernel
theorem dX4_readClause_99 : decode cX4_readClause 99 = .ok (.iload_n 2, 1) := by decide +kernel
theorem dX4_readClause_100 : decode cX4_readClause 100 = .ok (.ifCond .eq 29, 3) := by decide +kernel
theorem dX4_readClause_103 : decode cX4_readClause 103 = .ok (.aload_n 0, 1) := by decide +kernel
theorem dX4_readClause_104 : decode cX4_readClause 104 = .ok (.getfield 24, 3) := by decide +kernel
theorem dX4_readClause_107 : decode cX4_readClause 107 = .ok (.iload_n 1, 1) := by decide +kernel
theorem dX4_readClause_108 : decode cX4_readClause 108 = .ok (.sipush 2011, 3) := by decide +kernel
theorem dX4_readClause_111 : decode cX4_readClause 111 = .ok (.if_icmp .ne 9, 3) := by decide +kernel
theorem dX4_readClause_114 : decode cX4_readClause 114 = .ok (.sipush 2013, 3) := by decide +kernel
theorem dX4_readClause_117 : decode cX4_readClause 117 = .ok (.goto 6, 3) := by decide +kernel
theorem dX4_readClause_120 : decode cX4_readClause 120 = .ok (.sipush 2012, 3) := by decide +kernel
theorem dX4_readClause_123 : decode cX4_readClause 123 = .ok (.invokevirtual 62, 3) := by decide +kernel
theorem dX4_readClause_126 : decode cX4_readClause 126 = .ok (.goto 11, 3) := by decide +kernel
theorem dX4_readClause_129 : decode cX4_readClause 129 = .ok (.aload_n 0, 1) := by decide +kernel
theorem dX4_readClause_130 : decode cX4_readClause 130 = .ok (.getfield 24, 3) := by decide +kernel
theorem dX4_readClause_133 : decode cX4_readClause 133 = .ok (.iload_n 1, 1) := by decide +kernel
theorem dX4_readClause_134 : decode cX4_readClause 134 = .ok (.invokevirtual 62, 3) := by decide +kernel
theorem dX4_readClause_137 : decode cX4_readClause 137 = .ok (.aload_n 0, 1) := by decide +kernel
theorem dX4_readClause_138 : decode cX4_readClause 138 = .ok (.getfield 24, 3) := by decide +kernel
theorem dX4_readClause_141 : decode cX4_readClause 141 = .ok (.dup, 1) := by decide +kernel
theorem dX4_readClause_142 : decode cX4_readClause 142 = .ok (.getfield 38, 3) := by decide +kernel
theorem dX4_readClause_145 : decode cX4_readClause 145 = .ok (.iconst 1, 1) := by decide +kernel
theorem dX4_readClause_146 : decode cX4_readClause 146 = .ok (.iadd, 1) := by decide +kernel
theorem dX4_readClause_147 : decode cX4_readClause 147 = .ok (.putfield 38, 3) := by decide +kernel
theorem dX4_readClause_150 : decode cX4_readClause 150 = .ok (.iconst 1, 1) := by decide +kernel
theorem dX4_readClause_151 : decode cX4_readClause 151 = .ok (.ireturn, 1) := by decide +kernel
theorem dX4_readCond_0 : decode cX4_readCond 0 = .ok (.aload_n 0, 1) := by decide +kernel
theorem dX4_readCond_1 : decode cX4_readCond 1 = .ok (.iload_n 1, 1) := by decide +kernel
theorem dX4_readCond_2 : decode cX4_readCond 2 = .ok (.invokevirtual 66, 3) := by decide +kernel
theorem dX4_readCond_5 : decode cX4_readCond 5 = .ok (.ifCond .ne 5, 3) := by decide +kernel
theorem dX4_readCond_8 : decode cX4_readCond 8 = .ok (.iconst 0, 1) := by decide +kernel
theorem dX4_readCond_9 : decode cX4_readCond 9 = .ok (.ireturn, 1) := by decide +kernel
theorem dX4_readCond_10 : decode cX4_readCond 10 = .ok (.iconst 0, 1) := by decide +kernel
theorem dX4_readCond_11 : decode cX4_readCond 11 = .ok (.istore_n 2, 1) := by decide +kernel
theorem dX4_readCond_12 : decode cX4_readCond 12 = .ok (.iload_n 2, 1) := by decide +kernel
theorem dX4_readCond_13 : decode cX4_readCond 13 = .ok (.sipush 200, 3) := by decide +kernel
theorem dX4_readCond_16 : decode cX4_readCond 16 = .ok (.if_icmp .ge 49, 3) := by decide +kernel
theorem dX4_readCond_19 : decode cX4_readCond 19 = .ok (.aload_n 0, 1) := by decide +kernel
theorem dX4_readCond_20 : decode cX4_readCond 20 = .ok (.invokevirtual 47, 3) := by decide +kernel
theorem dX4_readCond_23 : decode cX4_readCond 23 = .ok (.sipush 2005, 3) := by decide +kernel
theorem dX4_readCond_26 : decode cX4_readCond 26 = .ok (.if_icmp .ne 39, 3) := by decide +kernel
theorem dX4_readCond_29 : decode cX4_readCond 29 = .ok (.aload_n 0, 1) := by decide +kernel
theorem dX4_readCond_30 : decode cX4_readCond 30 = .ok (.dup, 1) := by decide +kernel
theorem dX4_readCond_31 : decode cX4_readCond 31 = .ok (.getfield 41, 3) := by decide +kernel
theorem dX4_readCond_34 : decode cX4_readCond 34 = .ok (.iconst 1, 1) := by decide +kernel
theorem dX4_readCond_35 : decode cX4_readCond 35 = .ok (.iadd, 1) := by decide +kernel
theorem dX4_readCond_36 : decode cX4_readCond 36 = .ok (.putfield 41, 3) := by decide +kernel
theorem dX4_readCond_39 : decode cX4_readCond 39 = .ok (.aload_n 0, 1) := by decide +kernel
theorem dX4_readCond_40 : decode cX4_readCond 40 = .ok (.iload_n 1, 1) := by decide +kernel
theorem dX4_readCond_41 : decode cX4_readCond 41 = .ok (.invokevirtual 66, 3) := by decide +kernel
theorem dX4_readCond_44 : decode cX4_readCond 44 = .ok (.ifCond .ne 5, 3) := by decide +kernel
theorem dX4_readCond_47 : decode cX4_readCond 47 = .ok (.iconst 0, 1) := by decide +kernel
theorem dX4_readCond_48 : decode cX4_readCond 48 = .ok (.ireturn, 1) := by decide +kernel
theorem dX4_readCond_49 : decode cX4_readCond 49 = .ok (.aload_n 0, 1) := by decide +kernel
theorem dX4_readCond_50 : decode cX4_readCond 50 = .ok (.getfield 24, 3) := by decide +kernel
theorem dX4_readCond_53 : decode cX4_readCond 53 = .ok (.sipush 2005, 3) := by decide +kernel
theorem dX4_readCond_56 : decode cX4_readCond 56 = .ok (.invokevirtual 62, 3) := by decide +kernel
theorem dX4_readCond_59 : decode cX4_readCond 59 = .ok (.iinc 2 1, 3) := by decide +kernel
theorem dX4_readCond_62 : decode cX4_readCond 62 = .ok (.goto (-50), 3) := by decide +kernel
theorem dX4_readCond_65 : decode cX4_readCond 65 = .ok (.iconst 1, 1) := by decide +kernel
theorem dX4_readCond_66 : decode cX4_readCond 66 = .ok (.ireturn, 1) := by decide +kernel
theorem dX4_readAll_0 : decode cX4_readAll 0 = .ok (.aload_n 0, 1) := by decide +kernel
theorem dX4_readAll_1 : decode cX4_readAll 1 = .ok (.iload_n 1, 1) := by decide +kernel
theorem dX4_readAll_2 : decode cX4_readAll 2 = .ok (.invokevirtual 69, 3) := by decide +kernel
theorem dX4_readAll_5 : decode cX4_readAll 5 = .ok (.ifCond .ne 5, 3) := by decide +kernel
theorem dX4_readAll_8 : decode cX4_readAll 8 = .ok (.iconst 0, 1) := by decide +kernel
theorem dX4_readAll_9 : decode cX4_readAll 9 = .ok (.ireturn, 1) := by decide +kernel
theorem dX4_readAll_10 : decode cX4_readAll 10 = .ok (.iconst 0, 1) := by decide +kernel
theorem dX4_readAll_11 : decode cX4_readAll 11 = .ok (.istore_n 2, 1) := by decide +kernel
theorem dX4_readAll_12 : decode cX4_readAll 12 = .ok (.iload_n 2, 1) := by decide +kernel
theorem dX4_readAll_13 : decode cX4_readAll 13 = .ok (.sipush 200, 3) := by decide +kernel
theorem dX4_readAll_16 : decode cX4_readAll 16 = .ok (.if_icmp .ge 49, 3) := by decide +kernel
theorem dX4_readAll_19 : decode cX4_readAll 19 = .ok (.aload_n 0, 1) := by decide +kernel
theorem dX4_readAll_20 : decode cX4_readAll 20 = .ok (.invokevirtual 47, 3) := by decide +kernel
theorem dX4_readAll_23 : decode cX4_readAll 23 = .ok (.sipush 2004, 3) := by decide +kernel
theorem dX4_readAll_26 : decode cX4_readAll 26 = .ok (.if_icmp .ne 39, 3) := by decide +kernel
theorem dX4_readAll_29 : decode cX4_readAll 29 = .ok (.aload_n 0, 1) := by decide +kernel
theorem dX4_readAll_30 : decode cX4_readAll 30 = .ok (.dup, 1) := by decide +kernel
theorem dX4_readAll_31 : decode cX4_readAll 31 = .ok (.getfield 41, 3) := by decide +kernel
theorem dX4_readAll_34 : decode cX4_readAll 34 = .ok (.iconst 1, 1) := by decide +kernel
theorem dX4_readAll_35 : decode cX4_readAll 35 = .ok (.iadd, 1) := by decide +kernel
theorem dX4_readAll_36 : decode cX4_readAll 36 = .ok (.putfield 41, 3) := by decide +kernel
theorem dX4_readAll_39 : decode cX4_readAll 39 = .ok (.aload_n 0, 1) := by decide +kernel
theorem dX4_readAll_40 : decode cX4_readAll 40 = .ok (.iload_n 1, 1) := by decide +kernel
theorem dX4_readAll_41 : decode cX4_readAll 41 = .ok (.invokevirtual 69, 3) := by decide +kernel
theorem dX4_readAll_44 : decode cX4_readAll 44 = .ok (.ifCond .ne 5, 3) := by decide +kernel
theorem dX4_readAll_47 : decode cX4_readAll 47 = .ok (.iconst 0, 1) := by decide +kernel
theorem dX4_readAll_48 : decode cX4_readAll 48 = .ok (.ireturn, 1) := by decide +kernel
theorem dX4_readAll_49 : decode cX4_readAll 49 = .ok (.aload_n 0, 1) := by decide +kernel
theorem dX4_readAll_50 : decode cX4_readAll 50 = .ok (.getfield 24, 3) := by decide +kernel
theorem dX4_readAll_53 : decode cX4_readAll 53 = .ok (.sipush 2004, 3) := by decide +kernel
theorem dX4_readAll_56 : decode cX4_readAll 56 = .ok (.invokevirtual 62, 3) := by decide +kernel
theorem dX4_readAll_59 : decode cX4_readAll 59 = .ok (.iinc 2 1, 3) := by decide +kernel
theorem dX4_readAll_62 : decode cX4_readAll 62 = .ok (.goto (-50), 3) := by decide +kernel
theorem dX4_readAll_65 : decode cX4_readAll 65 = .ok (.iconst 1, 1) := by decide +kernel
theorem dX4_readAll_66 : decode cX4_readAll 66 = .ok (.ireturn, 1) := by decide +kernel
theorem dX4_readOne_0 : decode cX4_readOne 0 = .ok (.iconst 0, 1) := by decide +kernel
theorem dX4_readOne_1 : decode cX4_readOne 1 = .ok (.istore_n 2, 1) := by decide +kernel
theorem dX4_readOne_2 : decode cX4_readOne 2 = .ok (.iconst 0, 1) := by decide +kernel
theorem dX4_readOne_3 : decode cX4_readOne 3 = .ok (.istore_n 3, 1) := by decide +kernel
theorem dX4_readOne_4 : decode cX4_readOne 4 = .ok (.iload_n 3, 1) := by decide +kernel
theorem dX4_readOne_5 : decode cX4_readOne 5 = .ok (.sipush 200, 3) := by decide +kernel
theorem dX4_readOne_8 : decode cX4_readOne 8 = .ok (.if_icmp .ge 39, 3) := by decide +kernel
theorem dX4_readOne_11 : decode cX4_readOne 11 = .ok (.aload_n 0, 1) := by decide +kernel
theorem dX4_readOne_12 : decode cX4_readOne 12 = .ok (.invokevirtual 47, 3) := by decide +kernel
theorem dX4_readOne_15 : decode cX4_readOne 15 = .ok (.sipush 2003, 3) := by decide +kernel
theorem dX4_readOne_18 : decode cX4_readOne 18 = .ok (.if_icmp .ne 29, 3) := by decide +kernel
theorem dX4_readOne_21 : decode cX4_readOne 21 = .ok (.iload_n 2, 1) := by decide +kernel
theorem dX4_readOne_22 : decode cX4_readOne 22 = .ok (.ifCond .ne 7, 3) := by decide +kernel
theorem dX4_readOne_25 : decode cX4_readOne 25 = .ok (.iconst 1, 1) := by decide +kernel
theorem dX4_readOne_26 : decode cX4_readOne 26 = .ok (.goto 4, 3) := by decide +kernel
theorem dX4_readOne_29 : decode cX4_readOne 29 = .ok (.iconst 0, 1) := by decide +kernel
theorem dX4_readOne_30 : decode cX4_readOne 30 = .ok (.istore_n 2, 1) := by decide +kernel
theorem dX4_readOne_31 : decode cX4_readOne 31 = .ok (.aload_n 0, 1) := by decide +kernel
theorem dX4_readOne_32 : decode cX4_readOne 32 = .ok (.dup, 1) := by decide +kernel
theorem dX4_readOne_33 : decode cX4_readOne 33 = .ok (.getfield 41, 3) := by decide +kernel
theorem dX4_readOne_36 : decode cX4_readOne 36 = .ok (.iconst 1, 1) := by decide +kernel
theorem dX4_readOne_37 : decode cX4_readOne 37 = .ok (.iadd, 1) := by decide +kernel
theorem dX4_readOne_38 : decode cX4_readOne 38 = .ok (.putfield 41, 3) := by decide +kernel
theorem dX4_readOne_41 : decode cX4_readOne 41 = .ok (.iinc 3 1, 3) := by decide +kernel
theorem dX4_readOne_44 : decode cX4_readOne 44 = .ok (.goto (-40), 3) := by decide +kernel
theorem dX4_readOne_47 : decode cX4_readOne 47 = .ok (.aload_n 0, 1) := by decide +kernel
theorem dX4_readOne_48 : decode cX4_readOne 48 = .ok (.invokevirtual 47, 3) := by decide +kernel
theorem dX4_readOne_51 : decode cX4_readOne 51 = .ok (.sipush 3001, 3) := by decide +kernel
theorem dX4_readOne_54 : decode cX4_readOne 54 = .ok (.if_icmp .ne 11, 3) := by decide +kernel
theorem dX4_readOne_57 : decode cX4_readOne 57 = .ok (.aload_n 0, 1) := by decide +kernel
theorem dX4_readOne_58 : decode cX4_readOne 58 = .ok (.iload_n 1, 1) := by decide +kernel
theorem dX4_readOne_59 : decode cX4_readOne 59 = .ok (.invokevirtual 72, 3) := by decide +kernel
theorem dX4_readOne_62 : decode cX4_readOne 62 = .ok (.goto 7, 3) := by decide +kernel
theorem dX4_readOne_65 : decode cX4_readOne 65 = .ok (.aload_n 0, 1) := by decide +kernel
theorem dX4_readOne_66 : decode cX4_readOne 66 = .ok (.invokevirtual 75, 3) := by decide +kernel
theorem dX4_readOne_69 : decode cX4_readOne 69 = .ok (.istore_n 3, 1) := by decide +kernel
theorem dX4_readOne_70 : decode cX4_readOne 70 = .ok (.iload_n 3, 1) := by decide +kernel
theorem dX4_readOne_71 : decode cX4_readOne 71 = .ok (.ifCond .eq 17, 3) := by decide +kernel
theorem dX4_readOne_74 : decode cX4_readOne 74 = .ok (.iload_n 2, 1) := by decide +kernel
theorem dX4_readOne_75 : decode cX4_readOne 75 = .ok (.ifCond .eq 13, 3) := by decide +kernel
theorem dX4_readOne_78 : decode cX4_readOne 78 = .ok (.aload_n 0, 1) := by decide +kernel
theorem dX4_readOne_79 : decode cX4_readOne 79 = .ok (.getfield 24, 3) := by decide +kernel
theorem dX4_readOne_82 : decode cX4_readOne 82 = .ok (.sipush 2003, 3) := by decide +kernel
theorem dX4_readOne_85 : decode cX4_readOne 85 = .ok (.invokevirtual 62, 3) := by decide +kernel
theorem dX4_readOne_88 : decode cX4_readOne 88 = .ok (.iload_n 3, 1) := by decide +kernel
theorem dX4_readOne_89 : decode cX4_readOne 89 = .ok (.ireturn, 1) := by decide +kernel
theorem dX4_readBracket_0 : decode cX4_readBracket 0 = .ok (.iload_n 1, 1) := by decide +kernel
theorem dX4_readBracket_1 : decode cX4_readBracket 1 = .ok (.iconst 3, 1) := by decide +kernel
theorem dX4_readBracket_2 : decode cX4_readBracket 2 = .ok (.if_icmp .lt 8, 3) := by decide +kernel
theorem dX4_readBracket_5 : decode cX4_readBracket 5 = .ok (.aload_n 0, 1) := by decide +kernel
theorem dX4_readBracket_6 : decode cX4_readBracket 6 = .ok (.invokevirtual 55, 3) := by decide +kernel
theorem dX4_readBracket_9 : decode cX4_readBracket 9 = .ok (.ireturn, 1) := by decide +kernel
theorem dX4_readBracket_10 : decode cX4_readBracket 10 = .ok (.aload_n 0, 1) := by decide +kernel
theorem dX4_readBracket_11 : decode cX4_readBracket 11 = .ok (.dup, 1) := by decide +kernel
theorem dX4_readBracket_12 : decode cX4_readBracket 12 = .ok (.getfield 41, 3) := by decide +kernel
theorem dX4_readBracket_15 : decode cX4_readBracket 15 = .ok (.iconst 1, 1) := by decide +kernel
theorem dX4_readBracket_16 : decode cX4_readBracket 16 = .ok (.iadd, 1) := by decide +kernel
theorem dX4_readBracket_17 : decode cX4_readBracket 17 = .ok (.putfield 41, 3) := by decide +kernel
theorem dX4_readBracket_20 : decode cX4_readBracket 20 = .ok (.aload_n 0, 1) := by decide +kernel
theorem dX4_readBracket_21 : decode cX4_readBracket 21 = .ok (.iload_n 1, 1) := by decide +kernel
theorem dX4_readBracket_22 : decode cX4_readBracket 22 = .ok (.iconst 1, 1) := by decide +kernel
theorem dX4_readBracket_23 : decode cX4_readBracket 23 = .ok (.iadd, 1) := by decide +kernel
theorem dX4_readBracket_24 : decode cX4_readBracket 24 = .ok (.invokevirtual 58, 3) := by decide +kernel
theorem dX4_readBracket_27 : decode cX4_readBracket 27 = .ok (.ifCond .ne 5, 3) := by decide +kernel
theorem dX4_readBracket_30 : decode cX4_readBracket 30 = .ok (.iconst 0, 1) := by decide +kernel
theorem dX4_readBracket_31 : decode cX4_readBracket 31 = .ok (.ireturn, 1) := by decide +kernel
theorem dX4_readBracket_32 : decode cX4_readBracket 32 = .ok (.aload_n 0, 1) := by decide +kernel
theorem dX4_readBracket_33 : decode cX4_readBracket 33 = .ok (.invokevirtual 47, 3) := by decide +kernel
theorem dX4_readBracket_36 : decode cX4_readBracket 36 = .ok (.sipush 3002, 3) := by decide +kernel
theorem dX4_readBracket_39 : decode cX4_readBracket 39 = .ok (.if_icmp .eq 8, 3) := by decide +kernel
theorem dX4_readBracket_42 : decode cX4_readBracket 42 = .ok (.aload_n 0, 1) := by decide +kernel
theorem dX4_readBracket_43 : decode cX4_readBracket 43 = .ok (.invokevirtual 55, 3) := by decide +kernel
theorem dX4_readBracket_46 : decode cX4_readBracket 46 = .ok (.ireturn, 1) := by decide +kernel
theorem dX4_readBracket_47 : decode cX4_readBracket 47 = .ok (.aload_n 0, 1) := by decide +kernel
theorem dX4_readBracket_48 : decode cX4_readBracket 48 = .ok (.dup, 1) := by decide +kernel
theorem dX4_readBracket_49 : decode cX4_readBracket 49 = .ok (.getfield 41, 3) := by decide +kernel
theorem dX4_readBracket_52 : decode cX4_readBracket 52 = .ok (.iconst 1, 1) := by decide +kernel
theorem dX4_readBracket_53 : decode cX4_readBracket 53 = .ok (.iadd, 1) := by decide +kernel
theorem dX4_readBracket_54 : decode cX4_readBracket 54 = .ok (.putfield 41, 3) := by decide +kernel
theorem dX4_readBracket_57 : decode cX4_readBracket 57 = .ok (.iconst 1, 1) := by decide +kernel
theorem dX4_readBracket_58 : decode cX4_readBracket 58 = .ok (.ireturn, 1) := by decide +kernel
theorem dX4_readComparison_0 : decode cX4_readComparison 0 = .ok (.aload_n 0, 1) := by decide +kernel
theorem dX4_readComparison_1 : decode cX4_readComparison 1 = .ok (.invokevirtual 47, 3) := by decide +kernel
theorem dX4_readComparison_4 : decode cX4_readComparison 4 = .ok (.istore_n 1, 1) := by decide +kernel
theorem dX4_readComparison_5 : decode cX4_readComparison 5 = .ok (.iload_n 1, 1) := by decide +kernel
theorem dX4_readComparison_6 : decode cX4_readComparison 6 = .ok (.invokestatic 78, 3) := by decide +kernel
theorem dX4_readComparison_9 : decode cX4_readComparison 9 = .ok (.ifCond .ne 8, 3) := by decide +kernel
theorem dX4_readComparison_12 : decode cX4_readComparison 12 = .ok (.aload_n 0, 1) := by decide +kernel
theorem dX4_readComparison_13 : decode cX4_readComparison 13 = .ok (.invokevirtual 55, 3) := by decide +kernel
theorem dX4_readComparison_16 : decode cX4_readComparison 16 = .ok (.ireturn, 1) := by decide +kernel
theorem dX4_readComparison_17 : decode cX4_readComparison 17 = .ok (.aload_n 0, 1) := by decide +kernel
theorem dX4_readComparison_18 : decode cX4_readComparison 18 = .ok (.dup, 1) := by decide +kernel
theorem dX4_readComparison_19 : decode cX4_readComparison 19 = .ok (.getfield 41, 3) := by decide +kernel
theorem dX4_readComparison_22 : decode cX4_readComparison 22 = .ok (.iconst 1, 1) := by decide +kernel
theorem dX4_readComparison_23 : decode cX4_readComparison 23 = .ok (.iadd, 1) := by decide +kernel
theorem dX4_readComparison_24 : decode cX4_readComparison 24 = .ok (.putfield 41, 3) := by decide +kernel
theorem dX4_readComparison_27 : decode cX4_readComparison 27 = .ok (.aload_n 0, 1) := by decide +kernel
theorem dX4_readComparison_28 : decode cX4_readComparison 28 = .ok (.invokevirtual 47, 3) := by decide +kernel
theorem dX4_readComparison_31 : decode cX4_readComparison 31 = .ok (.istore_n 2, 1) := by decide +kernel
theorem dX4_readComparison_32 : decode cX4_readComparison 32 = .ok (.iload_n 2, 1) := by decide +kernel
theorem dX4_readComparison_33 : decode cX4_readComparison 33 = .ok (.sipush 2000, 3) := by decide +kernel
theorem dX4_readComparison_36 : decode cX4_readComparison 36 = .ok (.if_icmp .eq 22, 3) := by decide +kernel
theorem dX4_readComparison_39 : decode cX4_readComparison 39 = .ok (.iload_n 2, 1) := by decide +kernel
theorem dX4_readComparison_40 : decode cX4_readComparison 40 = .ok (.sipush 2001, 3) := by decide +kernel
theorem dX4_readComparison_43 : decode cX4_readComparison 43 = .ok (.if_icmp .eq 15, 3) := by decide +kernel
theorem dX4_readComparison_46 : decode cX4_readComparison 46 = .ok (.iload_n 2, 1) := by decide +kernel
theorem dX4_readComparison_47 : decode cX4_readComparison 47 = .ok (.sipush 2002, 3) := by decide +kernel
theorem dX4_readComparison_50 : decode cX4_readComparison 50 = .ok (.if_icmp .eq 8, 3) := by decide +kernel
theorem dX4_readComparison_53 : decode cX4_readComparison 53 = .ok (.aload_n 0, 1) := by decide +kernel
theorem dX4_readComparison_54 : decode cX4_readComparison 54 = .ok (.invokevirtual 55, 3) := by decide +kernel
theorem dX4_readComparison_57 : decode cX4_readComparison 57 = .ok (.ireturn, 1) := by decide +kernel
theorem dX4_readComparison_58 : decode cX4_readComparison 58 = .ok (.aload_n 0, 1) := by decide +kernel
theorem dX4_readComparison_59 : decode cX4_readComparison 59 = .ok (.dup, 1) := by decide +kernel
theorem dX4_readComparison_60 : decode cX4_readComparison 60 = .ok (.getfield 41, 3) := by decide +kernel
theorem dX4_readComparison_63 : decode cX4_readComparison 63 = .ok (.iconst 1, 1) := by decide +kernel
theorem dX4_readComparison_64 : decode cX4_readComparison 64 = .ok (.iadd, 1) := by decide +kernel
theorem dX4_readComparison_65 : decode cX4_readComparison 65 = .ok (.putfield 41, 3) := by decide +kernel
theorem dX4_readComparison_68 : decode cX4_readComparison 68 = .ok (.aload_n 0, 1) := by decide +kernel
theorem dX4_readComparison_69 : decode cX4_readComparison 69 = .ok (.invokevirtual 47, 3) := by decide +kernel
theorem dX4_readComparison_72 : decode cX4_readComparison 72 = .ok (.istore_n 3, 1) := by decide +kernel
theorem dX4_readComparison_73 : decode cX4_readComparison 73 = .ok (.iload_n 3, 1) := by decide +kernel
theorem dX4_readComparison_74 : decode cX4_readComparison 74 = .ok (.invokestatic 78, 3) := by decide +kernel
theorem dX4_readComparison_77 : decode cX4_readComparison 77 = .ok (.ifCond .ne 8, 3) := by decide +kernel
theorem dX4_readComparison_80 : decode cX4_readComparison 80 = .ok (.aload_n 0, 1) := by decide +kernel
theorem dX4_readComparison_81 : decode cX4_readComparison 81 = .ok (.invokevirtual 55, 3) := by decide +kernel
theorem dX4_readComparison_84 : decode cX4_readComparison 84 = .ok (.ireturn, 1) := by decide +kernel
theorem dX4_readComparison_85 : decode cX4_readComparison 85 = .ok (.aload_n 0, 1) := by decide +kernel
theorem dX4_readComparison_86 : decode cX4_readComparison 86 = .ok (.dup, 1) := by decide +kernel
theorem dX4_readComparison_87 : decode cX4_readComparison 87 = .ok (.getfield 41, 3) := by decide +kernel
theorem dX4_readComparison_90 : decode cX4_readComparison 90 = .ok (.iconst 1, 1) := by decide +kernel
theorem dX4_readComparison_91 : decode cX4_readComparison 91 = .ok (.iadd, 1) := by decide +kernel
theorem dX4_readComparison_92 : decode cX4_readComparison 92 = .ok (.putfield 41, 3) := by decide +kernel
theorem dX4_readComparison_95 : decode cX4_readComparison 95 = .ok (.aload_n 0, 1) := by decide +kernel
theorem dX4_readComparison_96 : decode cX4_readComparison 96 = .ok (.getfield 24, 3) := by decide +kernel
theorem dX4_readComparison_99 : decode cX4_readComparison 99 = .ok (.iload_n 1, 1) := by decide +kernel
theorem dX4_readComparison_100 : decode cX4_readComparison 100 = .ok (.invokevirtual 62, 3) := by decide +kernel
theorem dX4_readComparison_103 : decode cX4_readComparison 103 = .ok (.aload_n 0, 1) := by decide +kernel
theorem dX4_readComparison_104 : decode cX4_readComparison 104 = .ok (.getfield 24, 3) := by decide +kernel
theorem dX4_readComparison_107 : decode cX4_readComparison 107 = .ok (.iload_n 3, 1) := by decide +kernel
theorem dX4_readComparison_108 : decode cX4_readComparison 108 = .ok (.invokevirtual 62, 3) := by decide +kernel
theorem dX4_readComparison_111 : decode cX4_readComparison 111 = .ok (.aload_n 0, 1) := by decide +kernel
theorem dX4_readComparison_112 : decode cX4_readComparison 112 = .ok (.getfield 24, 3) := by decide +kernel
theorem dX4_readComparison_115 : decode cX4_readComparison 115 = .ok (.iload_n 2, 1) := by decide +kernel
theorem dX4_readComparison_116 : decode cX4_readComparison 116 = .ok (.invokevirtual 62, 3) := by decide +kernel
theorem dX4_readComparison_119 : decode cX4_readComparison 119 = .ok (.iconst 1, 1) := by decide +kernel
theorem dX4_readComparison_120 : decode cX4_readComparison 120 = .ok (.ireturn, 1) := by decide +kernel
theorem dX4_isValue_0 : decode cX4_isValue 0 = .ok (.iload_n 0, 1) := by decide +kernel
theorem dX4_isValue_1 : decode cX4_isValue 1 = .ok (.ifCond .lt 14, 3) := by decide +kernel
theorem dX4_isValue_4 : decode cX4_isValue 4 = .ok (.iload_n 0, 1) := by decide +kernel
theorem dX4_isValue_5 : decode cX4_isValue 5 = .ok (.sipush 2000, 3) := by decide +kernel
theorem dX4_isValue_8 : decode cX4_isValue 8 = .ok (.if_icmp .ge 7, 3) := by decide +kernel
theorem dX4_isValue_11 : decode cX4_isValue 11 = .ok (.iconst 1, 1) := by decide +kernel
theorem dX4_isValue_12 : decode cX4_isValue 12 = .ok (.goto 4, 3) := by decide +kernel
theorem dX4_isValue_15 : decode cX4_isValue 15 = .ok (.iconst 0, 1) := by decide +kernel
theorem dX4_isValue_16 : decode cX4_isValue 16 = .ok (.ireturn, 1) := by decide +kernel
theorem dX4_here_0 : decode cX4_here 0 = .ok (.aload_n 0, 1) := by decide +kernel
theorem dX4_here_1 : decode cX4_here 1 = .ok (.getfield 41, 3) := by decide +kernel
theorem dX4_here_4 : decode cX4_here 4 = .ok (.ifCond .lt 26, 3) := by decide +kernel
theorem dX4_here_7 : decode cX4_here 7 = .ok (.aload_n 0, 1) := by decide +kernel
theorem dX4_here_8 : decode cX4_here 8 = .ok (.getfield 41, 3) := by decide +kernel
theorem dX4_here_11 : decode cX4_here 11 = .ok (.aload_n 0, 1) := by decide +kernel
theorem dX4_here_12 : decode cX4_here 12 = .ok (.getfield 81, 3) := by decide +kernel
theorem dX4_here_15 : decode cX4_here 15 = .ok (.if_icmp .ge 15, 3) := by decide +kernel
theorem dX4_here_18 : decode cX4_here 18 = .ok (.aload_n 0, 1) := by decide +kernel
theorem dX4_here_19 : decode cX4_here 19 = .ok (.getfield 15, 3) := by decide +kernel
theorem dX4_here_22 : decode cX4_here 22 = .ok (.aload_n 0, 1) := by decide +kernel
theorem dX4_here_23 : decode cX4_here 23 = .ok (.getfield 41, 3) := by decide +kernel
theorem dX4_here_26 : decode cX4_here 26 = .ok (.iaload, 1) := by decide +kernel
theorem dX4_here_27 : decode cX4_here 27 = .ok (.goto 6, 3) := by decide +kernel
theorem dX4_here_30 : decode cX4_here 30 = .ok (.sipush 3004, 3) := by decide +kernel
theorem dX4_here_33 : decode cX4_here 33 = .ok (.ireturn, 1) := by decide +kernel
theorem dX4_refuse_0 : decode cX4_refuse 0 = .ok (.aload_n 0, 1) := by decide +kernel
theorem dX4_refuse_1 : decode cX4_refuse 1 = .ok (.aload_n 0, 1) := by decide +kernel
theorem dX4_refuse_2 : decode cX4_refuse 2 = .ok (.getfield 41, 3) := by decide +kernel
theorem dX4_refuse_5 : decode cX4_refuse 5 = .ok (.ifCond .lt 26, 3) := by decide +kernel
theorem dX4_refuse_8 : decode cX4_refuse 8 = .ok (.aload_n 0, 1) := by decide +kernel
theorem dX4_refuse_9 : decode cX4_refuse 9 = .ok (.getfield 41, 3) := by decide +kernel
theorem dX4_refuse_12 : decode cX4_refuse 12 = .ok (.aload_n 0, 1) := by decide +kernel
theorem dX4_refuse_13 : decode cX4_refuse 13 = .ok (.getfield 81, 3) := by decide +kernel
theorem dX4_refuse_16 : decode cX4_refuse 16 = .ok (.if_icmp .ge 15, 3) := by decide +kernel
theorem dX4_refuse_19 : decode cX4_refuse 19 = .ok (.aload_n 0, 1) := by decide +kernel
theorem dX4_refuse_20 : decode cX4_refuse 20 = .ok (.getfield 18, 3) := by decide +kernel
theorem dX4_refuse_23 : decode cX4_refuse 23 = .ok (.aload_n 0, 1) := by decide +kernel
theorem dX4_refuse_24 : decode cX4_refuse 24 = .ok (.getfield 41, 3) := by decide +kernel
theorem dX4_refuse_27 : decode cX4_refuse 27 = .ok (.iaload, 1) := by decide +kernel
theorem dX4_refuse_28 : decode cX4_refuse 28 = .ok (.goto 7, 3) := by decide +kernel
theorem dX4_refuse_31 : decode cX4_refuse 31 = .ok (.aload_n 0, 1) := by decide +kernel
theorem dX4_refuse_32 : decode cX4_refuse 32 = .ok (.getfield 28, 3) := by decide +kernel
theorem dX4_refuse_35 : decode cX4_refuse 35 = .ok (.putfield 44, 3) := by decide +kernel
theorem dX4_refuse_38 : decode cX4_refuse 38 = .ok (.iconst 0, 1) := by decide +kernel
theorem dX4_refuse_39 : decode cX4_refuse 39 = .ok (.ireturn, 1) := by decide +kernel
theorem dX4_cut_0 : decode cX4_cut 0 = .ok (.aload_n 0, 1) := by decide +kernel
theorem dX4_cut_1 : decode cX4_cut 1 = .ok (.iconst 0, 1) := by decide +kernel
theorem dX4_cut_2 : decode cX4_cut 2 = .ok (.putfield 81, 3) := by decide +kernel
theorem dX4_cut_5 : decode cX4_cut 5 = .ok (.iconst 0, 1) := by decide +kernel
theorem dX4_cut_6 : decode cX4_cut 6 = .ok (.istore_n 1, 1) := by decide +kernel
theorem dX4_cut_7 : decode cX4_cut 7 = .ok (.iload_n 1, 1) := by decide +kernel
theorem dX4_cut_8 : decode cX4_cut 8 = .ok (.aload_n 0, 1) := by decide +kernel
theorem dX4_cut_9 : decode cX4_cut 9 = .ok (.getfield 28, 3) := by decide +kernel
theorem dX4_cut_12 : decode cX4_cut 12 = .ok (.if_icmp .ge 68, 3) := by decide +kernel
theorem dX4_cut_15 : decode cX4_cut 15 = .ok (.aload_n 0, 1) := by decide +kernel
theorem dX4_cut_16 : decode cX4_cut 16 = .ok (.iload_n 1, 1) := by decide +kernel
theorem dX4_cut_17 : decode cX4_cut 17 = .ok (.invokevirtual 82, 3) := by decide +kernel
theorem dX4_cut_20 : decode cX4_cut 20 = .ok (.istore_n 2, 1) := by decide +kernel
theorem dX4_cut_21 : decode cX4_cut 21 = .ok (.iload_n 1, 1) := by decide +kernel
theorem dX4_cut_22 : decode cX4_cut 22 = .ok (.iconst 1, 1) := by decide +kernel
theorem dX4_cut_23 : decode cX4_cut 23 = .ok (.iadd, 1) := by decide +kernel
theorem dX4_cut_24 : decode cX4_cut 24 = .ok (.istore_n 3, 1) := by decide +kernel
theorem dX4_cut_25 : decode cX4_cut 25 = .ok (.iload_n 3, 1) := by decide +kernel
theorem dX4_cut_26 : decode cX4_cut 26 = .ok (.aload_n 0, 1) := by decide +kernel
theorem dX4_cut_27 : decode cX4_cut 27 = .ok (.getfield 28, 3) := by decide +kernel
theorem dX4_cut_30 : decode cX4_cut 30 = .ok (.if_icmp .ge 23, 3) := by decide +kernel
theorem dX4_cut_33 : decode cX4_cut 33 = .ok (.iload_n 2, 1) := by decide +kernel
theorem dX4_cut_34 : decode cX4_cut 34 = .ok (.iconst 3, 1) := by decide +kernel
theorem dX4_cut_35 : decode cX4_cut 35 = .ok (.if_icmp .eq 18, 3) := by decide +kernel
theorem dX4_cut_38 : decode cX4_cut 38 = .ok (.aload_n 0, 1) := by decide +kernel
theorem dX4_cut_39 : decode cX4_cut 39 = .ok (.iload_n 3, 1) := by decide +kernel
theorem dX4_cut_40 : decode cX4_cut 40 = .ok (.invokevirtual 82, 3) := by decide +kernel
theorem dX4_cut_43 : decode cX4_cut 43 = .ok (.iload_n 2, 1) := by decide +kernel
theorem dX4_cut_44 : decode cX4_cut 44 = .ok (.if_icmp .ne 9, 3) := by decide +kernel
theorem dX4_cut_47 : decode cX4_cut 47 = .ok (.iinc 3 1, 3) := by decide +kernel
theorem dX4_cut_50 : decode cX4_cut 50 = .ok (.goto (-25), 3) := by decide +kernel
theorem dX4_cut_53 : decode cX4_cut 53 = .ok (.aload_n 0, 1) := by decide +kernel
theorem dX4_cut_54 : decode cX4_cut 54 = .ok (.iload_n 1, 1) := by decide +kernel
theorem dX4_cut_55 : decode cX4_cut 55 = .ok (.invokevirtual 86, 3) := by decide +kernel
theorem dX4_cut_58 : decode cX4_cut 58 = .ok (.bipush 32, 2) := by decide +kernel
theorem dX4_cut_60 : decode cX4_cut 60 = .ok (.if_icmp .eq 15, 3) := by decide +kernel
theorem dX4_cut_63 : decode cX4_cut 63 = .ok (.aload_n 0, 1) := by decide +kernel
theorem dX4_cut_64 : decode cX4_cut 64 = .ok (.aload_n 0, 1) := by decide +kernel
theorem dX4_cut_65 : decode cX4_cut 65 = .ok (.iload_n 2, 1) := by decide +kernel
theorem dX4_cut_66 : decode cX4_cut 66 = .ok (.iload_n 1, 1) := by decide +kernel
theorem dX4_cut_67 : decode cX4_cut 67 = .ok (.iload_n 3, 1) := by decide +kernel
theorem dX4_cut_68 : decode cX4_cut 68 = .ok (.invokevirtual 89, 3) := by decide +kernel
theorem dX4_cut_71 : decode cX4_cut 71 = .ok (.iload_n 1, 1) := by decide +kernel
theorem dX4_cut_72 : decode cX4_cut 72 = .ok (.invokevirtual 93, 3) := by decide +kernel
theorem dX4_cut_75 : decode cX4_cut 75 = .ok (.iload_n 3, 1) := by decide +kernel
theorem dX4_cut_76 : decode cX4_cut 76 = .ok (.istore_n 1, 1) := by decide +kernel
theorem dX4_cut_77 : decode cX4_cut 77 = .ok (.goto (-70), 3) := by decide +kernel
theorem dX4_cut_80 : decode cX4_cut 80 = .ok (.aload_n 0, 1) := by decide +kernel
theorem dX4_cut_81 : decode cX4_cut 81 = .ok (.sipush 3004, 3) := by decide +kernel
theorem dX4_cut_84 : decode cX4_cut 84 = .ok (.aload_n 0, 1) := by decide +kernel
theorem dX4_cut_85 : decode cX4_cut 85 = .ok (.getfield 28, 3) := by decide +kernel
theorem dX4_cut_88 : decode cX4_cut 88 = .ok (.invokevirtual 93, 3) := by decide +kernel
theorem dX4_cut_91 : decode cX4_cut 91 = .ok (.return_, 1) := by decide +kernel
theorem dX4_addToken_0 : decode cX4_addToken 0 = .ok (.aload_n 0, 1) := by decide +kernel
theorem dX4_addToken_1 : decode cX4_addToken 1 = .ok (.getfield 81, 3) := by decide +kernel
theorem dX4_addToken_4 : decode cX4_addToken 4 = .ok (.sipush 200, 3) := by decide +kernel
theorem dX4_addToken_7 : decode cX4_addToken 7 = .ok (.if_icmp .le 4, 3) := by decide +kernel
theorem dX4_addToken_10 : decode cX4_addToken 10 = .ok (.return_, 1) := by decide +kernel
theorem dX4_addToken_11 : decode cX4_addToken 11 = .ok (.aload_n 0, 1) := by decide +kernel
theorem dX4_addToken_12 : decode cX4_addToken 12 = .ok (.getfield 15, 3) := by decide +kernel
theorem dX4_addToken_15 : decode cX4_addToken 15 = .ok (.aload_n 0, 1) := by decide +kernel
theorem dX4_addToken_16 : decode cX4_addToken 16 = .ok (.getfield 81, 3) := by decide +kernel
theorem dX4_addToken_19 : decode cX4_addToken 19 = .ok (.iload_n 1, 1) := by decide +kernel
theorem dX4_addToken_20 : decode cX4_addToken 20 = .ok (.iastore, 1) := by decide +kernel
theorem dX4_addToken_21 : decode cX4_addToken 21 = .ok (.aload_n 0, 1) := by decide +kernel
theorem dX4_addToken_22 : decode cX4_addToken 22 = .ok (.getfield 18, 3) := by decide +kernel
theorem dX4_addToken_25 : decode cX4_addToken 25 = .ok (.aload_n 0, 1) := by decide +kernel
theorem dX4_addToken_26 : decode cX4_addToken 26 = .ok (.getfield 81, 3) := by decide +kernel
theorem dX4_addToken_29 : decode cX4_addToken 29 = .ok (.iload_n 2, 1) := by decide +kernel
theorem dX4_addToken_30 : decode cX4_addToken 30 = .ok (.iastore, 1) := by decide +kernel
theorem dX4_addToken_31 : decode cX4_addToken 31 = .ok (.aload_n 0, 1) := by decide +kernel
theorem dX4_addToken_32 : decode cX4_addToken 32 = .ok (.dup, 1) := by decide +kernel
theorem dX4_addToken_33 : decode cX4_addToken 33 = .ok (.getfield 81, 3) := by decide +kernel
theorem dX4_addToken_36 : decode cX4_addToken 36 = .ok (.iconst 1, 1) := by decide +kernel
theorem dX4_addToken_37 : decode cX4_addToken 37 = .ok (.iadd, 1) := by decide +kernel
theorem dX4_addToken_38 : decode cX4_addToken 38 = .ok (.putfield 81, 3) := by decide +kernel
theorem dX4_addToken_41 : decode cX4_addToken 41 = .ok (.return_, 1) := by decide +kernel
theorem dX4_tokenOf_0 : decode cX4_tokenOf 0 = .ok (.iload_n 1, 1) := by decide +kernel
theorem dX4_tokenOf_1 : decode cX4_tokenOf 1 = .ok (.iconst 1, 1) := by decide +kernel
theorem dX4_tokenOf_2 : decode cX4_tokenOf 2 = .ok (.if_icmp .ne 10, 3) := by decide +kernel
theorem dX4_tokenOf_5 : decode cX4_tokenOf 5 = .ok (.aload_n 0, 1) := by decide +kernel
theorem dX4_tokenOf_6 : decode cX4_tokenOf 6 = .ok (.iload_n 2, 1) := by decide +kernel
theorem dX4_tokenOf_7 : decode cX4_tokenOf 7 = .ok (.iload_n 3, 1) := by decide +kernel
theorem dX4_tokenOf_8 : decode cX4_tokenOf 8 = .ok (.invokevirtual 97, 3) := by decide +kernel
theorem dX4_tokenOf_11 : decode cX4_tokenOf 11 = .ok (.ireturn, 1) := by decide +kernel
theorem dX4_tokenOf_12 : decode cX4_tokenOf 12 = .ok (.iload_n 1, 1) := by decide +kernel
theorem dX4_tokenOf_13 : decode cX4_tokenOf 13 = .ok (.iconst 2, 1) := by decide +kernel
theorem dX4_tokenOf_14 : decode cX4_tokenOf 14 = .ok (.if_icmp .ne 10, 3) := by decide +kernel
theorem dX4_tokenOf_17 : decode cX4_tokenOf 17 = .ok (.aload_n 0, 1) := by decide +kernel
theorem dX4_tokenOf_18 : decode cX4_tokenOf 18 = .ok (.iload_n 2, 1) := by decide +kernel
theorem dX4_tokenOf_19 : decode cX4_tokenOf 19 = .ok (.iload_n 3, 1) := by decide +kernel
theorem dX4_tokenOf_20 : decode cX4_tokenOf 20 = .ok (.invokevirtual 101, 3) := by decide +kernel
theorem dX4_tokenOf_23 : decode cX4_tokenOf 23 = .ok (.ireturn, 1) := by decide +kernel
theorem dX4_tokenOf_24 : decode cX4_tokenOf 24 = .ok (.aload_n 0, 1) := by decide +kernel
theorem dX4_tokenOf_25 : decode cX4_tokenOf 25 = .ok (.iload_n 2, 1) := by decide +kernel
theorem dX4_tokenOf_26 : decode cX4_tokenOf 26 = .ok (.invokevirtual 86, 3) := by decide +kernel
theorem dX4_tokenOf_29 : decode cX4_tokenOf 29 = .ok (.lookupswitch 83 #[(40, 59), (41, 63), (59, 67), (60, 71), (61, 75), (62, 79)], 59) := by decide +kernel
theorem dX4_tokenOf_88 : decode cX4_tokenOf 88 = .ok (.sipush 3001, 3) := by decide +kernel
theorem dX4_tokenOf_91 : decode cX4_tokenOf 91 = .ok (.ireturn, 1) := by decide +kernel
theorem dX4_tokenOf_92 : decode cX4_tokenOf 92 = .ok (.sipush 3002, 3) := by decide +kernel
theorem dX4_tokenOf_95 : decode cX4_tokenOf 95 = .ok (.ireturn, 1) := by decide +kernel
theorem dX4_tokenOf_96 : decode cX4_tokenOf 96 = .ok (.sipush 3003, 3) := by decide +kernel
theorem dX4_tokenOf_99 : decode cX4_tokenOf 99 = .ok (.ireturn, 1) := by decide +kernel
theorem dX4_tokenOf_100 : decode cX4_tokenOf 100 = .ok (.sipush 2000, 3) := by decide +kernel
theorem dX4_tokenOf_103 : decode cX4_tokenOf 103 = .ok (.ireturn, 1) := by decide +kernel
theorem dX4_tokenOf_104 : decode cX4_tokenOf 104 = .ok (.sipush 2001, 3) := by decide +kernel
theorem dX4_tokenOf_107 : decode cX4_tokenOf 107 = .ok (.ireturn, 1) := by decide +kernel
theorem dX4_tokenOf_108 : decode cX4_tokenOf 108 = .ok (.sipush 2002, 3) := by decide +kernel
theorem dX4_tokenOf_111 : decode cX4_tokenOf 111 = .ok (.ireturn, 1) := by decide +kernel
theorem dX4_tokenOf_112 : decode cX4_tokenOf 112 = .ok (.sipush 3005, 3) := by decide +kernel
theorem dX4_tokenOf_115 : decode cX4_tokenOf 115 = .ok (.ireturn, 1) := by decide +kernel
theorem dX4_nameToken_0 : decode cX4_nameToken 0 = .ok (.aload_n 0, 1) := by decide +kernel
theorem dX4_nameToken_1 : decode cX4_nameToken 1 = .ok (.iload_n 1, 1) := by decide +kernel
theorem dX4_nameToken_2 : decode cX4_nameToken 2 = .ok (.iload_n 2, 1) := by decide +kernel
theorem dX4_nameToken_3 : decode cX4_nameToken 3 = .ok (.ldc 104, 2) := by decide +kernel
theorem dX4_nameToken_5 : decode cX4_nameToken 5 = .ok (.invokevirtual 106, 3) := by decide +kernel
theorem dX4_nameToken_8 : decode cX4_nameToken 8 = .ok (.ifCond .eq 7, 3) := by decide +kernel
theorem dX4_nameToken_11 : decode cX4_nameToken 11 = .ok (.sipush 2011, 3) := by decide +kernel
theorem dX4_nameToken_14 : decode cX4_nameToken 14 = .ok (.ireturn, 1) := by decide +kernel
theorem dX4_nameToken_15 : decode cX4_nameToken 15 = .ok (.aload_n 0, 1) := by decide +kernel
theorem dX4_nameToken_16 : decode cX4_nameToken 16 = .ok (.iload_n 1, 1) := by decide +kernel
theorem dX4_nameToken_17 : decode cX4_nameToken 17 = .ok (.iload_n 2, 1) := by decide +kernel
theorem dX4_nameToken_18 : decode cX4_nameToken 18 = .ok (.ldc 110, 2) := by decide +kernel
theorem dX4_nameToken_20 : decode cX4_nameToken 20 = .ok (.invokevirtual 106, 3) := by decide +kernel
theorem dX4_nameToken_23 : decode cX4_nameToken 23 = .ok (.ifCond .eq 7, 3) := by decide +kernel
theorem dX4_nameToken_26 : decode cX4_nameToken 26 = .ok (.sipush 2010, 3) := by decide +kernel
theorem dX4_nameToken_29 : decode cX4_nameToken 29 = .ok (.ireturn, 1) := by decide +kernel
theorem dX4_nameToken_30 : decode cX4_nameToken 30 = .ok (.aload_n 0, 1) := by decide +kernel
theorem dX4_nameToken_31 : decode cX4_nameToken 31 = .ok (.iload_n 1, 1) := by decide +kernel
theorem dX4_nameToken_32 : decode cX4_nameToken 32 = .ok (.iload_n 2, 1) := by decide +kernel
theorem dX4_nameToken_33 : decode cX4_nameToken 33 = .ok (.ldc 112, 2) := by decide +kernel
theorem dX4_nameToken_35 : decode cX4_nameToken 35 = .ok (.invokevirtual 106, 3) := by decide +kernel
theorem dX4_nameToken_38 : decode cX4_nameToken 38 = .ok (.ifCond .eq 7, 3) := by decide +kernel
theorem dX4_nameToken_41 : decode cX4_nameToken 41 = .ok (.sipush 3000, 3) := by decide +kernel
theorem dX4_nameToken_44 : decode cX4_nameToken 44 = .ok (.ireturn, 1) := by decide +kernel
theorem dX4_nameToken_45 : decode cX4_nameToken 45 = .ok (.aload_n 0, 1) := by decide +kernel
theorem dX4_nameToken_46 : decode cX4_nameToken 46 = .ok (.iload_n 1, 1) := by decide +kernel
theorem dX4_nameToken_47 : decode cX4_nameToken 47 = .ok (.iload_n 2, 1) := by decide +kernel
theorem dX4_nameToken_48 : decode cX4_nameToken 48 = .ok (.ldc 114, 2) := by decide +kernel
theorem dX4_nameToken_50 : decode cX4_nameToken 50 = .ok (.invokevirtual 106, 3) := by decide +kernel
theorem dX4_nameToken_53 : decode cX4_nameToken 53 = .ok (.ifCond .eq 7, 3) := by decide +kernel
theorem dX4_nameToken_56 : decode cX4_nameToken 56 = .ok (.sipush 2005, 3) := by decide +kernel
theorem dX4_nameToken_59 : decode cX4_nameToken 59 = .ok (.ireturn, 1) := by decide +kernel
theorem dX4_nameToken_60 : decode cX4_nameToken 60 = .ok (.aload_n 0, 1) := by decide +kernel
theorem dX4_nameToken_61 : decode cX4_nameToken 61 = .ok (.iload_n 1, 1) := by decide +kernel
theorem dX4_nameToken_62 : decode cX4_nameToken 62 = .ok (.iload_n 2, 1) := by decide +kernel
theorem dX4_nameToken_63 : decode cX4_nameToken 63 = .ok (.ldc 116, 2) := by decide +kernel
theorem dX4_nameToken_65 : decode cX4_nameToken 65 = .ok (.invokevirtual 106, 3) := by decide +kernel
theorem dX4_nameToken_68 : decode cX4_nameToken 68 = .ok (.ifCond .eq 7, 3) := by decide +kernel
theorem dX4_nameToken_71 : decode cX4_nameToken 71 = .ok (.sipush 2004, 3) := by decide +kernel
theorem dX4_nameToken_74 : decode cX4_nameToken 74 = .ok (.ireturn, 1) := by decide +kernel
theorem dX4_nameToken_75 : decode cX4_nameToken 75 = .ok (.aload_n 0, 1) := by decide +kernel
theorem dX4_nameToken_76 : decode cX4_nameToken 76 = .ok (.iload_n 1, 1) := by decide +kernel
theorem dX4_nameToken_77 : decode cX4_nameToken 77 = .ok (.iload_n 2, 1) := by decide +kernel
theorem dX4_nameToken_78 : decode cX4_nameToken 78 = .ok (.ldc 118, 2) := by decide +kernel
theorem dX4_nameToken_80 : decode cX4_nameToken 80 = .ok (.invokevirtual 106, 3) := by decide +kernel
theorem dX4_nameToken_83 : decode cX4_nameToken 83 = .ok (.ifCond .eq 7, 3) := by decide +kernel
theorem dX4_nameToken_86 : decode cX4_nameToken 86 = .ok (.sipush 2003, 3) := by decide +kernel
theorem dX4_nameToken_89 : decode cX4_nameToken 89 = .ok (.ireturn, 1) := by decide +kernel
theorem dX4_nameToken_90 : decode cX4_nameToken 90 = .ok (.aload_n 0, 1) := by decide +kernel
theorem dX4_nameToken_91 : decode cX4_nameToken 91 = .ok (.iload_n 1, 1) := by decide +kernel
theorem dX4_nameToken_92 : decode cX4_nameToken 92 = .ok (.iload_n 2, 1) := by decide +kernel
theorem dX4_nameToken_93 : decode cX4_nameToken 93 = .ok (.ldc 120, 2) := by decide +kernel
theorem dX4_nameToken_95 : decode cX4_nameToken 95 = .ok (.invokevirtual 106, 3) := by decide +kernel
theorem dX4_nameToken_98 : decode cX4_nameToken 98 = .ok (.ifCond .eq 7, 3) := by decide +kernel
theorem dX4_nameToken_101 : decode cX4_nameToken 101 = .ok (.sipush 1000, 3) := by decide +kernel
theorem dX4_nameToken_104 : decode cX4_nameToken 104 = .ok (.ireturn, 1) := by decide +kernel
theorem dX4_nameToken_105 : decode cX4_nameToken 105 = .ok (.aload_n 0, 1) := by decide +kernel
theorem dX4_nameToken_106 : decode cX4_nameToken 106 = .ok (.iload_n 1, 1) := by decide +kernel
theorem dX4_nameToken_107 : decode cX4_nameToken 107 = .ok (.iload_n 2, 1) := by decide +kernel
theorem dX4_nameToken_108 : decode cX4_nameToken 108 = .ok (.ldc 122, 2) := by decide +kernel
theorem dX4_nameToken_110 : decode cX4_nameToken 110 = .ok (.invokevirtual 106, 3) := by decide +kernel
theorem dX4_nameToken_113 : decode cX4_nameToken 113 = .ok (.ifCond .eq 7, 3) := by decide +kernel
theorem dX4_nameToken_116 : decode cX4_nameToken 116 = .ok (.sipush 1001, 3) := by decide +kernel
theorem dX4_nameToken_119 : decode cX4_nameToken 119 = .ok (.ireturn, 1) := by decide +kernel
theorem dX4_nameToken_120 : decode cX4_nameToken 120 = .ok (.aload_n 0, 1) := by decide +kernel
theorem dX4_nameToken_121 : decode cX4_nameToken 121 = .ok (.iload_n 1, 1) := by decide +kernel
theorem dX4_nameToken_122 : decode cX4_nameToken 122 = .ok (.iload_n 2, 1) := by decide +kernel
theorem dX4_nameToken_123 : decode cX4_nameToken 123 = .ok (.ldc 124, 2) := by decide +kernel
theorem dX4_nameToken_125 : decode cX4_nameToken 125 = .ok (.invokevirtual 106, 3) := by decide +kernel
theorem dX4_nameToken_128 : decode cX4_nameToken 128 = .ok (.ifCond .eq 7, 3) := by decide +kernel
theorem dX4_nameToken_131 : decode cX4_nameToken 131 = .ok (.sipush 1002, 3) := by decide +kernel
theorem dX4_nameToken_134 : decode cX4_nameToken 134 = .ok (.ireturn, 1) := by decide +kernel
theorem dX4_nameToken_135 : decode cX4_nameToken 135 = .ok (.aload_n 0, 1) := by decide +kernel
theorem dX4_nameToken_136 : decode cX4_nameToken 136 = .ok (.iload_n 1, 1) := by decide +kernel
theorem dX4_nameToken_137 : decode cX4_nameToken 137 = .ok (.iload_n 2, 1) := by decide +kernel
theorem dX4_nameToken_138 : decode cX4_nameToken 138 = .ok (.ldc 126, 2) := by decide +kernel
theorem dX4_nameToken_140 : decode cX4_nameToken 140 = .ok (.invokevirtual 106, 3) := by decide +kernel
theorem dX4_nameToken_143 : decode cX4_nameToken 143 = .ok (.ifCond .eq 7, 3) := by decide +kernel
theorem dX4_nameToken_146 : decode cX4_nameToken 146 = .ok (.sipush 1003, 3) := by decide +kernel
theorem dX4_nameToken_149 : decode cX4_nameToken 149 = .ok (.ireturn, 1) := by decide +kernel
theorem dX4_nameToken_150 : decode cX4_nameToken 150 = .ok (.aload_n 0, 1) := by decide +kernel
theorem dX4_nameToken_151 : decode cX4_nameToken 151 = .ok (.iload_n 1, 1) := by decide +kernel
theorem dX4_nameToken_152 : decode cX4_nameToken 152 = .ok (.iload_n 2, 1) := by decide +kernel
theorem dX4_nameToken_153 : decode cX4_nameToken 153 = .ok (.ldc 128, 2) := by decide +kernel
theorem dX4_nameToken_155 : decode cX4_nameToken 155 = .ok (.invokevirtual 106, 3) := by decide +kernel
theorem dX4_nameToken_158 : decode cX4_nameToken 158 = .ok (.ifCond .eq 7, 3) := by decide +kernel
theorem dX4_nameToken_161 : decode cX4_nameToken 161 = .ok (.sipush 1004, 3) := by decide +kernel
theorem dX4_nameToken_164 : decode cX4_nameToken 164 = .ok (.ireturn, 1) := by decide +kernel
theorem dX4_nameToken_165 : decode cX4_nameToken 165 = .ok (.aload_n 0, 1) := by decide +kernel
theorem dX4_nameToken_166 : decode cX4_nameToken 166 = .ok (.iload_n 1, 1) := by decide +kernel
theorem dX4_nameToken_167 : decode cX4_nameToken 167 = .ok (.iload_n 2, 1) := by decide +kernel
theorem dX4_nameToken_168 : decode cX4_nameToken 168 = .ok (.ldc 130, 2) := by decide +kernel
theorem dX4_nameToken_170 : decode cX4_nameToken 170 = .ok (.invokevirtual 106, 3) := by decide +kernel
theorem dX4_nameToken_173 : decode cX4_nameToken 173 = .ok (.ifCond .eq 7, 3) := by decide +kernel
theorem dX4_nameToken_176 : decode cX4_nameToken 176 = .ok (.sipush 1005, 3) := by decide +kernel
theorem dX4_nameToken_179 : decode cX4_nameToken 179 = .ok (.ireturn, 1) := by decide +kernel
theorem dX4_nameToken_180 : decode cX4_nameToken 180 = .ok (.sipush 3005, 3) := by decide +kernel
theorem dX4_nameToken_183 : decode cX4_nameToken 183 = .ok (.ireturn, 1) := by decide +kernel
theorem dX4_isName_0 : decode cX4_isName 0 = .ok (.iload_n 2, 1) := by decide +kernel
theorem dX4_isName_1 : decode cX4_isName 1 = .ok (.iload_n 1, 1) := by decide +kernel
theorem dX4_isName_2 : decode cX4_isName 2 = .ok (.isub, 1) := by decide +kernel
theorem dX4_isName_3 : decode cX4_isName 3 = .ok (.aload_n 3, 1) := by decide +kernel
theorem dX4_isName_4 : decode cX4_isName 4 = .ok (.invokevirtual 132, 3) := by decide +kernel
theorem dX4_isName_7 : decode cX4_isName 7 = .ok (.if_icmp .eq 5, 3) := by decide +kernel
theorem dX4_isName_10 : decode cX4_isName 10 = .ok (.iconst 0, 1) := by decide +kernel
theorem dX4_isName_11 : decode cX4_isName 11 = .ok (.ireturn, 1) := by decide +kernel
theorem dX4_isName_12 : decode cX4_isName 12 = .ok (.iconst 0, 1) := by decide +kernel
theorem dX4_isName_13 : decode cX4_isName 13 = .ok (.istore 4, 2) := by decide +kernel
theorem dX4_isName_15 : decode cX4_isName 15 = .ok (.iload 4, 2) := by decide +kernel
theorem dX4_isName_17 : decode cX4_isName 17 = .ok (.aload_n 3, 1) := by decide +kernel
theorem dX4_isName_18 : decode cX4_isName 18 = .ok (.invokevirtual 132, 3) := by decide +kernel
theorem dX4_isName_21 : decode cX4_isName 21 = .ok (.if_icmp .ge 28, 3) := by decide +kernel
theorem dX4_isName_24 : decode cX4_isName 24 = .ok (.aload_n 0, 1) := by decide +kernel
theorem dX4_isName_25 : decode cX4_isName 25 = .ok (.iload_n 1, 1) := by decide +kernel
theorem dX4_isName_26 : decode cX4_isName 26 = .ok (.iload 4, 2) := by decide +kernel
theorem dX4_isName_28 : decode cX4_isName 28 = .ok (.iadd, 1) := by decide +kernel
theorem dX4_isName_29 : decode cX4_isName 29 = .ok (.invokevirtual 86, 3) := by decide +kernel
theorem dX4_isName_32 : decode cX4_isName 32 = .ok (.aload_n 3, 1) := by decide +kernel
theorem dX4_isName_33 : decode cX4_isName 33 = .ok (.iload 4, 2) := by decide +kernel
theorem dX4_isName_35 : decode cX4_isName 35 = .ok (.invokevirtual 136, 3) := by decide +kernel
theorem dX4_isName_38 : decode cX4_isName 38 = .ok (.if_icmp .eq 5, 3) := by decide +kernel
theorem dX4_isName_41 : decode cX4_isName 41 = .ok (.iconst 0, 1) := by decide +kernel
theorem dX4_isName_42 : decode cX4_isName 42 = .ok (.ireturn, 1) := by decide +kernel
theorem dX4_isName_43 : decode cX4_isName 43 = .ok (.iinc 4 1, 3) := by decide +kernel
theorem dX4_isName_46 : decode cX4_isName 46 = .ok (.goto (-31), 3) := by decide +kernel
theorem dX4_isName_49 : decode cX4_isName 49 = .ok (.iconst 1, 1) := by decide +kernel
theorem dX4_isName_50 : decode cX4_isName 50 = .ok (.ireturn, 1) := by decide +kernel
theorem dX4_numberToken_0 : decode cX4_numberToken 0 = .ok (.iload_n 2, 1) := by decide +kernel
theorem dX4_numberToken_1 : decode cX4_numberToken 1 = .ok (.iload_n 1, 1) := by decide +kernel
theorem dX4_numberToken_2 : decode cX4_numberToken 2 = .ok (.isub, 1) := by decide +kernel
theorem dX4_numberToken_3 : decode cX4_numberToken 3 = .ok (.iconst 3, 1) := by decide +kernel
theorem dX4_numberToken_4 : decode cX4_numberToken 4 = .ok (.if_icmp .le 7, 3) := by decide +kernel
theorem dX4_numberToken_7 : decode cX4_numberToken 7 = .ok (.sipush 3005, 3) := by decide +kernel
theorem dX4_numberToken_10 : decode cX4_numberToken 10 = .ok (.ireturn, 1) := by decide +kernel
theorem dX4_numberToken_11 : decode cX4_numberToken 11 = .ok (.iconst 0, 1) := by decide +kernel
theorem dX4_numberToken_12 : decode cX4_numberToken 12 = .ok (.istore_n 3, 1) := by decide +kernel
theorem dX4_numberToken_13 : decode cX4_numberToken 13 = .ok (.iload_n 1, 1) := by decide +kernel
theorem dX4_numberToken_14 : decode cX4_numberToken 14 = .ok (.istore 4, 2) := by decide +kernel
theorem dX4_numberToken_16 : decode cX4_numberToken 16 = .ok (.iload 4, 2) := by decide +kernel
theorem dX4_numberToken_18 : decode cX4_numberToken 18 = .ok (.iload_n 2, 1) := by decide +kernel
theorem dX4_numberToken_19 : decode cX4_numberToken 19 = .ok (.if_icmp .ge 24, 3) := by decide +kernel
theorem dX4_numberToken_22 : decode cX4_numberToken 22 = .ok (.iload_n 3, 1) := by decide +kernel
theorem dX4_numberToken_23 : decode cX4_numberToken 23 = .ok (.bipush 10, 2) := by decide +kernel
theorem dX4_numberToken_25 : decode cX4_numberToken 25 = .ok (.imul, 1) := by decide +kernel
theorem dX4_numberToken_26 : decode cX4_numberToken 26 = .ok (.aload_n 0, 1) := by decide +kernel
theorem dX4_numberToken_27 : decode cX4_numberToken 27 = .ok (.iload 4, 2) := by decide +kernel
theorem dX4_numberToken_29 : decode cX4_numberToken 29 = .ok (.invokevirtual 86, 3) := by decide +kernel
theorem dX4_numberToken_32 : decode cX4_numberToken 32 = .ok (.iadd, 1) := by decide +kernel
theorem dX4_numberToken_33 : decode cX4_numberToken 33 = .ok (.bipush 48, 2) := by decide +kernel
theorem dX4_numberToken_35 : decode cX4_numberToken 35 = .ok (.isub, 1) := by decide +kernel
theorem dX4_numberToken_36 : decode cX4_numberToken 36 = .ok (.istore_n 3, 1) := by decide +kernel
theorem dX4_numberToken_37 : decode cX4_numberToken 37 = .ok (.iinc 4 1, 3) := by decide +kernel
theorem dX4_numberToken_40 : decode cX4_numberToken 40 = .ok (.goto (-24), 3) := by decide +kernel
theorem dX4_numberToken_43 : decode cX4_numberToken 43 = .ok (.iload_n 3, 1) := by decide +kernel
theorem dX4_numberToken_44 : decode cX4_numberToken 44 = .ok (.ireturn, 1) := by decide +kernel
theorem dX4_sortAt_0 : decode cX4_sortAt 0 = .ok (.aload_n 0, 1) := by decide +kernel
theorem dX4_sortAt_1 : decode cX4_sortAt 1 = .ok (.iload_n 1, 1) := by decide +kernel
theorem dX4_sortAt_2 : decode cX4_sortAt 2 = .ok (.invokevirtual 86, 3) := by decide +kernel
theorem dX4_sortAt_5 : decode cX4_sortAt 5 = .ok (.istore_n 2, 1) := by decide +kernel
theorem dX4_sortAt_6 : decode cX4_sortAt 6 = .ok (.iload_n 2, 1) := by decide +kernel
theorem dX4_sortAt_7 : decode cX4_sortAt 7 = .ok (.bipush 97, 2) := by decide +kernel
theorem dX4_sortAt_9 : decode cX4_sortAt 9 = .ok (.if_icmp .lt 11, 3) := by decide +kernel
theorem dX4_sortAt_12 : decode cX4_sortAt 12 = .ok (.iload_n 2, 1) := by decide +kernel
theorem dX4_sortAt_13 : decode cX4_sortAt 13 = .ok (.bipush 122, 2) := by decide +kernel
theorem dX4_sortAt_15 : decode cX4_sortAt 15 = .ok (.if_icmp .gt 5, 3) := by decide +kernel
theorem dX4_sortAt_18 : decode cX4_sortAt 18 = .ok (.iconst 1, 1) := by decide +kernel
theorem dX4_sortAt_19 : decode cX4_sortAt 19 = .ok (.ireturn, 1) := by decide +kernel
theorem dX4_sortAt_20 : decode cX4_sortAt 20 = .ok (.iload_n 2, 1) := by decide +kernel
theorem dX4_sortAt_21 : decode cX4_sortAt 21 = .ok (.bipush 48, 2) := by decide +kernel
theorem dX4_sortAt_23 : decode cX4_sortAt 23 = .ok (.if_icmp .lt 13, 3) := by decide +kernel
theorem dX4_sortAt_26 : decode cX4_sortAt 26 = .ok (.iload_n 2, 1) := by decide +kernel
theorem dX4_sortAt_27 : decode cX4_sortAt 27 = .ok (.bipush 57, 2) := by decide +kernel
theorem dX4_sortAt_29 : decode cX4_sortAt 29 = .ok (.if_icmp .gt 7, 3) := by decide +kernel
theorem dX4_sortAt_32 : decode cX4_sortAt 32 = .ok (.iconst 2, 1) := by decide +kernel
theorem dX4_sortAt_33 : decode cX4_sortAt 33 = .ok (.goto 4, 3) := by decide +kernel
theorem dX4_sortAt_36 : decode cX4_sortAt 36 = .ok (.iconst 3, 1) := by decide +kernel
theorem dX4_sortAt_37 : decode cX4_sortAt 37 = .ok (.ireturn, 1) := by decide +kernel
theorem dX4_byteAt_0 : decode cX4_byteAt 0 = .ok (.iload_n 1, 1) := by decide +kernel
theorem dX4_byteAt_1 : decode cX4_byteAt 1 = .ok (.ifCond .lt 27, 3) := by decide +kernel
theorem dX4_byteAt_4 : decode cX4_byteAt 4 = .ok (.iload_n 1, 1) := by decide +kernel
theorem dX4_byteAt_5 : decode cX4_byteAt 5 = .ok (.aload_n 0, 1) := by decide +kernel
theorem dX4_byteAt_6 : decode cX4_byteAt 6 = .ok (.getfield 28, 3) := by decide +kernel
theorem dX4_byteAt_9 : decode cX4_byteAt 9 = .ok (.if_icmp .ge 19, 3) := by decide +kernel
theorem dX4_byteAt_12 : decode cX4_byteAt 12 = .ok (.iload_n 1, 1) := by decide +kernel
theorem dX4_byteAt_13 : decode cX4_byteAt 13 = .ok (.sipush 200, 3) := by decide +kernel
theorem dX4_byteAt_16 : decode cX4_byteAt 16 = .ok (.if_icmp .ge 12, 3) := by decide +kernel
theorem dX4_byteAt_19 : decode cX4_byteAt 19 = .ok (.aload_n 0, 1) := by decide +kernel
theorem dX4_byteAt_20 : decode cX4_byteAt 20 = .ok (.getfield 9, 3) := by decide +kernel
theorem dX4_byteAt_23 : decode cX4_byteAt 23 = .ok (.iload_n 1, 1) := by decide +kernel
theorem dX4_byteAt_24 : decode cX4_byteAt 24 = .ok (.iaload, 1) := by decide +kernel
theorem dX4_byteAt_25 : decode cX4_byteAt 25 = .ok (.goto 4, 3) := by decide +kernel
theorem dX4_byteAt_28 : decode cX4_byteAt 28 = .ok (.iconst (-1), 1) := by decide +kernel
theorem dX4_byteAt_29 : decode cX4_byteAt 29 = .ok (.ireturn, 1) := by decide +kernel
theorem dX5_init_0 : decode cX5_init 0 = .ok (.aload_n 0, 1) := by decide +kernel
theorem dX5_init_1 : decode cX5_init 1 = .ok (.invokespecial 3, 3) := by decide +kernel
theorem dX5_init_4 : decode cX5_init 4 = .ok (.aload_n 0, 1) := by decide +kernel
theorem dX5_init_5 : decode cX5_init 5 = .ok (.bipush 108, 2) := by decide +kernel
theorem dX5_init_7 : decode cX5_init 7 = .ok (.newarray .int, 2) := by decide +kernel
theorem dX5_init_9 : decode cX5_init 9 = .ok (.putfield 11, 3) := by decide +kernel
theorem dX5_init_12 : decode cX5_init 12 = .ok (.return_, 1) := by decide +kernel
theorem dX5_write_0 : decode cX5_write 0 = .ok (.aload_n 0, 1) := by decide +kernel
theorem dX5_write_1 : decode cX5_write 1 = .ok (.iconst 0, 1) := by decide +kernel
theorem dX5_write_2 : decode cX5_write 2 = .ok (.putfield 15, 3) := by decide +kernel
theorem dX5_write_5 : decode cX5_write 5 = .ok (.iconst 0, 1) := by decide +kernel
theorem dX5_write_6 : decode cX5_write 6 = .ok (.istore 4, 2) := by decide +kernel
theorem dX5_write_8 : decode cX5_write 8 = .ok (.iload 4, 2) := by decide +kernel
theorem dX5_write_10 : decode cX5_write 10 = .ok (.aload_n 1, 1) := by decide +kernel
theorem dX5_write_11 : decode cX5_write 11 = .ok (.getfield 19, 3) := by decide +kernel
theorem dX5_write_14 : decode cX5_write 14 = .ok (.if_icmp .ge 85, 3) := by decide +kernel
theorem dX5_write_17 : decode cX5_write 17 = .ok (.iload 4, 2) := by decide +kernel
theorem dX5_write_19 : decode cX5_write 19 = .ok (.iconst 1, 1) := by decide +kernel
theorem dX5_write_20 : decode cX5_write 20 = .ok (.iadd, 1) := by decide +kernel
theorem dX5_write_21 : decode cX5_write 21 = .ok (.istore 5, 2) := by decide +kernel
theorem dX5_write_23 : decode cX5_write 23 = .ok (.iload 5, 2) := by decide +kernel
theorem dX5_write_25 : decode cX5_write 25 = .ok (.aload_n 1, 1) := by decide +kernel
theorem dX5_write_26 : decode cX5_write 26 = .ok (.getfield 19, 3) := by decide +kernel
theorem dX5_write_29 : decode cX5_write 29 = .ok (.if_icmp .ge 64, 3) := by decide +kernel
theorem dX5_write_32 : decode cX5_write 32 = .ok (.iload_n 3, 1) := by decide +kernel
theorem dX5_write_33 : decode cX5_write 33 = .ok (.iload 4, 2) := by decide +kernel
theorem dX5_write_35 : decode cX5_write 35 = .ok (.ishr, 1) := by decide +kernel
theorem dX5_write_36 : decode cX5_write 36 = .ok (.iconst 1, 1) := by decide +kernel
theorem dX5_write_37 : decode cX5_write 37 = .ok (.iand, 1) := by decide +kernel
theorem dX5_write_38 : decode cX5_write 38 = .ok (.ifCond .eq 16, 3) := by decide +kernel
theorem dX5_write_41 : decode cX5_write 41 = .ok (.iload_n 3, 1) := by decide +kernel
theorem dX5_write_42 : decode cX5_write 42 = .ok (.iload 5, 2) := by decide +kernel
theorem dX5_write_44 : decode cX5_write 44 = .ok (.ishr, 1) := by decide +kernel
theorem dX5_write_45 : decode cX5_write 45 = .ok (.iconst 1, 1) := by decide +kernel
theorem dX5_write_46 : decode cX5_write 46 = .ok (.iand, 1) := by decide +kernel
theorem dX5_write_47 : decode cX5_write 47 = .ok (.ifCond .eq 7, 3) := by decide +kernel
theorem dX5_write_50 : decode cX5_write 50 = .ok (.iconst 1, 1) := by decide +kernel
theorem dX5_write_51 : decode cX5_write 51 = .ok (.goto 4, 3) := by decide +kernel
theorem dX5_write_54 : decode cX5_write 54 = .ok (.iconst 0, 1) := by decide +kernel
theorem dX5_write_55 : decode cX5_write 55 = .ok (.istore 6, 2) := by decide +kernel
theorem dX5_write_57 : decode cX5_write 57 = .ok (.aload_n 2, 1) := by decide +kernel
theorem dX5_write_58 : decode cX5_write 58 = .ok (.iload 4, 2) := by decide +kernel
theorem dX5_write_60 : decode cX5_write 60 = .ok (.iload 5, 2) := by decide +kernel
theorem dX5_write_62 : decode cX5_write 62 = .ok (.invokevirtual 24, 3) := by decide +kernel
theorem dX5_write_65 : decode cX5_write 65 = .ok (.istore 7, 2) := by decide +kernel
theorem dX5_write_67 : decode cX5_write 67 = .ok (.iload 6, 2) := by decide +kernel
theorem dX5_write_69 : decode cX5_write 69 = .ok (.ifCond .eq 18, 3) := by decide +kernel
theorem dX5_write_72 : decode cX5_write 72 = .ok (.iload 7, 2) := by decide +kernel
theorem dX5_write_74 : decode cX5_write 74 = .ok (.ifCond .le 13, 3) := by decide +kernel
theorem dX5_write_77 : decode cX5_write 77 = .ok (.aload_n 0, 1) := by decide +kernel
theorem dX5_write_78 : decode cX5_write 78 = .ok (.iload 4, 2) := by decide +kernel
theorem dX5_write_80 : decode cX5_write 80 = .ok (.iload 5, 2) := by decide +kernel
theorem dX5_write_82 : decode cX5_write 82 = .ok (.iload 7, 2) := by decide +kernel
theorem dX5_write_84 : decode cX5_write 84 = .ok (.invokevirtual 30, 3) := by decide +kernel
theorem dX5_write_87 : decode cX5_write 87 = .ok (.iinc 5 1, 3) := by decide +kernel
theorem dX5_write_90 : decode cX5_write 90 = .ok (.goto (-67), 3) := by decide +kernel
theorem dX5_write_93 : decode cX5_write 93 = .ok (.iinc 4 1, 3) := by decide +kernel
theorem dX5_write_96 : decode cX5_write 96 = .ok (.goto (-88), 3) := by decide +kernel
theorem dX5_write_99 : decode cX5_write 99 = .ok (.return_, 1) := by decide +kernel
theorem dX5_append_0 : decode cX5_append 0 = .ok (.aload_n 0, 1) := by decide +kernel
theorem dX5_append_1 : decode cX5_append 1 = .ok (.getfield 15, 3) := by decide +kernel
theorem dX5_append_4 : decode cX5_append 4 = .ok (.bipush 36, 2) := by decide +kernel
theorem dX5_append_6 : decode cX5_append 6 = .ok (.if_icmp .lt 4, 3) := by decide +kernel
theorem dX5_append_9 : decode cX5_append 9 = .ok (.return_, 1) := by decide +kernel
theorem dX5_append_10 : decode cX5_append 10 = .ok (.aload_n 0, 1) := by decide +kernel
theorem dX5_append_11 : decode cX5_append 11 = .ok (.getfield 11, 3) := by decide +kernel
theorem dX5_append_14 : decode cX5_append 14 = .ok (.aload_n 0, 1) := by decide +kernel
theorem dX5_append_15 : decode cX5_append 15 = .ok (.getfield 15, 3) := by decide +kernel
theorem dX5_append_18 : decode cX5_append 18 = .ok (.iconst 3, 1) := by decide +kernel
theorem dX5_append_19 : decode cX5_append 19 = .ok (.imul, 1) := by decide +kernel
theorem dX5_append_20 : decode cX5_append 20 = .ok (.iload_n 1, 1) := by decide +kernel
theorem dX5_append_21 : decode cX5_append 21 = .ok (.iastore, 1) := by decide +kernel
theorem dX5_append_22 : decode cX5_append 22 = .ok (.aload_n 0, 1) := by decide +kernel
theorem dX5_append_23 : decode cX5_append 23 = .ok (.getfield 11, 3) := by decide +kernel
theorem dX5_append_26 : decode cX5_append 26 = .ok (.aload_n 0, 1) := by decide +kernel
theorem dX5_append_27 : decode cX5_append 27 = .ok (.getfield 15, 3) := by decide +kernel
theorem dX5_append_30 : decode cX5_append 30 = .ok (.iconst 3, 1) := by decide +kernel
theorem dX5_append_31 : decode cX5_append 31 = .ok (.imul, 1) := by decide +kernel
theorem dX5_append_32 : decode cX5_append 32 = .ok (.iconst 1, 1) := by decide +kernel
theorem dX5_append_33 : decode cX5_append 33 = .ok (.iadd, 1) := by decide +kernel
theorem dX5_append_34 : decode cX5_append 34 = .ok (.iload_n 2, 1) := by decide +kernel
theorem dX5_append_35 : decode cX5_append 35 = .ok (.iastore, 1) := by decide +kernel
theorem dX5_append_36 : decode cX5_append 36 = .ok (.aload_n 0, 1) := by decide +kernel
theorem dX5_append_37 : decode cX5_append 37 = .ok (.getfield 11, 3) := by decide +kernel
theorem dX5_append_40 : decode cX5_append 40 = .ok (.aload_n 0, 1) := by decide +kernel
theorem dX5_append_41 : decode cX5_append 41 = .ok (.getfield 15, 3) := by decide +kernel
theorem dX5_append_44 : decode cX5_append 44 = .ok (.iconst 3, 1) := by decide +kernel
theorem dX5_append_45 : decode cX5_append 45 = .ok (.imul, 1) := by decide +kernel
theorem dX5_append_46 : decode cX5_append 46 = .ok (.iconst 2, 1) := by decide +kernel
theorem dX5_append_47 : decode cX5_append 47 = .ok (.iadd, 1) := by decide +kernel
theorem dX5_append_48 : decode cX5_append 48 = .ok (.iload_n 3, 1) := by decide +kernel
theorem dX5_append_49 : decode cX5_append 49 = .ok (.iastore, 1) := by decide +kernel
theorem dX5_append_50 : decode cX5_append 50 = .ok (.aload_n 0, 1) := by decide +kernel
theorem dX5_append_51 : decode cX5_append 51 = .ok (.dup, 1) := by decide +kernel
theorem dX5_append_52 : decode cX5_append 52 = .ok (.getfield 15, 3) := by decide +kernel
theorem dX5_append_55 : decode cX5_append 55 = .ok (.iconst 1, 1) := by decide +kernel
theorem dX5_append_56 : decode cX5_append 56 = .ok (.iadd, 1) := by decide +kernel
theorem dX5_append_57 : decode cX5_append 57 = .ok (.putfield 15, 3) := by decide +kernel
theorem dX5_append_60 : decode cX5_append 60 = .ok (.return_, 1) := by decide +kernel
theorem dX5_holds_0 : decode cX5_holds 0 = .ok (.iload_n 1, 1) := by decide +kernel
theorem dX5_holds_1 : decode cX5_holds 1 = .ok (.ifCond .lt 24, 3) := by decide +kernel
theorem dX5_holds_4 : decode cX5_holds 4 = .ok (.iload_n 1, 1) := by decide +kernel
theorem dX5_holds_5 : decode cX5_holds 5 = .ok (.aload_n 0, 1) := by decide +kernel
theorem dX5_holds_6 : decode cX5_holds 6 = .ok (.getfield 15, 3) := by decide +kernel
theorem dX5_holds_9 : decode cX5_holds 9 = .ok (.if_icmp .ge 16, 3) := by decide +kernel
theorem dX5_holds_12 : decode cX5_holds 12 = .ok (.iload_n 2, 1) := by decide +kernel
theorem dX5_holds_13 : decode cX5_holds 13 = .ok (.ifCond .lt 12, 3) := by decide +kernel
theorem dX5_holds_16 : decode cX5_holds 16 = .ok (.iload_n 2, 1) := by decide +kernel
theorem dX5_holds_17 : decode cX5_holds 17 = .ok (.iconst 3, 1) := by decide +kernel
theorem dX5_holds_18 : decode cX5_holds 18 = .ok (.if_icmp .ge 7, 3) := by decide +kernel
theorem dX5_holds_21 : decode cX5_holds 21 = .ok (.iconst 1, 1) := by decide +kernel
theorem dX5_holds_22 : decode cX5_holds 22 = .ok (.goto 4, 3) := by decide +kernel
theorem dX5_holds_25 : decode cX5_holds 25 = .ok (.iconst 0, 1) := by decide +kernel
theorem dX5_holds_26 : decode cX5_holds 26 = .ok (.ireturn, 1) := by decide +kernel
theorem dX5_entry_0 : decode cX5_entry 0 = .ok (.aload_n 0, 1) := by decide +kernel
theorem dX5_entry_1 : decode cX5_entry 1 = .ok (.iload_n 1, 1) := by decide +kernel
theorem dX5_entry_2 : decode cX5_entry 2 = .ok (.iload_n 2, 1) := by decide +kernel
theorem dX5_entry_3 : decode cX5_entry 3 = .ok (.invokevirtual 34, 3) := by decide +kernel
theorem dX5_entry_6 : decode cX5_entry 6 = .ok (.ifCond .eq 16, 3) := by decide +kernel
theorem dX5_entry_9 : decode cX5_entry 9 = .ok (.aload_n 0, 1) := by decide +kernel
theorem dX5_entry_10 : decode cX5_entry 10 = .ok (.getfield 11, 3) := by decide +kernel
theorem dX5_entry_13 : decode cX5_entry 13 = .ok (.iload_n 1, 1) := by decide +kernel
theorem dX5_entry_14 : decode cX5_entry 14 = .ok (.iconst 3, 1) := by decide +kernel
theorem dX5_entry_15 : decode cX5_entry 15 = .ok (.imul, 1) := by decide +kernel
theorem dX5_entry_16 : decode cX5_entry 16 = .ok (.iload_n 2, 1) := by decide +kernel
theorem dX5_entry_17 : decode cX5_entry 17 = .ok (.iadd, 1) := by decide +kernel
theorem dX5_entry_18 : decode cX5_entry 18 = .ok (.iaload, 1) := by decide +kernel
theorem dX5_entry_19 : decode cX5_entry 19 = .ok (.goto 5, 3) := by decide +kernel
theorem dX5_entry_22 : decode cX5_entry 22 = .ok (.bipush (-9), 2) := by decide +kernel
theorem dX5_entry_24 : decode cX5_entry 24 = .ok (.ireturn, 1) := by decide +kernel
theorem dX5_hasSame_0 : decode cX5_hasSame 0 = .ok (.iload_n 2, 1) := by decide +kernel
theorem dX5_hasSame_1 : decode cX5_hasSame 1 = .ok (.ifCond .lt 19, 3) := by decide +kernel
theorem dX5_hasSame_4 : decode cX5_hasSame 4 = .ok (.iload_n 2, 1) := by decide +kernel
theorem dX5_hasSame_5 : decode cX5_hasSame 5 = .ok (.aload_n 0, 1) := by decide +kernel
theorem dX5_hasSame_6 : decode cX5_hasSame 6 = .ok (.getfield 15, 3) := by decide +kernel
theorem dX5_hasSame_9 : decode cX5_hasSame 9 = .ok (.if_icmp .ge 11, 3) := by decide +kernel
theorem dX5_hasSame_12 : decode cX5_hasSame 12 = .ok (.iload_n 2, 1) := by decide +kernel
theorem dX5_hasSame_13 : decode cX5_hasSame 13 = .ok (.aload_n 1, 1) := by decide +kernel
theorem dX5_hasSame_14 : decode cX5_hasSame 14 = .ok (.getfield 15, 3) := by decide +kernel
theorem dX5_hasSame_17 : decode cX5_hasSame 17 = .ok (.if_icmp .lt 5, 3) := by decide +kernel
theorem dX5_hasSame_20 : decode cX5_hasSame 20 = .ok (.iconst 0, 1) := by decide +kernel
theorem dX5_hasSame_21 : decode cX5_hasSame 21 = .ok (.ireturn, 1) := by decide +kernel
theorem dX5_hasSame_22 : decode cX5_hasSame 22 = .ok (.iconst 0, 1) := by decide +kernel
theorem dX5_hasSame_23 : decode cX5_hasSame 23 = .ok (.istore_n 3, 1) := by decide +kernel
theorem dX5_hasSame_24 : decode cX5_hasSame 24 = .ok (.iload_n 3, 1) := by decide +kernel
theorem dX5_hasSame_25 : decode cX5_hasSame 25 = .ok (.iconst 3, 1) := by decide +kernel
theorem dX5_hasSame_26 : decode cX5_hasSame 26 = .ok (.if_icmp .ge 26, 3) := by decide +kernel
theorem dX5_hasSame_29 : decode cX5_hasSame 29 = .ok (.aload_n 0, 1) := by decide +kernel
theorem dX5_hasSame_30 : decode cX5_hasSame 30 = .ok (.iload_n 2, 1) := by decide +kernel
theorem dX5_hasSame_31 : decode cX5_hasSame 31 = .ok (.iload_n 3, 1) := by decide +kernel
theorem dX5_hasSame_32 : decode cX5_hasSame 32 = .ok (.invokevirtual 38, 3) := by decide +kernel
theorem dX5_hasSame_35 : decode cX5_hasSame 35 = .ok (.aload_n 1, 1) := by decide +kernel
theorem dX5_hasSame_36 : decode cX5_hasSame 36 = .ok (.iload_n 2, 1) := by decide +kernel
theorem dX5_hasSame_37 : decode cX5_hasSame 37 = .ok (.iload_n 3, 1) := by decide +kernel
theorem dX5_hasSame_38 : decode cX5_hasSame 38 = .ok (.invokevirtual 38, 3) := by decide +kernel
theorem dX5_hasSame_41 : decode cX5_hasSame 41 = .ok (.if_icmp .eq 5, 3) := by decide +kernel
theorem dX5_hasSame_44 : decode cX5_hasSame 44 = .ok (.iconst 0, 1) := by decide +kernel
theorem dX5_hasSame_45 : decode cX5_hasSame 45 = .ok (.ireturn, 1) := by decide +kernel
theorem dX5_hasSame_46 : decode cX5_hasSame 46 = .ok (.iinc 3 1, 3) := by decide +kernel
theorem dX5_hasSame_49 : decode cX5_hasSame 49 = .ok (.goto (-25), 3) := by decide +kernel
theorem dX5_hasSame_52 : decode cX5_hasSame 52 = .ok (.iconst 1, 1) := by decide +kernel
theorem dX5_hasSame_53 : decode cX5_hasSame 53 = .ok (.ireturn, 1) := by decide +kernel
theorem dX6_init_0 : decode cX6_init 0 = .ok (.aload_n 0, 1) := by decide +kernel
theorem dX6_init_1 : decode cX6_init 1 = .ok (.invokespecial 3, 3) := by decide +kernel
theorem dX6_init_4 : decode cX6_init 4 = .ok (.aload_n 0, 1) := by decide +kernel
theorem dX6_init_5 : decode cX6_init 5 = .ok (.sipush 210, 3) := by decide +kernel
theorem dX6_init_8 : decode cX6_init 8 = .ok (.newarray .int, 2) := by decide +kernel
theorem dX6_init_10 : decode cX6_init 10 = .ok (.putfield 9, 3) := by decide +kernel
theorem dX6_init_13 : decode cX6_init 13 = .ok (.aload_n 0, 1) := by decide +kernel
theorem dX6_init_14 : decode cX6_init 14 = .ok (.sipush 210, 3) := by decide +kernel
theorem dX6_init_17 : decode cX6_init 17 = .ok (.newarray .int, 2) := by decide +kernel
theorem dX6_init_19 : decode cX6_init 19 = .ok (.putfield 15, 3) := by decide +kernel
theorem dX6_init_22 : decode cX6_init 22 = .ok (.return_, 1) := by decide +kernel
theorem dX6_copyFrom_0 : decode cX6_copyFrom 0 = .ok (.aload_n 0, 1) := by decide +kernel
theorem dX6_copyFrom_1 : decode cX6_copyFrom 1 = .ok (.aload_n 1, 1) := by decide +kernel
theorem dX6_copyFrom_2 : decode cX6_copyFrom 2 = .ok (.getfield 18, 3) := by decide +kernel
theorem dX6_copyFrom_5 : decode cX6_copyFrom 5 = .ok (.putfield 18, 3) := by decide +kernel
theorem dX6_copyFrom_8 : decode cX6_copyFrom 8 = .ok (.aload_n 0, 1) := by decide +kernel
theorem dX6_copyFrom_9 : decode cX6_copyFrom 9 = .ok (.aload_n 1, 1) := by decide +kernel
theorem dX6_copyFrom_10 : decode cX6_copyFrom 10 = .ok (.getfield 22, 3) := by decide +kernel
theorem dX6_copyFrom_13 : decode cX6_copyFrom 13 = .ok (.putfield 22, 3) := by decide +kernel
theorem dX6_copyFrom_16 : decode cX6_copyFrom 16 = .ok (.iconst 0, 1) := by decide +kernel
theorem dX6_copyFrom_17 : decode cX6_copyFrom 17 = .ok (.istore_n 2, 1) := by decide +kernel
theorem dX6_copyFrom_18 : decode cX6_copyFrom 18 = .ok (.iload_n 2, 1) := by decide +kernel
theorem dX6_copyFrom_19 : decode cX6_copyFrom 19 = .ok (.aload_n 0, 1) := by decide +kernel
theorem dX6_copyFrom_20 : decode cX6_copyFrom 20 = .ok (.getfield 18, 3) := by decide +kernel
theorem dX6_copyFrom_23 : decode cX6_copyFrom 23 = .ok (.if_icmp .ge 28, 3) := by decide +kernel
theorem dX6_copyFrom_26 : decode cX6_copyFrom 26 = .ok (.iload_n 2, 1) := by decide +kernel
theorem dX6_copyFrom_27 : decode cX6_copyFrom 27 = .ok (.sipush 210, 3) := by decide +kernel
theorem dX6_copyFrom_30 : decode cX6_copyFrom 30 = .ok (.if_icmp .ge 21, 3) := by decide +kernel
theorem dX6_copyFrom_33 : decode cX6_copyFrom 33 = .ok (.aload_n 0, 1) := by decide +kernel
theorem dX6_copyFrom_34 : decode cX6_copyFrom 34 = .ok (.getfield 9, 3) := by decide +kernel
theorem dX6_copyFrom_37 : decode cX6_copyFrom 37 = .ok (.iload_n 2, 1) := by decide +kernel
theorem dX6_copyFrom_38 : decode cX6_copyFrom 38 = .ok (.aload_n 1, 1) := by decide +kernel
theorem dX6_copyFrom_39 : decode cX6_copyFrom 39 = .ok (.getfield 9, 3) := by decide +kernel
theorem dX6_copyFrom_42 : decode cX6_copyFrom 42 = .ok (.iload_n 2, 1) := by decide +kernel
theorem dX6_copyFrom_43 : decode cX6_copyFrom 43 = .ok (.iaload, 1) := by decide +kernel
theorem dX6_copyFrom_44 : decode cX6_copyFrom 44 = .ok (.iastore, 1) := by decide +kernel
theorem dX6_copyFrom_45 : decode cX6_copyFrom 45 = .ok (.iinc 2 1, 3) := by decide +kernel
theorem dX6_copyFrom_48 : decode cX6_copyFrom 48 = .ok (.goto (-30), 3) := by decide +kernel
theorem dX6_copyFrom_51 : decode cX6_copyFrom 51 = .ok (.return_, 1) := by decide +kernel
theorem dX6_emit_0 : decode cX6_emit 0 = .ok (.aload_n 0, 1) := by decide +kernel
theorem dX6_emit_1 : decode cX6_emit 1 = .ok (.getfield 18, 3) := by decide +kernel
theorem dX6_emit_4 : decode cX6_emit 4 = .ok (.sipush 210, 3) := by decide +kernel
theorem dX6_emit_7 : decode cX6_emit 7 = .ok (.if_icmp .ge 20, 3) := by decide +kernel
theorem dX6_emit_10 : decode cX6_emit 10 = .ok (.aload_n 0, 1) := by decide +kernel
theorem dX6_emit_11 : decode cX6_emit 11 = .ok (.getfield 9, 3) := by decide +kernel
theorem dX6_emit_14 : decode cX6_emit 14 = .ok (.aload_n 0, 1) := by decide +kernel
theorem dX6_emit_15 : decode cX6_emit 15 = .ok (.dup, 1) := by decide +kernel
theorem dX6_emit_16 : decode cX6_emit 16 = .ok (.getfield 18, 3) := by decide +kernel
theorem dX6_emit_19 : decode cX6_emit 19 = .ok (.dup_x1, 1) := by decide +kernel
theorem dX6_emit_20 : decode cX6_emit 20 = .ok (.iconst 1, 1) := by decide +kernel
theorem dX6_emit_21 : decode cX6_emit 21 = .ok (.iadd, 1) := by decide +kernel
theorem dX6_emit_22 : decode cX6_emit 22 = .ok (.putfield 18, 3) := by decide +kernel
theorem dX6_emit_25 : decode cX6_emit 25 = .ok (.iload_n 1, 1) := by decide +kernel
theorem dX6_emit_26 : decode cX6_emit 26 = .ok (.iastore, 1) := by decide +kernel
theorem dX6_emit_27 : decode cX6_emit 27 = .ok (.return_, 1) := by decide +kernel
theorem dX6_ask_0 : decode cX6_ask 0 = .ok (.aload_n 0, 1) := by decide +kernel
theorem dX6_ask_1 : decode cX6_ask 1 = .ok (.iconst 0, 1) := by decide +kernel
theorem dX6_ask_2 : decode cX6_ask 2 = .ok (.putfield 25, 3) := by decide +kernel
theorem dX6_ask_5 : decode cX6_ask 5 = .ok (.aload_n 0, 1) := by decide +kernel
theorem dX6_ask_6 : decode cX6_ask 6 = .ok (.iconst 0, 1) := by decide +kernel
theorem dX6_ask_7 : decode cX6_ask 7 = .ok (.putfield 28, 3) := by decide +kernel
theorem dX6_ask_10 : decode cX6_ask 10 = .ok (.iconst 0, 1) := by decide +kernel
theorem dX6_ask_11 : decode cX6_ask 11 = .ok (.istore_n 2, 1) := by decide +kernel
theorem dX6_ask_12 : decode cX6_ask 12 = .ok (.iload_n 2, 1) := by decide +kernel
theorem dX6_ask_13 : decode cX6_ask 13 = .ok (.aload_n 0, 1) := by decide +kernel
theorem dX6_ask_14 : decode cX6_ask 14 = .ok (.getfield 18, 3) := by decide +kernel
theorem dX6_ask_17 : decode cX6_ask 17 = .ok (.if_icmp .ge 27, 3) := by decide +kernel
theorem dX6_ask_20 : decode cX6_ask 20 = .ok (.iload_n 2, 1) := by decide +kernel
theorem dX6_ask_21 : decode cX6_ask 21 = .ok (.sipush 210, 3) := by decide +kernel
theorem dX6_ask_24 : decode cX6_ask 24 = .ok (.if_icmp .ge 20, 3) := by decide +kernel
theorem dX6_ask_27 : decode cX6_ask 27 = .ok (.aload_n 0, 1) := by decide +kernel
theorem dX6_ask_28 : decode cX6_ask 28 = .ok (.aload_n 0, 1) := by decide +kernel
theorem dX6_ask_29 : decode cX6_ask 29 = .ok (.getfield 9, 3) := by decide +kernel
theorem dX6_ask_32 : decode cX6_ask 32 = .ok (.iload_n 2, 1) := by decide +kernel
theorem dX6_ask_33 : decode cX6_ask 33 = .ok (.iaload, 1) := by decide +kernel
theorem dX6_ask_34 : decode cX6_ask 34 = .ok (.aload_n 1, 1) := by decide +kernel
theorem dX6_ask_35 : decode cX6_ask 35 = .ok (.invokevirtual 32, 3) := by decide +kernel
theorem dX6_ask_38 : decode cX6_ask 38 = .ok (.iinc 2 1, 3) := by decide +kernel
theorem dX6_ask_41 : decode cX6_ask 41 = .ok (.goto (-29), 3) := by decide +kernel
theorem dX6_ask_44 : decode cX6_ask 44 = .ok (.aload_n 0, 1) := by decide +kernel
theorem dX6_ask_45 : decode cX6_ask 45 = .ok (.getfield 28, 3) := by decide +kernel
theorem dX6_ask_48 : decode cX6_ask 48 = .ok (.ireturn, 1) := by decide +kernel
theorem dX6_obey_0 : decode cX6_obey 0 = .ok (.iload_n 1, 1) := by decide +kernel
theorem dX6_obey_1 : decode cX6_obey 1 = .ok (.sipush 1000, 3) := by decide +kernel
theorem dX6_obey_4 : decode cX6_obey 4 = .ok (.if_icmp .ge 11, 3) := by decide +kernel
theorem dX6_obey_7 : decode cX6_obey 7 = .ok (.aload_n 0, 1) := by decide +kernel
theorem dX6_obey_8 : decode cX6_obey 8 = .ok (.iload_n 1, 1) := by decide +kernel
theorem dX6_obey_9 : decode cX6_obey 9 = .ok (.invokevirtual 36, 3) := by decide +kernel
theorem dX6_obey_12 : decode cX6_obey 12 = .ok (.goto 176, 3) := by decide +kernel
theorem dX6_obey_15 : decode cX6_obey 15 = .ok (.iload_n 1, 1) := by decide +kernel
theorem dX6_obey_16 : decode cX6_obey 16 = .ok (.sipush 2000, 3) := by decide +kernel
theorem dX6_obey_19 : decode cX6_obey 19 = .ok (.if_icmp .ge 31, 3) := by decide +kernel
theorem dX6_obey_22 : decode cX6_obey 22 = .ok (.aload_n 0, 1) := by decide +kernel
theorem dX6_obey_23 : decode cX6_obey 23 = .ok (.iload_n 1, 1) := by decide +kernel
theorem dX6_obey_24 : decode cX6_obey 24 = .ok (.sipush 1000, 3) := by decide +kernel
theorem dX6_obey_27 : decode cX6_obey 27 = .ok (.isub, 1) := by decide +kernel
theorem dX6_obey_28 : decode cX6_obey 28 = .ok (.bipush 6, 2) := by decide +kernel
theorem dX6_obey_30 : decode cX6_obey 30 = .ok (.if_icmp .ge 13, 3) := by decide +kernel
theorem dX6_obey_33 : decode cX6_obey 33 = .ok (.aload_n 2, 1) := by decide +kernel
theorem dX6_obey_34 : decode cX6_obey 34 = .ok (.iload_n 1, 1) := by decide +kernel
theorem dX6_obey_35 : decode cX6_obey 35 = .ok (.sipush 1000, 3) := by decide +kernel
theorem dX6_obey_38 : decode cX6_obey 38 = .ok (.isub, 1) := by decide +kernel
theorem dX6_obey_39 : decode cX6_obey 39 = .ok (.iaload, 1) := by decide +kernel
theorem dX6_obey_40 : decode cX6_obey 40 = .ok (.goto 4, 3) := by decide +kernel
theorem dX6_obey_43 : decode cX6_obey 43 = .ok (.iconst 0, 1) := by decide +kernel
theorem dX6_obey_44 : decode cX6_obey 44 = .ok (.invokevirtual 36, 3) := by decide +kernel
theorem dX6_obey_47 : decode cX6_obey 47 = .ok (.goto 141, 3) := by decide +kernel
theorem dX6_obey_50 : decode cX6_obey 50 = .ok (.iload_n 1, 1) := by decide +kernel
theorem dX6_obey_51 : decode cX6_obey 51 = .ok (.sipush 2003, 3) := by decide +kernel
theorem dX6_obey_54 : decode cX6_obey 54 = .ok (.if_icmp .ge 11, 3) := by decide +kernel
theorem dX6_obey_57 : decode cX6_obey 57 = .ok (.aload_n 0, 1) := by decide +kernel
theorem dX6_obey_58 : decode cX6_obey 58 = .ok (.iload_n 1, 1) := by decide +kernel
theorem dX6_obey_59 : decode cX6_obey 59 = .ok (.invokevirtual 40, 3) := by decide +kernel
theorem dX6_obey_62 : decode cX6_obey 62 = .ok (.goto 126, 3) := by decide +kernel
theorem dX6_obey_65 : decode cX6_obey 65 = .ok (.iload_n 1, 1) := by decide +kernel
theorem dX6_obey_66 : decode cX6_obey 66 = .ok (.sipush 2003, 3) := by decide +kernel
theorem dX6_obey_69 : decode cX6_obey 69 = .ok (.if_icmp .ne 16, 3) := by decide +kernel
theorem dX6_obey_72 : decode cX6_obey 72 = .ok (.aload_n 0, 1) := by decide +kernel
theorem dX6_obey_73 : decode cX6_obey 73 = .ok (.iconst 1, 1) := by decide +kernel
theorem dX6_obey_74 : decode cX6_obey 74 = .ok (.aload_n 0, 1) := by decide +kernel
theorem dX6_obey_75 : decode cX6_obey 75 = .ok (.invokevirtual 43, 3) := by decide +kernel
theorem dX6_obey_78 : decode cX6_obey 78 = .ok (.isub, 1) := by decide +kernel
theorem dX6_obey_79 : decode cX6_obey 79 = .ok (.invokevirtual 36, 3) := by decide +kernel
theorem dX6_obey_82 : decode cX6_obey 82 = .ok (.goto 106, 3) := by decide +kernel
theorem dX6_obey_85 : decode cX6_obey 85 = .ok (.iload_n 1, 1) := by decide +kernel
theorem dX6_obey_86 : decode cX6_obey 86 = .ok (.sipush 2004, 3) := by decide +kernel
theorem dX6_obey_89 : decode cX6_obey 89 = .ok (.if_icmp .ne 19, 3) := by decide +kernel
theorem dX6_obey_92 : decode cX6_obey 92 = .ok (.aload_n 0, 1) := by decide +kernel
theorem dX6_obey_93 : decode cX6_obey 93 = .ok (.aload_n 0, 1) := by decide +kernel
theorem dX6_obey_94 : decode cX6_obey 94 = .ok (.invokevirtual 43, 3) := by decide +kernel
theorem dX6_obey_97 : decode cX6_obey 97 = .ok (.aload_n 0, 1) := by decide +kernel
theorem dX6_obey_98 : decode cX6_obey 98 = .ok (.invokevirtual 43, 3) := by decide +kernel
theorem dX6_obey_101 : decode cX6_obey 101 = .ok (.iand, 1) := by decide +kernel
theorem dX6_obey_102 : decode cX6_obey 102 = .ok (.invokevirtual 36, 3) := by decide +kernel
theorem dX6_obey_105 : decode cX6_obey 105 = .ok (.goto 83, 3) := by decide +kernel
theorem dX6_obey_108 : decode cX6_obey 108 = .ok (.iload_n 1, 1) := by decide +kernel
theorem dX6_obey_109 : decode cX6_obey 109 = .ok (.sipush 2005, 3) := by decide +kernel
theorem dX6_obey_112 : decode cX6_obey 112 = .ok (.if_icmp .ne 19, 3) := by decide +kernel
theorem dX6_obey_115 : decode cX6_obey 115 = .ok (.aload_n 0, 1) := by decide +kernel
theorem dX6_obey_116 : decode cX6_obey 116 = .ok (.aload_n 0, 1) := by decide +kernel
theorem dX6_obey_117 : decode cX6_obey 117 = .ok (.invokevirtual 43, 3) := by decide +kernel
theorem dX6_obey_120 : decode cX6_obey 120 = .ok (.aload_n 0, 1) := by decide +kernel
theorem dX6_obey_121 : decode cX6_obey 121 = .ok (.invokevirtual 43, 3) := by decide +kernel
theorem dX6_obey_124 : decode cX6_obey 124 = .ok (.ior, 1) := by decide +kernel
theorem dX6_obey_125 : decode cX6_obey 125 = .ok (.invokevirtual 36, 3) := by decide +kernel
theorem dX6_obey_128 : decode cX6_obey 128 = .ok (.goto 60, 3) := by decide +kernel
theorem dX6_obey_131 : decode cX6_obey 131 = .ok (.iload_n 1, 1) := by decide +kernel
theorem dX6_obey_132 : decode cX6_obey 132 = .ok (.sipush 2010, 3) := by decide +kernel
theorem dX6_obey_135 : decode cX6_obey 135 = .ok (.if_icmp .eq 10, 3) := by decide +kernel
theorem dX6_obey_138 : decode cX6_obey 138 = .ok (.iload_n 1, 1) := by decide +kernel
theorem dX6_obey_139 : decode cX6_obey 139 = .ok (.sipush 2011, 3) := by decide +kernel
theorem dX6_obey_142 : decode cX6_obey 142 = .ok (.if_icmp .ne 22, 3) := by decide +kernel
theorem dX6_obey_145 : decode cX6_obey 145 = .ok (.aload_n 0, 1) := by decide +kernel
theorem dX6_obey_146 : decode cX6_obey 146 = .ok (.iload_n 1, 1) := by decide +kernel
theorem dX6_obey_147 : decode cX6_obey 147 = .ok (.sipush 2011, 3) := by decide +kernel
theorem dX6_obey_150 : decode cX6_obey 150 = .ok (.if_icmp .ne 7, 3) := by decide +kernel
theorem dX6_obey_153 : decode cX6_obey 153 = .ok (.iconst 1, 1) := by decide +kernel
theorem dX6_obey_154 : decode cX6_obey 154 = .ok (.goto 4, 3) := by decide +kernel
theorem dX6_obey_157 : decode cX6_obey 157 = .ok (.iconst 0, 1) := by decide +kernel
theorem dX6_obey_158 : decode cX6_obey 158 = .ok (.putfield 28, 3) := by decide +kernel
theorem dX6_obey_161 : decode cX6_obey 161 = .ok (.goto 27, 3) := by decide +kernel
theorem dX6_obey_164 : decode cX6_obey 164 = .ok (.aload_n 0, 1) := by decide +kernel
theorem dX6_obey_165 : decode cX6_obey 165 = .ok (.invokevirtual 43, 3) := by decide +kernel
theorem dX6_obey_168 : decode cX6_obey 168 = .ok (.iconst 1, 1) := by decide +kernel
theorem dX6_obey_169 : decode cX6_obey 169 = .ok (.if_icmp .ne 19, 3) := by decide +kernel
theorem dX6_obey_172 : decode cX6_obey 172 = .ok (.aload_n 0, 1) := by decide +kernel
theorem dX6_obey_173 : decode cX6_obey 173 = .ok (.iload_n 1, 1) := by decide +kernel
theorem dX6_obey_174 : decode cX6_obey 174 = .ok (.sipush 2013, 3) := by decide +kernel
theorem dX6_obey_177 : decode cX6_obey 177 = .ok (.if_icmp .ne 7, 3) := by decide +kernel
theorem dX6_obey_180 : decode cX6_obey 180 = .ok (.iconst 1, 1) := by decide +kernel
theorem dX6_obey_181 : decode cX6_obey 181 = .ok (.goto 4, 3) := by decide +kernel
theorem dX6_obey_184 : decode cX6_obey 184 = .ok (.iconst 0, 1) := by decide +kernel
theorem dX6_obey_185 : decode cX6_obey 185 = .ok (.putfield 28, 3) := by decide +kernel
theorem dX6_obey_188 : decode cX6_obey 188 = .ok (.return_, 1) := by decide +kernel
theorem dX6_compare_0 : decode cX6_compare 0 = .ok (.aload_n 0, 1) := by decide +kernel
theorem dX6_compare_1 : decode cX6_compare 1 = .ok (.invokevirtual 43, 3) := by decide +kernel
theorem dX6_compare_4 : decode cX6_compare 4 = .ok (.istore_n 2, 1) := by decide +kernel
theorem dX6_compare_5 : decode cX6_compare 5 = .ok (.aload_n 0, 1) := by decide +kernel
theorem dX6_compare_6 : decode cX6_compare 6 = .ok (.invokevirtual 43, 3) := by decide +kernel
theorem dX6_compare_9 : decode cX6_compare 9 = .ok (.istore_n 3, 1) := by decide +kernel
theorem dX6_compare_10 : decode cX6_compare 10 = .ok (.iload_n 1, 1) := by decide +kernel
theorem dX6_compare_11 : decode cX6_compare 11 = .ok (.sipush 2000, 3) := by decide +kernel
theorem dX6_compare_14 : decode cX6_compare 14 = .ok (.if_icmp .ne 16, 3) := by decide +kernel
theorem dX6_compare_17 : decode cX6_compare 17 = .ok (.iload_n 3, 1) := by decide +kernel
theorem dX6_compare_18 : decode cX6_compare 18 = .ok (.iload_n 2, 1) := by decide +kernel
theorem dX6_compare_19 : decode cX6_compare 19 = .ok (.if_icmp .ge 7, 3) := by decide +kernel
theorem dX6_compare_22 : decode cX6_compare 22 = .ok (.iconst 1, 1) := by decide +kernel
theorem dX6_compare_23 : decode cX6_compare 23 = .ok (.goto 37, 3) := by decide +kernel
theorem dX6_compare_26 : decode cX6_compare 26 = .ok (.iconst 0, 1) := by decide +kernel
theorem dX6_compare_27 : decode cX6_compare 27 = .ok (.goto 33, 3) := by decide +kernel
theorem dX6_compare_30 : decode cX6_compare 30 = .ok (.iload_n 1, 1) := by decide +kernel
theorem dX6_compare_31 : decode cX6_compare 31 = .ok (.sipush 2001, 3) := by decide +kernel
theorem dX6_compare_34 : decode cX6_compare 34 = .ok (.if_icmp .ne 16, 3) := by decide +kernel
theorem dX6_compare_37 : decode cX6_compare 37 = .ok (.iload_n 3, 1) := by decide +kernel
theorem dX6_compare_38 : decode cX6_compare 38 = .ok (.iload_n 2, 1) := by decide +kernel
theorem dX6_compare_39 : decode cX6_compare 39 = .ok (.if_icmp .ne 7, 3) := by decide +kernel
theorem dX6_compare_42 : decode cX6_compare 42 = .ok (.iconst 1, 1) := by decide +kernel
theorem dX6_compare_43 : decode cX6_compare 43 = .ok (.goto 17, 3) := by decide +kernel
theorem dX6_compare_46 : decode cX6_compare 46 = .ok (.iconst 0, 1) := by decide +kernel
theorem dX6_compare_47 : decode cX6_compare 47 = .ok (.goto 13, 3) := by decide +kernel
theorem dX6_compare_50 : decode cX6_compare 50 = .ok (.iload_n 3, 1) := by decide +kernel
theorem dX6_compare_51 : decode cX6_compare 51 = .ok (.iload_n 2, 1) := by decide +kernel
theorem dX6_compare_52 : decode cX6_compare 52 = .ok (.if_icmp .le 7, 3) := by decide +kernel
theorem dX6_compare_55 : decode cX6_compare 55 = .ok (.iconst 1, 1) := by decide +kernel
theorem dX6_compare_56 : decode cX6_compare 56 = .ok (.goto 4, 3) := by decide +kernel
theorem dX6_compare_59 : decode cX6_compare 59 = .ok (.iconst 0, 1) := by decide +kernel
theorem dX6_compare_60 : decode cX6_compare 60 = .ok (.istore 4, 2) := by decide +kernel
theorem dX6_compare_62 : decode cX6_compare 62 = .ok (.aload_n 0, 1) := by decide +kernel
theorem dX6_compare_63 : decode cX6_compare 63 = .ok (.iload 4, 2) := by decide +kernel
theorem dX6_compare_65 : decode cX6_compare 65 = .ok (.ifCond .eq 7, 3) := by decide +kernel
theorem dX6_compare_68 : decode cX6_compare 68 = .ok (.iconst 1, 1) := by decide +kernel
theorem dX6_compare_69 : decode cX6_compare 69 = .ok (.goto 4, 3) := by decide +kernel
theorem dX6_compare_72 : decode cX6_compare 72 = .ok (.iconst 0, 1) := by decide +kernel
theorem dX6_compare_73 : decode cX6_compare 73 = .ok (.invokevirtual 36, 3) := by decide +kernel
theorem dX6_compare_76 : decode cX6_compare 76 = .ok (.return_, 1) := by decide +kernel
theorem dX6_push_0 : decode cX6_push 0 = .ok (.aload_n 0, 1) := by decide +kernel
theorem dX6_push_1 : decode cX6_push 1 = .ok (.getfield 25, 3) := by decide +kernel
theorem dX6_push_4 : decode cX6_push 4 = .ok (.sipush 210, 3) := by decide +kernel
theorem dX6_push_7 : decode cX6_push 7 = .ok (.if_icmp .ge 20, 3) := by decide +kernel
theorem dX6_push_10 : decode cX6_push 10 = .ok (.aload_n 0, 1) := by decide +kernel
theorem dX6_push_11 : decode cX6_push 11 = .ok (.getfield 15, 3) := by decide +kernel
theorem dX6_push_14 : decode cX6_push 14 = .ok (.aload_n 0, 1) := by decide +kernel
theorem dX6_push_15 : decode cX6_push 15 = .ok (.dup, 1) := by decide +kernel
theorem dX6_push_16 : decode cX6_push 16 = .ok (.getfield 25, 3) := by decide +kernel
theorem dX6_push_19 : decode cX6_push 19 = .ok (.dup_x1, 1) := by decide +kernel
theorem dX6_push_20 : decode cX6_push 20 = .ok (.iconst 1, 1) := by decide +kernel
theorem dX6_push_21 : decode cX6_push 21 = .ok (.iadd, 1) := by decide +kernel
theorem dX6_push_22 : decode cX6_push 22 = .ok (.putfield 25, 3) := by decide +kernel
theorem dX6_push_25 : decode cX6_push 25 = .ok (.iload_n 1, 1) := by decide +kernel
theorem dX6_push_26 : decode cX6_push 26 = .ok (.iastore, 1) := by decide +kernel
theorem dX6_push_27 : decode cX6_push 27 = .ok (.return_, 1) := by decide +kernel
theorem dX6_pop_0 : decode cX6_pop 0 = .ok (.aload_n 0, 1) := by decide +kernel
theorem dX6_pop_1 : decode cX6_pop 1 = .ok (.getfield 25, 3) := by decide +kernel
theorem dX6_pop_4 : decode cX6_pop 4 = .ok (.ifCond .le 22, 3) := by decide +kernel
theorem dX6_pop_7 : decode cX6_pop 7 = .ok (.aload_n 0, 1) := by decide +kernel
theorem dX6_pop_8 : decode cX6_pop 8 = .ok (.getfield 15, 3) := by decide +kernel
theorem dX6_pop_11 : decode cX6_pop 11 = .ok (.aload_n 0, 1) := by decide +kernel
theorem dX6_pop_12 : decode cX6_pop 12 = .ok (.dup, 1) := by decide +kernel
theorem dX6_pop_13 : decode cX6_pop 13 = .ok (.getfield 25, 3) := by decide +kernel
theorem dX6_pop_16 : decode cX6_pop 16 = .ok (.iconst 1, 1) := by decide +kernel
theorem dX6_pop_17 : decode cX6_pop 17 = .ok (.isub, 1) := by decide +kernel
theorem dX6_pop_18 : decode cX6_pop 18 = .ok (.dup_x1, 1) := by decide +kernel
theorem dX6_pop_19 : decode cX6_pop 19 = .ok (.putfield 25, 3) := by decide +kernel
theorem dX6_pop_22 : decode cX6_pop 22 = .ok (.iaload, 1) := by decide +kernel
theorem dX6_pop_23 : decode cX6_pop 23 = .ok (.goto 4, 3) := by decide +kernel
theorem dX6_pop_26 : decode cX6_pop 26 = .ok (.iconst 0, 1) := by decide +kernel
theorem dX6_pop_27 : decode cX6_pop 27 = .ok (.ireturn, 1) := by decide +kernel
theorem dX7_init_0 : decode cX7_init 0 = .ok (.aload_n 0, 1) := by decide +kernel
theorem dX7_init_1 : decode cX7_init 1 = .ok (.invokespecial 3, 3) := by decide +kernel
theorem dX7_init_4 : decode cX7_init 4 = .ok (.aload_n 0, 1) := by decide +kernel
theorem dX7_init_5 : decode cX7_init 5 = .ok (.bipush 81, 2) := by decide +kernel
theorem dX7_init_7 : decode cX7_init 7 = .ok (.newarray .int, 2) := by decide +kernel
theorem dX7_init_9 : decode cX7_init 9 = .ok (.putfield 9, 3) := by decide +kernel
theorem dX7_init_12 : decode cX7_init 12 = .ok (.aload_n 0, 1) := by decide +kernel
theorem dX7_init_13 : decode cX7_init 13 = .ok (.sipush 512, 3) := by decide +kernel
theorem dX7_init_16 : decode cX7_init 16 = .ok (.newarray .int, 2) := by decide +kernel
theorem dX7_init_18 : decode cX7_init 18 = .ok (.putfield 15, 3) := by decide +kernel
theorem dX7_init_21 : decode cX7_init 21 = .ok (.aload_n 0, 1) := by decide +kernel
theorem dX7_init_22 : decode cX7_init 22 = .ok (.sipush 512, 3) := by decide +kernel
theorem dX7_init_25 : decode cX7_init 25 = .ok (.newarray .int, 2) := by decide +kernel
theorem dX7_init_27 : decode cX7_init 27 = .ok (.putfield 18, 3) := by decide +kernel
theorem dX7_init_30 : decode cX7_init 30 = .ok (.aload_n 0, 1) := by decide +kernel
theorem dX7_init_31 : decode cX7_init 31 = .ok (.bipush 10, 2) := by decide +kernel
theorem dX7_init_33 : decode cX7_init 33 = .ok (.newarray .int, 2) := by decide +kernel
theorem dX7_init_35 : decode cX7_init 35 = .ok (.putfield 21, 3) := by decide +kernel
theorem dX7_init_38 : decode cX7_init 38 = .ok (.return_, 1) := by decide +kernel
theorem dX7_strength_0 : decode cX7_strength 0 = .ok (.iload_n 2, 1) := by decide +kernel
theorem dX7_strength_1 : decode cX7_strength 1 = .ok (.iload_n 3, 1) := by decide +kernel
theorem dX7_strength_2 : decode cX7_strength 2 = .ok (.invokestatic 24, 3) := by decide +kernel
theorem dX7_strength_5 : decode cX7_strength 5 = .ok (.istore 5, 2) := by decide +kernel
theorem dX7_strength_7 : decode cX7_strength 7 = .ok (.iload_n 2, 1) := by decide +kernel
theorem dX7_strength_8 : decode cX7_strength 8 = .ok (.iload_n 3, 1) := by decide +kernel
theorem dX7_strength_9 : decode cX7_strength 9 = .ok (.invokestatic 30, 3) := by decide +kernel
theorem dX7_strength_12 : decode cX7_strength 12 = .ok (.istore 6, 2) := by decide +kernel
theorem dX7_strength_14 : decode cX7_strength 14 = .ok (.iconst 0, 1) := by decide +kernel
theorem dX7_strength_15 : decode cX7_strength 15 = .ok (.istore 7, 2) := by decide +kernel
theorem dX7_strength_17 : decode cX7_strength 17 = .ok (.iconst 0, 1) := by decide +kernel
theorem dX7_strength_18 : decode cX7_strength 18 = .ok (.istore 8, 2) := by decide +kernel
theorem dX7_strength_20 : decode cX7_strength 20 = .ok (.iload 8, 2) := by decide +kernel
theorem dX7_strength_22 : decode cX7_strength 22 = .ok (.iconst 4, 1) := by decide +kernel
theorem dX7_strength_23 : decode cX7_strength 23 = .ok (.if_icmp .ge 43, 3) := by decide +kernel
theorem dX7_strength_26 : decode cX7_strength 26 = .ok (.iconst 0, 1) := by decide +kernel
theorem dX7_strength_27 : decode cX7_strength 27 = .ok (.istore 9, 2) := by decide +kernel
theorem dX7_strength_29 : decode cX7_strength 29 = .ok (.iload 9, 2) := by decide +kernel
theorem dX7_strength_31 : decode cX7_strength 31 = .ok (.iconst 4, 1) := by decide +kernel
theorem dX7_strength_32 : decode cX7_strength 32 = .ok (.if_icmp .ge 28, 3) := by decide +kernel
theorem dX7_strength_35 : decode cX7_strength 35 = .ok (.iload 7, 2) := by decide +kernel
theorem dX7_strength_37 : decode cX7_strength 37 = .ok (.aload_n 1, 1) := by decide +kernel
theorem dX7_strength_38 : decode cX7_strength 38 = .ok (.iload 5, 2) := by decide +kernel
theorem dX7_strength_40 : decode cX7_strength 40 = .ok (.iload 8, 2) := by decide +kernel
theorem dX7_strength_42 : decode cX7_strength 42 = .ok (.iload 6, 2) := by decide +kernel
theorem dX7_strength_44 : decode cX7_strength 44 = .ok (.iload 9, 2) := by decide +kernel
theorem dX7_strength_46 : decode cX7_strength 46 = .ok (.iload 4, 2) := by decide +kernel
theorem dX7_strength_48 : decode cX7_strength 48 = .ok (.invokestatic 33, 3) := by decide +kernel
theorem dX7_strength_51 : decode cX7_strength 51 = .ok (.iadd, 1) := by decide +kernel
theorem dX7_strength_52 : decode cX7_strength 52 = .ok (.istore 7, 2) := by decide +kernel
theorem dX7_strength_54 : decode cX7_strength 54 = .ok (.iinc 9 1, 3) := by decide +kernel
theorem dX7_strength_57 : decode cX7_strength 57 = .ok (.goto (-28), 3) := by decide +kernel
theorem dX7_strength_60 : decode cX7_strength 60 = .ok (.iinc 8 1, 3) := by decide +kernel
theorem dX7_strength_63 : decode cX7_strength 63 = .ok (.goto (-43), 3) := by decide +kernel
theorem dX7_strength_66 : decode cX7_strength 66 = .ok (.aload_n 1, 1) := by decide +kernel
theorem dX7_strength_67 : decode cX7_strength 67 = .ok (.iload 5, 2) := by decide +kernel
theorem dX7_strength_69 : decode cX7_strength 69 = .ok (.iconst 3, 1) := by decide +kernel
theorem dX7_strength_70 : decode cX7_strength 70 = .ok (.invokevirtual 37, 3) := by decide +kernel
theorem dX7_strength_73 : decode cX7_strength 73 = .ok (.istore 8, 2) := by decide +kernel
theorem dX7_strength_75 : decode cX7_strength 75 = .ok (.iload 8, 2) := by decide +kernel
theorem dX7_strength_77 : decode cX7_strength 77 = .ok (.ifCond .eq 27, 3) := by decide +kernel
theorem dX7_strength_80 : decode cX7_strength 80 = .ok (.iload 8, 2) := by decide +kernel
theorem dX7_strength_82 : decode cX7_strength 82 = .ok (.aload_n 1, 1) := by decide +kernel
theorem dX7_strength_83 : decode cX7_strength 83 = .ok (.iload 6, 2) := by decide +kernel
theorem dX7_strength_85 : decode cX7_strength 85 = .ok (.iconst 3, 1) := by decide +kernel
theorem dX7_strength_86 : decode cX7_strength 86 = .ok (.invokevirtual 37, 3) := by decide +kernel
theorem dX7_strength_89 : decode cX7_strength 89 = .ok (.if_icmp .ne 15, 3) := by decide +kernel
theorem dX7_strength_92 : decode cX7_strength 92 = .ok (.iload 7, 2) := by decide +kernel
theorem dX7_strength_94 : decode cX7_strength 94 = .ok (.aload_n 1, 1) := by decide +kernel
theorem dX7_strength_95 : decode cX7_strength 95 = .ok (.iconst 3, 1) := by decide +kernel
theorem dX7_strength_96 : decode cX7_strength 96 = .ok (.iload 4, 2) := by decide +kernel
theorem dX7_strength_98 : decode cX7_strength 98 = .ok (.invokestatic 42, 3) := by decide +kernel
theorem dX7_strength_101 : decode cX7_strength 101 = .ok (.iadd, 1) := by decide +kernel
theorem dX7_strength_102 : decode cX7_strength 102 = .ok (.istore 7, 2) := by decide +kernel
theorem dX7_strength_104 : decode cX7_strength 104 = .ok (.aload_n 1, 1) := by decide +kernel
theorem dX7_strength_105 : decode cX7_strength 105 = .ok (.iload 5, 2) := by decide +kernel
theorem dX7_strength_107 : decode cX7_strength 107 = .ok (.iconst 0, 1) := by decide +kernel
theorem dX7_strength_108 : decode cX7_strength 108 = .ok (.invokevirtual 37, 3) := by decide +kernel
theorem dX7_strength_111 : decode cX7_strength 111 = .ok (.iload 7, 2) := by decide +kernel
theorem dX7_strength_113 : decode cX7_strength 113 = .ok (.aload_n 1, 1) := by decide +kernel
theorem dX7_strength_114 : decode cX7_strength 114 = .ok (.iload 5, 2) := by decide +kernel
theorem dX7_strength_116 : decode cX7_strength 116 = .ok (.iconst 4, 1) := by decide +kernel
theorem dX7_strength_117 : decode cX7_strength 117 = .ok (.invokevirtual 37, 3) := by decide +kernel
theorem dX7_strength_120 : decode cX7_strength 120 = .ok (.invokestatic 46, 3) := by decide +kernel
theorem dX7_strength_123 : decode cX7_strength 123 = .ok (.istore 7, 2) := by decide +kernel
theorem dX7_strength_125 : decode cX7_strength 125 = .ok (.aload_n 1, 1) := by decide +kernel
theorem dX7_strength_126 : decode cX7_strength 126 = .ok (.iload 6, 2) := by decide +kernel
theorem dX7_strength_128 : decode cX7_strength 128 = .ok (.iconst 0, 1) := by decide +kernel
theorem dX7_strength_129 : decode cX7_strength 129 = .ok (.invokevirtual 37, 3) := by decide +kernel
theorem dX7_strength_132 : decode cX7_strength 132 = .ok (.iload 7, 2) := by decide +kernel
theorem dX7_strength_134 : decode cX7_strength 134 = .ok (.aload_n 1, 1) := by decide +kernel
theorem dX7_strength_135 : decode cX7_strength 135 = .ok (.iload 6, 2) := by decide +kernel
theorem dX7_strength_137 : decode cX7_strength 137 = .ok (.iconst 4, 1) := by decide +kernel
theorem dX7_strength_138 : decode cX7_strength 138 = .ok (.invokevirtual 37, 3) := by decide +kernel
theorem dX7_strength_141 : decode cX7_strength 141 = .ok (.invokestatic 46, 3) := by decide +kernel
theorem dX7_strength_144 : decode cX7_strength 144 = .ok (.ireturn, 1) := by decide +kernel
theorem dX7_placeSign_0 : decode cX7_placeSign 0 = .ok (.aload_n 0, 1) := by decide +kernel
theorem dX7_placeSign_1 : decode cX7_placeSign 1 = .ok (.iload_n 1, 1) := by decide +kernel
theorem dX7_placeSign_2 : decode cX7_placeSign 2 = .ok (.iload_n 2, 1) := by decide +kernel
theorem dX7_placeSign_3 : decode cX7_placeSign 3 = .ok (.invokevirtual 50, 3) := by decide +kernel
theorem dX7_placeSign_6 : decode cX7_placeSign 6 = .ok (.istore 6, 2) := by decide +kernel
theorem dX7_placeSign_8 : decode cX7_placeSign 8 = .ok (.iload 6, 2) := by decide +kernel
theorem dX7_placeSign_10 : decode cX7_placeSign 10 = .ok (.bipush (-9), 2) := by decide +kernel
theorem dX7_placeSign_12 : decode cX7_placeSign 12 = .ok (.if_icmp .eq 24, 3) := by decide +kernel
theorem dX7_placeSign_15 : decode cX7_placeSign 15 = .ok (.iload 6, 2) := by decide +kernel
theorem dX7_placeSign_17 : decode cX7_placeSign 17 = .ok (.aload_n 0, 1) := by decide +kernel
theorem dX7_placeSign_18 : decode cX7_placeSign 18 = .ok (.iload_n 3, 1) := by decide +kernel
theorem dX7_placeSign_19 : decode cX7_placeSign 19 = .ok (.iload 4, 2) := by decide +kernel
theorem dX7_placeSign_21 : decode cX7_placeSign 21 = .ok (.invokevirtual 50, 3) := by decide +kernel
theorem dX7_placeSign_24 : decode cX7_placeSign 24 = .ok (.if_icmp .ne 12, 3) := by decide +kernel
theorem dX7_placeSign_27 : decode cX7_placeSign 27 = .ok (.aload_n 0, 1) := by decide +kernel
theorem dX7_placeSign_28 : decode cX7_placeSign 28 = .ok (.iload 6, 2) := by decide +kernel
theorem dX7_placeSign_30 : decode cX7_placeSign 30 = .ok (.invokevirtual 53, 3) := by decide +kernel
theorem dX7_placeSign_33 : decode cX7_placeSign 33 = .ok (.ifCond .eq 5, 3) := by decide +kernel
theorem dX7_placeSign_36 : decode cX7_placeSign 36 = .ok (.iconst 0, 1) := by decide +kernel
theorem dX7_placeSign_37 : decode cX7_placeSign 37 = .ok (.ireturn, 1) := by decide +kernel
theorem dX7_placeSign_38 : decode cX7_placeSign 38 = .ok (.iload_n 2, 1) := by decide +kernel
theorem dX7_placeSign_39 : decode cX7_placeSign 39 = .ok (.iload 4, 2) := by decide +kernel
theorem dX7_placeSign_41 : decode cX7_placeSign 41 = .ok (.if_icmp .ne 11, 3) := by decide +kernel
theorem dX7_placeSign_44 : decode cX7_placeSign 44 = .ok (.aload_n 0, 1) := by decide +kernel
theorem dX7_placeSign_45 : decode cX7_placeSign 45 = .ok (.iconst 0, 1) := by decide +kernel
theorem dX7_placeSign_46 : decode cX7_placeSign 46 = .ok (.iload 5, 2) := by decide +kernel
theorem dX7_placeSign_48 : decode cX7_placeSign 48 = .ok (.invokestatic 42, 3) := by decide +kernel
theorem dX7_placeSign_51 : decode cX7_placeSign 51 = .ok (.ireturn, 1) := by decide +kernel
theorem dX7_placeSign_52 : decode cX7_placeSign 52 = .ok (.aload_n 0, 1) := by decide +kernel
theorem dX7_placeSign_53 : decode cX7_placeSign 53 = .ok (.iload_n 2, 1) := by decide +kernel
theorem dX7_placeSign_54 : decode cX7_placeSign 54 = .ok (.iload 4, 2) := by decide +kernel
theorem dX7_placeSign_56 : decode cX7_placeSign 56 = .ok (.iadd, 1) := by decide +kernel
theorem dX7_placeSign_57 : decode cX7_placeSign 57 = .ok (.iconst 1, 1) := by decide +kernel
theorem dX7_placeSign_58 : decode cX7_placeSign 58 = .ok (.if_icmp .ne 7, 3) := by decide +kernel
theorem dX7_placeSign_61 : decode cX7_placeSign 61 = .ok (.iconst 1, 1) := by decide +kernel
theorem dX7_placeSign_62 : decode cX7_placeSign 62 = .ok (.goto 4, 3) := by decide +kernel
theorem dX7_placeSign_65 : decode cX7_placeSign 65 = .ok (.iconst 2, 1) := by decide +kernel
theorem dX7_placeSign_66 : decode cX7_placeSign 66 = .ok (.iload 5, 2) := by decide +kernel
theorem dX7_placeSign_68 : decode cX7_placeSign 68 = .ok (.invokestatic 42, 3) := by decide +kernel
theorem dX7_placeSign_71 : decode cX7_placeSign 71 = .ok (.ireturn, 1) := by decide +kernel
theorem dX7_sign_0 : decode cX7_sign 0 = .ok (.iload_n 1, 1) := by decide +kernel
theorem dX7_sign_1 : decode cX7_sign 1 = .ok (.iload_n 2, 1) := by decide +kernel
theorem dX7_sign_2 : decode cX7_sign 2 = .ok (.if_icmp .ne 7, 3) := by decide +kernel
theorem dX7_sign_5 : decode cX7_sign 5 = .ok (.iconst 0, 1) := by decide +kernel
theorem dX7_sign_6 : decode cX7_sign 6 = .ok (.goto 8, 3) := by decide +kernel
theorem dX7_sign_9 : decode cX7_sign 9 = .ok (.aload_n 0, 1) := by decide +kernel
theorem dX7_sign_10 : decode cX7_sign 10 = .ok (.iload_n 1, 1) := by decide +kernel
theorem dX7_sign_11 : decode cX7_sign 11 = .ok (.invokevirtual 57, 3) := by decide +kernel
theorem dX7_sign_14 : decode cX7_sign 14 = .ok (.ireturn, 1) := by decide +kernel
theorem dX7_weigh_0 : decode cX7_weigh 0 = .ok (.iload_n 1, 1) := by decide +kernel
theorem dX7_weigh_1 : decode cX7_weigh 1 = .ok (.ifCond .le 9, 3) := by decide +kernel
theorem dX7_weigh_4 : decode cX7_weigh 4 = .ok (.iload_n 1, 1) := by decide +kernel
theorem dX7_weigh_5 : decode cX7_weigh 5 = .ok (.iconst 1, 1) := by decide +kernel
theorem dX7_weigh_6 : decode cX7_weigh 6 = .ok (.iadd, 1) := by decide +kernel
theorem dX7_weigh_7 : decode cX7_weigh 7 = .ok (.goto 4, 3) := by decide +kernel
theorem dX7_weigh_10 : decode cX7_weigh 10 = .ok (.iconst 0, 1) := by decide +kernel
theorem dX7_weigh_11 : decode cX7_weigh 11 = .ok (.istore_n 3, 1) := by decide +kernel
theorem dX7_weigh_12 : decode cX7_weigh 12 = .ok (.iload_n 0, 1) := by decide +kernel
theorem dX7_weigh_13 : decode cX7_weigh 13 = .ok (.tableswitch 62 1 5 #[35, 41, 37, 45, 55], 35) := by decide +kernel
theorem dX7_weigh_48 : decode cX7_weigh 48 = .ok (.iload_n 3, 1) := by decide +kernel
theorem dX7_weigh_49 : decode cX7_weigh 49 = .ok (.ireturn, 1) := by decide +kernel
theorem dX7_weigh_50 : decode cX7_weigh 50 = .ok (.iconst 2, 1) := by decide +kernel
theorem dX7_weigh_51 : decode cX7_weigh 51 = .ok (.iload_n 3, 1) := by decide +kernel
theorem dX7_weigh_52 : decode cX7_weigh 52 = .ok (.imul, 1) := by decide +kernel
theorem dX7_weigh_53 : decode cX7_weigh 53 = .ok (.ireturn, 1) := by decide +kernel
theorem dX7_weigh_54 : decode cX7_weigh 54 = .ok (.iload_n 1, 1) := by decide +kernel
theorem dX7_weigh_55 : decode cX7_weigh 55 = .ok (.iconst 2, 1) := by decide +kernel
theorem dX7_weigh_56 : decode cX7_weigh 56 = .ok (.idiv, 1) := by decide +kernel
theorem dX7_weigh_57 : decode cX7_weigh 57 = .ok (.ireturn, 1) := by decide +kernel
theorem dX7_weigh_58 : decode cX7_weigh 58 = .ok (.iconst 0, 1) := by decide +kernel
theorem dX7_weigh_59 : decode cX7_weigh 59 = .ok (.iload_n 1, 1) := by decide +kernel
theorem dX7_weigh_60 : decode cX7_weigh 60 = .ok (.iconst 2, 1) := by decide +kernel
theorem dX7_weigh_61 : decode cX7_weigh 61 = .ok (.idiv, 1) := by decide +kernel
theorem dX7_weigh_62 : decode cX7_weigh 62 = .ok (.iconst 1, 1) := by decide +kernel
theorem dX7_weigh_63 : decode cX7_weigh 63 = .ok (.isub, 1) := by decide +kernel
theorem dX7_weigh_64 : decode cX7_weigh 64 = .ok (.invokestatic 30, 3) := by decide +kernel
theorem dX7_weigh_67 : decode cX7_weigh 67 = .ok (.ireturn, 1) := by decide +kernel
theorem dX7_weigh_68 : decode cX7_weigh 68 = .ok (.iload_n 1, 1) := by decide +kernel
theorem dX7_weigh_69 : decode cX7_weigh 69 = .ok (.iload_n 2, 1) := by decide +kernel
theorem dX7_weigh_70 : decode cX7_weigh 70 = .ok (.bipush 10, 2) := by decide +kernel
theorem dX7_weigh_72 : decode cX7_weigh 72 = .ok (.idiv, 1) := by decide +kernel
theorem dX7_weigh_73 : decode cX7_weigh 73 = .ok (.iadd, 1) := by decide +kernel
theorem dX7_weigh_74 : decode cX7_weigh 74 = .ok (.ireturn, 1) := by decide +kernel
theorem dX7_weigh_75 : decode cX7_weigh 75 = .ok (.iload_n 1, 1) := by decide +kernel
theorem dX7_weigh_76 : decode cX7_weigh 76 = .ok (.ireturn, 1) := by decide +kernel
theorem dX7_weave_0 : decode cX7_weave 0 = .ok (.iconst 0, 1) := by decide +kernel
theorem dX7_weave_1 : decode cX7_weave 1 = .ok (.istore_n 3, 1) := by decide +kernel
theorem dX7_weave_2 : decode cX7_weave 2 = .ok (.iload_n 3, 1) := by decide +kernel
theorem dX7_weave_3 : decode cX7_weave 3 = .ok (.aload_n 1, 1) := by decide +kernel
theorem dX7_weave_4 : decode cX7_weave 4 = .ok (.getfield 61, 3) := by decide +kernel
theorem dX7_weave_7 : decode cX7_weave 7 = .ok (.if_icmp .ge 80, 3) := by decide +kernel
theorem dX7_weave_10 : decode cX7_weave 10 = .ok (.aload_n 0, 1) := by decide +kernel
theorem dX7_weave_11 : decode cX7_weave 11 = .ok (.getfield 9, 3) := by decide +kernel
theorem dX7_weave_14 : decode cX7_weave 14 = .ok (.iload_n 3, 1) := by decide +kernel
theorem dX7_weave_15 : decode cX7_weave 15 = .ok (.bipush 9, 2) := by decide +kernel
theorem dX7_weave_17 : decode cX7_weave 17 = .ok (.imul, 1) := by decide +kernel
theorem dX7_weave_18 : decode cX7_weave 18 = .ok (.iload_n 3, 1) := by decide +kernel
theorem dX7_weave_19 : decode cX7_weave 19 = .ok (.iadd, 1) := by decide +kernel
theorem dX7_weave_20 : decode cX7_weave 20 = .ok (.iconst 0, 1) := by decide +kernel
theorem dX7_weave_21 : decode cX7_weave 21 = .ok (.iastore, 1) := by decide +kernel
theorem dX7_weave_22 : decode cX7_weave 22 = .ok (.iload_n 3, 1) := by decide +kernel
theorem dX7_weave_23 : decode cX7_weave 23 = .ok (.iconst 1, 1) := by decide +kernel
theorem dX7_weave_24 : decode cX7_weave 24 = .ok (.iadd, 1) := by decide +kernel
theorem dX7_weave_25 : decode cX7_weave 25 = .ok (.istore 4, 2) := by decide +kernel
theorem dX7_weave_27 : decode cX7_weave 27 = .ok (.iload 4, 2) := by decide +kernel
theorem dX7_weave_29 : decode cX7_weave 29 = .ok (.aload_n 1, 1) := by decide +kernel
theorem dX7_weave_30 : decode cX7_weave 30 = .ok (.getfield 61, 3) := by decide +kernel
theorem dX7_weave_33 : decode cX7_weave 33 = .ok (.if_icmp .ge 48, 3) := by decide +kernel
theorem dX7_weave_36 : decode cX7_weave 36 = .ok (.aload_n 0, 1) := by decide +kernel
theorem dX7_weave_37 : decode cX7_weave 37 = .ok (.aload_n 1, 1) := by decide +kernel
theorem dX7_weave_38 : decode cX7_weave 38 = .ok (.iload_n 3, 1) := by decide +kernel
theorem dX7_weave_39 : decode cX7_weave 39 = .ok (.iload 4, 2) := by decide +kernel
theorem dX7_weave_41 : decode cX7_weave 41 = .ok (.iload_n 2, 1) := by decide +kernel
theorem dX7_weave_42 : decode cX7_weave 42 = .ok (.invokevirtual 65, 3) := by decide +kernel
theorem dX7_weave_45 : decode cX7_weave 45 = .ok (.istore 5, 2) := by decide +kernel
theorem dX7_weave_47 : decode cX7_weave 47 = .ok (.aload_n 0, 1) := by decide +kernel
theorem dX7_weave_48 : decode cX7_weave 48 = .ok (.getfield 9, 3) := by decide +kernel
theorem dX7_weave_51 : decode cX7_weave 51 = .ok (.iload_n 3, 1) := by decide +kernel
theorem dX7_weave_52 : decode cX7_weave 52 = .ok (.bipush 9, 2) := by decide +kernel
theorem dX7_weave_54 : decode cX7_weave 54 = .ok (.imul, 1) := by decide +kernel
theorem dX7_weave_55 : decode cX7_weave 55 = .ok (.iload 4, 2) := by decide +kernel
theorem dX7_weave_57 : decode cX7_weave 57 = .ok (.iadd, 1) := by decide +kernel
theorem dX7_weave_58 : decode cX7_weave 58 = .ok (.iload 5, 2) := by decide +kernel
theorem dX7_weave_60 : decode cX7_weave 60 = .ok (.iastore, 1) := by decide +kernel
theorem dX7_weave_61 : decode cX7_weave 61 = .ok (.aload_n 0, 1) := by decide +kernel
theorem dX7_weave_62 : decode cX7_weave 62 = .ok (.getfield 9, 3) := by decide +kernel
theorem dX7_weave_65 : decode cX7_weave 65 = .ok (.iload 4, 2) := by decide +kernel
theorem dX7_weave_67 : decode cX7_weave 67 = .ok (.bipush 9, 2) := by decide +kernel
theorem dX7_weave_69 : decode cX7_weave 69 = .ok (.imul, 1) := by decide +kernel
theorem dX7_weave_70 : decode cX7_weave 70 = .ok (.iload_n 3, 1) := by decide +kernel
theorem dX7_weave_71 : decode cX7_weave 71 = .ok (.iadd, 1) := by decide +kernel
theorem dX7_weave_72 : decode cX7_weave 72 = .ok (.iload 5, 2) := by decide +kernel
theorem dX7_weave_74 : decode cX7_weave 74 = .ok (.iastore, 1) := by decide +kernel
theorem dX7_weave_75 : decode cX7_weave 75 = .ok (.iinc 4 1, 3) := by decide +kernel
theorem dX7_weave_78 : decode cX7_weave 78 = .ok (.goto (-51), 3) := by decide +kernel
theorem dX7_weave_81 : decode cX7_weave 81 = .ok (.iinc 3 1, 3) := by decide +kernel
theorem dX7_weave_84 : decode cX7_weave 84 = .ok (.goto (-82), 3) := by decide +kernel
theorem dX7_weave_87 : decode cX7_weave 87 = .ok (.return_, 1) := by decide +kernel
theorem dX7_woven_0 : decode cX7_woven 0 = .ok (.iload_n 1, 1) := by decide +kernel
theorem dX7_woven_1 : decode cX7_woven 1 = .ok (.ifCond .lt 23, 3) := by decide +kernel
theorem dX7_woven_4 : decode cX7_woven 4 = .ok (.iload_n 1, 1) := by decide +kernel
theorem dX7_woven_5 : decode cX7_woven 5 = .ok (.bipush 9, 2) := by decide +kernel
theorem dX7_woven_7 : decode cX7_woven 7 = .ok (.if_icmp .ge 17, 3) := by decide +kernel
theorem dX7_woven_10 : decode cX7_woven 10 = .ok (.iload_n 2, 1) := by decide +kernel
theorem dX7_woven_11 : decode cX7_woven 11 = .ok (.ifCond .lt 13, 3) := by decide +kernel
theorem dX7_woven_14 : decode cX7_woven 14 = .ok (.iload_n 2, 1) := by decide +kernel
theorem dX7_woven_15 : decode cX7_woven 15 = .ok (.bipush 9, 2) := by decide +kernel
theorem dX7_woven_17 : decode cX7_woven 17 = .ok (.if_icmp .ge 7, 3) := by decide +kernel
theorem dX7_woven_20 : decode cX7_woven 20 = .ok (.iconst 1, 1) := by decide +kernel
theorem dX7_woven_21 : decode cX7_woven 21 = .ok (.goto 4, 3) := by decide +kernel
theorem dX7_woven_24 : decode cX7_woven 24 = .ok (.iconst 0, 1) := by decide +kernel
theorem dX7_woven_25 : decode cX7_woven 25 = .ok (.istore_n 3, 1) := by decide +kernel
theorem dX7_woven_26 : decode cX7_woven 26 = .ok (.iload_n 3, 1) := by decide +kernel
theorem dX7_woven_27 : decode cX7_woven 27 = .ok (.ifCond .eq 17, 3) := by decide +kernel
theorem dX7_woven_30 : decode cX7_woven 30 = .ok (.aload_n 0, 1) := by decide +kernel
theorem dX7_woven_31 : decode cX7_woven 31 = .ok (.getfield 9, 3) := by decide +kernel
theorem dX7_woven_34 : decode cX7_woven 34 = .ok (.iload_n 1, 1) := by decide +kernel
theorem dX7_woven_35 : decode cX7_woven 35 = .ok (.bipush 9, 2) := by decide +kernel
theorem dX7_woven_37 : decode cX7_woven 37 = .ok (.imul, 1) := by decide +kernel
theorem dX7_woven_38 : decode cX7_woven 38 = .ok (.iload_n 2, 1) := by decide +kernel
theorem dX7_woven_39 : decode cX7_woven 39 = .ok (.iadd, 1) := by decide +kernel
theorem dX7_woven_40 : decode cX7_woven 40 = .ok (.iaload, 1) := by decide +kernel
theorem dX7_woven_41 : decode cX7_woven 41 = .ok (.goto 4, 3) := by decide +kernel
theorem dX7_woven_44 : decode cX7_woven 44 = .ok (.iconst 0, 1) := by decide +kernel
theorem dX7_woven_45 : decode cX7_woven 45 = .ok (.ireturn, 1) := by decide +kernel
theorem dX7_tiedWith_0 : decode cX7_tiedWith 0 = .ok (.iconst 0, 1) := by decide +kernel
theorem dX7_tiedWith_1 : decode cX7_tiedWith 1 = .ok (.istore_n 3, 1) := by decide +kernel
theorem dX7_tiedWith_2 : decode cX7_tiedWith 2 = .ok (.iconst 0, 1) := by decide +kernel
theorem dX7_tiedWith_3 : decode cX7_tiedWith 3 = .ok (.istore 4, 2) := by decide +kernel
theorem dX7_tiedWith_5 : decode cX7_tiedWith 5 = .ok (.iload 4, 2) := by decide +kernel
theorem dX7_tiedWith_7 : decode cX7_tiedWith 7 = .ok (.aload_n 1, 1) := by decide +kernel
theorem dX7_tiedWith_8 : decode cX7_tiedWith 8 = .ok (.getfield 61, 3) := by decide +kernel
theorem dX7_tiedWith_11 : decode cX7_tiedWith 11 = .ok (.if_icmp .ge 34, 3) := by decide +kernel
theorem dX7_tiedWith_14 : decode cX7_tiedWith 14 = .ok (.iload 4, 2) := by decide +kernel
theorem dX7_tiedWith_16 : decode cX7_tiedWith 16 = .ok (.iload_n 2, 1) := by decide +kernel
theorem dX7_tiedWith_17 : decode cX7_tiedWith 17 = .ok (.if_icmp .eq 22, 3) := by decide +kernel
theorem dX7_tiedWith_20 : decode cX7_tiedWith 20 = .ok (.aload_n 0, 1) := by decide +kernel
theorem dX7_tiedWith_21 : decode cX7_tiedWith 21 = .ok (.aload_n 1, 1) := by decide +kernel
theorem dX7_tiedWith_22 : decode cX7_tiedWith 22 = .ok (.iload_n 2, 1) := by decide +kernel
theorem dX7_tiedWith_23 : decode cX7_tiedWith 23 = .ok (.iload 4, 2) := by decide +kernel
theorem dX7_tiedWith_25 : decode cX7_tiedWith 25 = .ok (.iconst (-1), 1) := by decide +kernel
theorem dX7_tiedWith_26 : decode cX7_tiedWith 26 = .ok (.invokevirtual 65, 3) := by decide +kernel
theorem dX7_tiedWith_29 : decode cX7_tiedWith 29 = .ok (.ifCond .le 10, 3) := by decide +kernel
theorem dX7_tiedWith_32 : decode cX7_tiedWith 32 = .ok (.iload_n 3, 1) := by decide +kernel
theorem dX7_tiedWith_33 : decode cX7_tiedWith 33 = .ok (.iconst 1, 1) := by decide +kernel
theorem dX7_tiedWith_34 : decode cX7_tiedWith 34 = .ok (.iload 4, 2) := by decide +kernel
theorem dX7_tiedWith_36 : decode cX7_tiedWith 36 = .ok (.ishl, 1) := by decide +kernel
theorem dX7_tiedWith_37 : decode cX7_tiedWith 37 = .ok (.ior, 1) := by decide +kernel
theorem dX7_tiedWith_38 : decode cX7_tiedWith 38 = .ok (.istore_n 3, 1) := by decide +kernel
theorem dX7_tiedWith_39 : decode cX7_tiedWith 39 = .ok (.iinc 4 1, 3) := by decide +kernel
theorem dX7_tiedWith_42 : decode cX7_tiedWith 42 = .ok (.goto (-37), 3) := by decide +kernel
theorem dX7_tiedWith_45 : decode cX7_tiedWith 45 = .ok (.iload_n 3, 1) := by decide +kernel
theorem dX7_tiedWith_46 : decode cX7_tiedWith 46 = .ok (.ireturn, 1) := by decide +kernel
theorem dX7_hanging_0 : decode cX7_hanging 0 = .ok (.aload_n 0, 1) := by decide +kernel
theorem dX7_hanging_1 : decode cX7_hanging 1 = .ok (.aload_n 1, 1) := by decide +kernel
theorem dX7_hanging_2 : decode cX7_hanging 2 = .ok (.iconst (-1), 1) := by decide +kernel
theorem dX7_hanging_3 : decode cX7_hanging 3 = .ok (.invokevirtual 69, 3) := by decide +kernel
theorem dX7_hanging_6 : decode cX7_hanging 6 = .ok (.iconst 1, 1) := by decide +kernel
theorem dX7_hanging_7 : decode cX7_hanging 7 = .ok (.iload_n 2, 1) := by decide +kernel
theorem dX7_hanging_8 : decode cX7_hanging 8 = .ok (.ishl, 1) := by decide +kernel
theorem dX7_hanging_9 : decode cX7_hanging 9 = .ok (.istore_n 3, 1) := by decide +kernel
theorem dX7_hanging_10 : decode cX7_hanging 10 = .ok (.iconst 0, 1) := by decide +kernel
theorem dX7_hanging_11 : decode cX7_hanging 11 = .ok (.istore 4, 2) := by decide +kernel
theorem dX7_hanging_13 : decode cX7_hanging 13 = .ok (.iload 4, 2) := by decide +kernel
theorem dX7_hanging_15 : decode cX7_hanging 15 = .ok (.aload_n 1, 1) := by decide +kernel
theorem dX7_hanging_16 : decode cX7_hanging 16 = .ok (.getfield 61, 3) := by decide +kernel
theorem dX7_hanging_19 : decode cX7_hanging 19 = .ok (.if_icmp .ge 18, 3) := by decide +kernel
theorem dX7_hanging_22 : decode cX7_hanging 22 = .ok (.iload_n 3, 1) := by decide +kernel
theorem dX7_hanging_23 : decode cX7_hanging 23 = .ok (.aload_n 0, 1) := by decide +kernel
theorem dX7_hanging_24 : decode cX7_hanging 24 = .ok (.aload_n 1, 1) := by decide +kernel
theorem dX7_hanging_25 : decode cX7_hanging 25 = .ok (.iload_n 3, 1) := by decide +kernel
theorem dX7_hanging_26 : decode cX7_hanging 26 = .ok (.invokevirtual 73, 3) := by decide +kernel
theorem dX7_hanging_29 : decode cX7_hanging 29 = .ok (.ior, 1) := by decide +kernel
theorem dX7_hanging_30 : decode cX7_hanging 30 = .ok (.istore_n 3, 1) := by decide +kernel
theorem dX7_hanging_31 : decode cX7_hanging 31 = .ok (.iinc 4 1, 3) := by decide +kernel
theorem dX7_hanging_34 : decode cX7_hanging 34 = .ok (.goto (-21), 3) := by decide +kernel
theorem dX7_hanging_37 : decode cX7_hanging 37 = .ok (.iload_n 3, 1) := by decide +kernel
theorem dX7_hanging_38 : decode cX7_hanging 38 = .ok (.ireturn, 1) := by decide +kernel
theorem dX7_tiedToAny_0 : decode cX7_tiedToAny 0 = .ok (.iconst 0, 1) := by decide +kernel
theorem dX7_tiedToAny_1 : decode cX7_tiedToAny 1 = .ok (.istore_n 3, 1) := by decide +kernel
theorem dX7_tiedToAny_2 : decode cX7_tiedToAny 2 = .ok (.iconst 0, 1) := by decide +kernel
theorem dX7_tiedToAny_3 : decode cX7_tiedToAny 3 = .ok (.istore 4, 2) := by decide +kernel
theorem dX7_tiedToAny_5 : decode cX7_tiedToAny 5 = .ok (.iload 4, 2) := by decide +kernel
theorem dX7_tiedToAny_7 : decode cX7_tiedToAny 7 = .ok (.aload_n 1, 1) := by decide +kernel
theorem dX7_tiedToAny_8 : decode cX7_tiedToAny 8 = .ok (.getfield 61, 3) := by decide +kernel
theorem dX7_tiedToAny_11 : decode cX7_tiedToAny 11 = .ok (.if_icmp .ge 57, 3) := by decide +kernel
theorem dX7_tiedToAny_14 : decode cX7_tiedToAny 14 = .ok (.iload_n 2, 1) := by decide +kernel
theorem dX7_tiedToAny_15 : decode cX7_tiedToAny 15 = .ok (.iload 4, 2) := by decide +kernel
theorem dX7_tiedToAny_17 : decode cX7_tiedToAny 17 = .ok (.ishr, 1) := by decide +kernel
theorem dX7_tiedToAny_18 : decode cX7_tiedToAny 18 = .ok (.iconst 1, 1) := by decide +kernel
theorem dX7_tiedToAny_19 : decode cX7_tiedToAny 19 = .ok (.iand, 1) := by decide +kernel
theorem dX7_tiedToAny_20 : decode cX7_tiedToAny 20 = .ok (.ifCond .ne 6, 3) := by decide +kernel
theorem dX7_tiedToAny_23 : decode cX7_tiedToAny 23 = .ok (.goto 39, 3) := by decide +kernel
theorem dX7_tiedToAny_26 : decode cX7_tiedToAny 26 = .ok (.iconst 0, 1) := by decide +kernel
theorem dX7_tiedToAny_27 : decode cX7_tiedToAny 27 = .ok (.istore 5, 2) := by decide +kernel
theorem dX7_tiedToAny_29 : decode cX7_tiedToAny 29 = .ok (.iload 5, 2) := by decide +kernel
theorem dX7_tiedToAny_31 : decode cX7_tiedToAny 31 = .ok (.aload_n 1, 1) := by decide +kernel
theorem dX7_tiedToAny_32 : decode cX7_tiedToAny 32 = .ok (.getfield 61, 3) := by decide +kernel
theorem dX7_tiedToAny_35 : decode cX7_tiedToAny 35 = .ok (.if_icmp .ge 27, 3) := by decide +kernel
theorem dX7_tiedToAny_38 : decode cX7_tiedToAny 38 = .ok (.aload_n 0, 1) := by decide +kernel
theorem dX7_tiedToAny_39 : decode cX7_tiedToAny 39 = .ok (.iload 4, 2) := by decide +kernel
theorem dX7_tiedToAny_41 : decode cX7_tiedToAny 41 = .ok (.iload 5, 2) := by decide +kernel
theorem dX7_tiedToAny_43 : decode cX7_tiedToAny 43 = .ok (.invokevirtual 77, 3) := by decide +kernel
theorem dX7_tiedToAny_46 : decode cX7_tiedToAny 46 = .ok (.ifCond .le 10, 3) := by decide +kernel
theorem dX7_tiedToAny_49 : decode cX7_tiedToAny 49 = .ok (.iload_n 3, 1) := by decide +kernel
theorem dX7_tiedToAny_50 : decode cX7_tiedToAny 50 = .ok (.iconst 1, 1) := by decide +kernel
theorem dX7_tiedToAny_51 : decode cX7_tiedToAny 51 = .ok (.iload 5, 2) := by decide +kernel
theorem dX7_tiedToAny_53 : decode cX7_tiedToAny 53 = .ok (.ishl, 1) := by decide +kernel
theorem dX7_tiedToAny_54 : decode cX7_tiedToAny 54 = .ok (.ior, 1) := by decide +kernel
theorem dX7_tiedToAny_55 : decode cX7_tiedToAny 55 = .ok (.istore_n 3, 1) := by decide +kernel
theorem dX7_tiedToAny_56 : decode cX7_tiedToAny 56 = .ok (.iinc 5 1, 3) := by decide +kernel
theorem dX7_tiedToAny_59 : decode cX7_tiedToAny 59 = .ok (.goto (-30), 3) := by decide +kernel
theorem dX7_tiedToAny_62 : decode cX7_tiedToAny 62 = .ok (.iinc 4 1, 3) := by decide +kernel
theorem dX7_tiedToAny_65 : decode cX7_tiedToAny 65 = .ok (.goto (-60), 3) := by decide +kernel
theorem dX7_tiedToAny_68 : decode cX7_tiedToAny 68 = .ok (.iload_n 3, 1) := by decide +kernel
theorem dX7_tiedToAny_69 : decode cX7_tiedToAny 69 = .ok (.ireturn, 1) := by decide +kernel
theorem dX7_stepsBetween_0 : decode cX7_stepsBetween 0 = .ok (.iload_n 2, 1) := by decide +kernel
theorem dX7_stepsBetween_1 : decode cX7_stepsBetween 1 = .ok (.iload_n 3, 1) := by decide +kernel
theorem dX7_stepsBetween_2 : decode cX7_stepsBetween 2 = .ok (.if_icmp .ne 5, 3) := by decide +kernel
theorem dX7_stepsBetween_5 : decode cX7_stepsBetween 5 = .ok (.iconst 0, 1) := by decide +kernel
theorem dX7_stepsBetween_6 : decode cX7_stepsBetween 6 = .ok (.ireturn, 1) := by decide +kernel
theorem dX7_stepsBetween_7 : decode cX7_stepsBetween 7 = .ok (.iconst 0, 1) := by decide +kernel
theorem dX7_stepsBetween_8 : decode cX7_stepsBetween 8 = .ok (.istore 4, 2) := by decide +kernel
theorem dX7_stepsBetween_10 : decode cX7_stepsBetween 10 = .ok (.iload 4, 2) := by decide +kernel
theorem dX7_stepsBetween_12 : decode cX7_stepsBetween 12 = .ok (.bipush 10, 2) := by decide +kernel
theorem dX7_stepsBetween_14 : decode cX7_stepsBetween 14 = .ok (.if_icmp .ge 28, 3) := by decide +kernel
theorem dX7_stepsBetween_17 : decode cX7_stepsBetween 17 = .ok (.aload_n 0, 1) := by decide +kernel
theorem dX7_stepsBetween_18 : decode cX7_stepsBetween 18 = .ok (.getfield 21, 3) := by decide +kernel
theorem dX7_stepsBetween_21 : decode cX7_stepsBetween 21 = .ok (.iload 4, 2) := by decide +kernel
theorem dX7_stepsBetween_23 : decode cX7_stepsBetween 23 = .ok (.iload 4, 2) := by decide +kernel
theorem dX7_stepsBetween_25 : decode cX7_stepsBetween 25 = .ok (.iload_n 2, 1) := by decide +kernel
theorem dX7_stepsBetween_26 : decode cX7_stepsBetween 26 = .ok (.if_icmp .ne 7, 3) := by decide +kernel
theorem dX7_stepsBetween_29 : decode cX7_stepsBetween 29 = .ok (.iconst 0, 1) := by decide +kernel
theorem dX7_stepsBetween_30 : decode cX7_stepsBetween 30 = .ok (.goto 5, 3) := by decide +kernel
theorem dX7_stepsBetween_33 : decode cX7_stepsBetween 33 = .ok (.bipush (-9), 2) := by decide +kernel
theorem dX7_stepsBetween_35 : decode cX7_stepsBetween 35 = .ok (.iastore, 1) := by decide +kernel
theorem dX7_stepsBetween_36 : decode cX7_stepsBetween 36 = .ok (.iinc 4 1, 3) := by decide +kernel
theorem dX7_stepsBetween_39 : decode cX7_stepsBetween 39 = .ok (.goto (-29), 3) := by decide +kernel
theorem dX7_stepsBetween_42 : decode cX7_stepsBetween 42 = .ok (.iconst 1, 1) := by decide +kernel
theorem dX7_stepsBetween_43 : decode cX7_stepsBetween 43 = .ok (.istore 4, 2) := by decide +kernel
theorem dX7_stepsBetween_45 : decode cX7_stepsBetween 45 = .ok (.iload 4, 2) := by decide +kernel
theorem dX7_stepsBetween_47 : decode cX7_stepsBetween 47 = .ok (.bipush 10, 2) := by decide +kernel
theorem dX7_stepsBetween_49 : decode cX7_stepsBetween 49 = .ok (.if_icmp .gt 101, 3) := by decide +kernel
theorem dX7_stepsBetween_52 : decode cX7_stepsBetween 52 = .ok (.iconst 0, 1) := by decide +kernel
theorem dX7_stepsBetween_53 : decode cX7_stepsBetween 53 = .ok (.istore 5, 2) := by decide +kernel
theorem dX7_stepsBetween_55 : decode cX7_stepsBetween 55 = .ok (.iload 5, 2) := by decide +kernel
theorem dX7_stepsBetween_57 : decode cX7_stepsBetween 57 = .ok (.aload_n 1, 1) := by decide +kernel
theorem dX7_stepsBetween_58 : decode cX7_stepsBetween 58 = .ok (.getfield 80, 3) := by decide +kernel
theorem dX7_stepsBetween_61 : decode cX7_stepsBetween 61 = .ok (.if_icmp .ge 59, 3) := by decide +kernel
theorem dX7_stepsBetween_64 : decode cX7_stepsBetween 64 = .ok (.iload 5, 2) := by decide +kernel
theorem dX7_stepsBetween_66 : decode cX7_stepsBetween 66 = .ok (.iload_n 2, 1) := by decide +kernel
theorem dX7_stepsBetween_67 : decode cX7_stepsBetween 67 = .ok (.if_icmp .eq 12, 3) := by decide +kernel
theorem dX7_stepsBetween_70 : decode cX7_stepsBetween 70 = .ok (.aload_n 1, 1) := by decide +kernel
theorem dX7_stepsBetween_71 : decode cX7_stepsBetween 71 = .ok (.iload 5, 2) := by decide +kernel
theorem dX7_stepsBetween_73 : decode cX7_stepsBetween 73 = .ok (.invokevirtual 53, 3) := by decide +kernel
theorem dX7_stepsBetween_76 : decode cX7_stepsBetween 76 = .ok (.ifCond .ne 7, 3) := by decide +kernel
theorem dX7_stepsBetween_79 : decode cX7_stepsBetween 79 = .ok (.iconst 1, 1) := by decide +kernel
theorem dX7_stepsBetween_80 : decode cX7_stepsBetween 80 = .ok (.goto 4, 3) := by decide +kernel
theorem dX7_stepsBetween_83 : decode cX7_stepsBetween 83 = .ok (.iconst 0, 1) := by decide +kernel
theorem dX7_stepsBetween_84 : decode cX7_stepsBetween 84 = .ok (.istore 6, 2) := by decide +kernel
theorem dX7_stepsBetween_86 : decode cX7_stepsBetween 86 = .ok (.aload_n 0, 1) := by decide +kernel
theorem dX7_stepsBetween_87 : decode cX7_stepsBetween 87 = .ok (.getfield 21, 3) := by decide +kernel
theorem dX7_stepsBetween_90 : decode cX7_stepsBetween 90 = .ok (.iload 5, 2) := by decide +kernel
theorem dX7_stepsBetween_92 : decode cX7_stepsBetween 92 = .ok (.iaload, 1) := by decide +kernel
theorem dX7_stepsBetween_93 : decode cX7_stepsBetween 93 = .ok (.iload 4, 2) := by decide +kernel
theorem dX7_stepsBetween_95 : decode cX7_stepsBetween 95 = .ok (.iconst 1, 1) := by decide +kernel
theorem dX7_stepsBetween_96 : decode cX7_stepsBetween 96 = .ok (.isub, 1) := by decide +kernel
theorem dX7_stepsBetween_97 : decode cX7_stepsBetween 97 = .ok (.if_icmp .ne 17, 3) := by decide +kernel
theorem dX7_stepsBetween_100 : decode cX7_stepsBetween 100 = .ok (.iload 6, 2) := by decide +kernel
theorem dX7_stepsBetween_102 : decode cX7_stepsBetween 102 = .ok (.ifCond .eq 12, 3) := by decide +kernel
theorem dX7_stepsBetween_105 : decode cX7_stepsBetween 105 = .ok (.aload_n 0, 1) := by decide +kernel
theorem dX7_stepsBetween_106 : decode cX7_stepsBetween 106 = .ok (.aload_n 1, 1) := by decide +kernel
theorem dX7_stepsBetween_107 : decode cX7_stepsBetween 107 = .ok (.iload 5, 2) := by decide +kernel
theorem dX7_stepsBetween_109 : decode cX7_stepsBetween 109 = .ok (.iload 4, 2) := by decide +kernel
theorem dX7_stepsBetween_111 : decode cX7_stepsBetween 111 = .ok (.invokevirtual 83, 3) := by decide +kernel
theorem dX7_stepsBetween_114 : decode cX7_stepsBetween 114 = .ok (.iinc 5 1, 3) := by decide +kernel
theorem dX7_stepsBetween_117 : decode cX7_stepsBetween 117 = .ok (.goto (-62), 3) := by decide +kernel
theorem dX7_stepsBetween_120 : decode cX7_stepsBetween 120 = .ok (.iload_n 3, 1) := by decide +kernel
theorem dX7_stepsBetween_121 : decode cX7_stepsBetween 121 = .ok (.ifCond .lt 23, 3) := by decide +kernel
theorem dX7_stepsBetween_124 : decode cX7_stepsBetween 124 = .ok (.iload_n 3, 1) := by decide +kernel
theorem dX7_stepsBetween_125 : decode cX7_stepsBetween 125 = .ok (.bipush 10, 2) := by decide +kernel
theorem dX7_stepsBetween_127 : decode cX7_stepsBetween 127 = .ok (.if_icmp .ge 17, 3) := by decide +kernel
theorem dX7_stepsBetween_130 : decode cX7_stepsBetween 130 = .ok (.aload_n 0, 1) := by decide +kernel
theorem dX7_stepsBetween_131 : decode cX7_stepsBetween 131 = .ok (.getfield 21, 3) := by decide +kernel
theorem dX7_stepsBetween_134 : decode cX7_stepsBetween 134 = .ok (.iload_n 3, 1) := by decide +kernel
theorem dX7_stepsBetween_135 : decode cX7_stepsBetween 135 = .ok (.iaload, 1) := by decide +kernel
theorem dX7_stepsBetween_136 : decode cX7_stepsBetween 136 = .ok (.iload 4, 2) := by decide +kernel
theorem dX7_stepsBetween_138 : decode cX7_stepsBetween 138 = .ok (.if_icmp .ne 6, 3) := by decide +kernel
theorem dX7_stepsBetween_141 : decode cX7_stepsBetween 141 = .ok (.iload 4, 2) := by decide +kernel
theorem dX7_stepsBetween_143 : decode cX7_stepsBetween 143 = .ok (.ireturn, 1) := by decide +kernel
theorem dX7_stepsBetween_144 : decode cX7_stepsBetween 144 = .ok (.iinc 4 1, 3) := by decide +kernel
theorem dX7_stepsBetween_147 : decode cX7_stepsBetween 147 = .ok (.goto (-102), 3) := by decide +kernel
theorem dX7_stepsBetween_150 : decode cX7_stepsBetween 150 = .ok (.bipush (-3), 2) := by decide +kernel
theorem dX7_stepsBetween_152 : decode cX7_stepsBetween 152 = .ok (.ireturn, 1) := by decide +kernel
theorem dX7_reachFrom_0 : decode cX7_reachFrom 0 = .ok (.iconst 0, 1) := by decide +kernel
theorem dX7_reachFrom_1 : decode cX7_reachFrom 1 = .ok (.istore 4, 2) := by decide +kernel
theorem dX7_reachFrom_3 : decode cX7_reachFrom 3 = .ok (.iload 4, 2) := by decide +kernel
theorem dX7_reachFrom_5 : decode cX7_reachFrom 5 = .ok (.aload_n 1, 1) := by decide +kernel
theorem dX7_reachFrom_6 : decode cX7_reachFrom 6 = .ok (.getfield 61, 3) := by decide +kernel
theorem dX7_reachFrom_9 : decode cX7_reachFrom 9 = .ok (.if_icmp .ge 79, 3) := by decide +kernel
theorem dX7_reachFrom_12 : decode cX7_reachFrom 12 = .ok (.aload_n 1, 1) := by decide +kernel
theorem dX7_reachFrom_13 : decode cX7_reachFrom 13 = .ok (.iload 4, 2) := by decide +kernel
theorem dX7_reachFrom_15 : decode cX7_reachFrom 15 = .ok (.iload_n 2, 1) := by decide +kernel
theorem dX7_reachFrom_16 : decode cX7_reachFrom 16 = .ok (.invokevirtual 87, 3) := by decide +kernel
theorem dX7_reachFrom_19 : decode cX7_reachFrom 19 = .ok (.ifCond .ne 6, 3) := by decide +kernel
theorem dX7_reachFrom_22 : decode cX7_reachFrom 22 = .ok (.goto 60, 3) := by decide +kernel
theorem dX7_reachFrom_25 : decode cX7_reachFrom 25 = .ok (.iconst 0, 1) := by decide +kernel
theorem dX7_reachFrom_26 : decode cX7_reachFrom 26 = .ok (.istore 5, 2) := by decide +kernel
theorem dX7_reachFrom_28 : decode cX7_reachFrom 28 = .ok (.iload 5, 2) := by decide +kernel
theorem dX7_reachFrom_30 : decode cX7_reachFrom 30 = .ok (.iconst 4, 1) := by decide +kernel
theorem dX7_reachFrom_31 : decode cX7_reachFrom 31 = .ok (.if_icmp .ge 51, 3) := by decide +kernel
theorem dX7_reachFrom_34 : decode cX7_reachFrom 34 = .ok (.aload_n 1, 1) := by decide +kernel
theorem dX7_reachFrom_35 : decode cX7_reachFrom 35 = .ok (.iload 4, 2) := by decide +kernel
theorem dX7_reachFrom_37 : decode cX7_reachFrom 37 = .ok (.iload 5, 2) := by decide +kernel
theorem dX7_reachFrom_39 : decode cX7_reachFrom 39 = .ok (.invokevirtual 50, 3) := by decide +kernel
theorem dX7_reachFrom_42 : decode cX7_reachFrom 42 = .ok (.istore 6, 2) := by decide +kernel
theorem dX7_reachFrom_44 : decode cX7_reachFrom 44 = .ok (.iload 6, 2) := by decide +kernel
theorem dX7_reachFrom_46 : decode cX7_reachFrom 46 = .ok (.ifCond .lt 30, 3) := by decide +kernel
theorem dX7_reachFrom_49 : decode cX7_reachFrom 49 = .ok (.iload 6, 2) := by decide +kernel
theorem dX7_reachFrom_51 : decode cX7_reachFrom 51 = .ok (.bipush 10, 2) := by decide +kernel
theorem dX7_reachFrom_53 : decode cX7_reachFrom 53 = .ok (.if_icmp .ge 23, 3) := by decide +kernel
theorem dX7_reachFrom_56 : decode cX7_reachFrom 56 = .ok (.aload_n 0, 1) := by decide +kernel
theorem dX7_reachFrom_57 : decode cX7_reachFrom 57 = .ok (.getfield 21, 3) := by decide +kernel
theorem dX7_reachFrom_60 : decode cX7_reachFrom 60 = .ok (.iload 6, 2) := by decide +kernel
theorem dX7_reachFrom_62 : decode cX7_reachFrom 62 = .ok (.iaload, 1) := by decide +kernel
theorem dX7_reachFrom_63 : decode cX7_reachFrom 63 = .ok (.bipush (-9), 2) := by decide +kernel
theorem dX7_reachFrom_65 : decode cX7_reachFrom 65 = .ok (.if_icmp .ne 11, 3) := by decide +kernel
theorem dX7_reachFrom_68 : decode cX7_reachFrom 68 = .ok (.aload_n 0, 1) := by decide +kernel
theorem dX7_reachFrom_69 : decode cX7_reachFrom 69 = .ok (.getfield 21, 3) := by decide +kernel
theorem dX7_reachFrom_72 : decode cX7_reachFrom 72 = .ok (.iload 6, 2) := by decide +kernel
theorem dX7_reachFrom_74 : decode cX7_reachFrom 74 = .ok (.iload_n 3, 1) := by decide +kernel
theorem dX7_reachFrom_75 : decode cX7_reachFrom 75 = .ok (.iastore, 1) := by decide +kernel
theorem dX7_reachFrom_76 : decode cX7_reachFrom 76 = .ok (.iinc 5 1, 3) := by decide +kernel
theorem dX7_reachFrom_79 : decode cX7_reachFrom 79 = .ok (.goto (-51), 3) := by decide +kernel
theorem dX7_reachFrom_82 : decode cX7_reachFrom 82 = .ok (.iinc 4 1, 3) := by decide +kernel
theorem dX7_reachFrom_85 : decode cX7_reachFrom 85 = .ok (.goto (-82), 3) := by decide +kernel
theorem dX7_reachFrom_88 : decode cX7_reachFrom 88 = .ok (.return_, 1) := by decide +kernel
theorem dX7_scoreSets_0 : decode cX7_scoreSets 0 = .ok (.aload_n 0, 1) := by decide +kernel
theorem dX7_scoreSets_1 : decode cX7_scoreSets 1 = .ok (.aload_n 1, 1) := by decide +kernel
theorem dX7_scoreSets_2 : decode cX7_scoreSets 2 = .ok (.iload_n 2, 1) := by decide +kernel
theorem dX7_scoreSets_3 : decode cX7_scoreSets 3 = .ok (.invokevirtual 69, 3) := by decide +kernel
theorem dX7_scoreSets_6 : decode cX7_scoreSets 6 = .ok (.aload_n 1, 1) := by decide +kernel
theorem dX7_scoreSets_7 : decode cX7_scoreSets 7 = .ok (.iconst 4, 1) := by decide +kernel
theorem dX7_scoreSets_8 : decode cX7_scoreSets 8 = .ok (.invokevirtual 57, 3) := by decide +kernel
theorem dX7_scoreSets_11 : decode cX7_scoreSets 11 = .ok (.istore_n 3, 1) := by decide +kernel
theorem dX7_scoreSets_12 : decode cX7_scoreSets 12 = .ok (.aload_n 0, 1) := by decide +kernel
theorem dX7_scoreSets_13 : decode cX7_scoreSets 13 = .ok (.getfield 15, 3) := by decide +kernel
theorem dX7_scoreSets_16 : decode cX7_scoreSets 16 = .ok (.iconst 0, 1) := by decide +kernel
theorem dX7_scoreSets_17 : decode cX7_scoreSets 17 = .ok (.iconst 0, 1) := by decide +kernel
theorem dX7_scoreSets_18 : decode cX7_scoreSets 18 = .ok (.iastore, 1) := by decide +kernel
theorem dX7_scoreSets_19 : decode cX7_scoreSets 19 = .ok (.iconst 0, 1) := by decide +kernel
theorem dX7_scoreSets_20 : decode cX7_scoreSets 20 = .ok (.istore 4, 2) := by decide +kernel
theorem dX7_scoreSets_22 : decode cX7_scoreSets 22 = .ok (.iload 4, 2) := by decide +kernel
theorem dX7_scoreSets_24 : decode cX7_scoreSets 24 = .ok (.aload_n 1, 1) := by decide +kernel
theorem dX7_scoreSets_25 : decode cX7_scoreSets 25 = .ok (.getfield 61, 3) := by decide +kernel
theorem dX7_scoreSets_28 : decode cX7_scoreSets 28 = .ok (.if_icmp .ge 57, 3) := by decide +kernel
theorem dX7_scoreSets_31 : decode cX7_scoreSets 31 = .ok (.iconst 0, 1) := by decide +kernel
theorem dX7_scoreSets_32 : decode cX7_scoreSets 32 = .ok (.istore 5, 2) := by decide +kernel
theorem dX7_scoreSets_34 : decode cX7_scoreSets 34 = .ok (.iload 5, 2) := by decide +kernel
theorem dX7_scoreSets_36 : decode cX7_scoreSets 36 = .ok (.iconst 1, 1) := by decide +kernel
theorem dX7_scoreSets_37 : decode cX7_scoreSets 37 = .ok (.iload 4, 2) := by decide +kernel
theorem dX7_scoreSets_39 : decode cX7_scoreSets 39 = .ok (.ishl, 1) := by decide +kernel
theorem dX7_scoreSets_40 : decode cX7_scoreSets 40 = .ok (.if_icmp .ge 39, 3) := by decide +kernel
theorem dX7_scoreSets_43 : decode cX7_scoreSets 43 = .ok (.aload_n 0, 1) := by decide +kernel
theorem dX7_scoreSets_44 : decode cX7_scoreSets 44 = .ok (.getfield 15, 3) := by decide +kernel
theorem dX7_scoreSets_47 : decode cX7_scoreSets 47 = .ok (.iload 5, 2) := by decide +kernel
theorem dX7_scoreSets_49 : decode cX7_scoreSets 49 = .ok (.iconst 1, 1) := by decide +kernel
theorem dX7_scoreSets_50 : decode cX7_scoreSets 50 = .ok (.iload 4, 2) := by decide +kernel
theorem dX7_scoreSets_52 : decode cX7_scoreSets 52 = .ok (.ishl, 1) := by decide +kernel
theorem dX7_scoreSets_53 : decode cX7_scoreSets 53 = .ok (.ior, 1) := by decide +kernel
theorem dX7_scoreSets_54 : decode cX7_scoreSets 54 = .ok (.aload_n 0, 1) := by decide +kernel
theorem dX7_scoreSets_55 : decode cX7_scoreSets 55 = .ok (.getfield 15, 3) := by decide +kernel
theorem dX7_scoreSets_58 : decode cX7_scoreSets 58 = .ok (.iload 5, 2) := by decide +kernel
theorem dX7_scoreSets_60 : decode cX7_scoreSets 60 = .ok (.iaload, 1) := by decide +kernel
theorem dX7_scoreSets_61 : decode cX7_scoreSets 61 = .ok (.aload_n 0, 1) := by decide +kernel
theorem dX7_scoreSets_62 : decode cX7_scoreSets 62 = .ok (.iload 4, 2) := by decide +kernel
theorem dX7_scoreSets_64 : decode cX7_scoreSets 64 = .ok (.iload 5, 2) := by decide +kernel
theorem dX7_scoreSets_66 : decode cX7_scoreSets 66 = .ok (.invokevirtual 91, 3) := by decide +kernel
theorem dX7_scoreSets_69 : decode cX7_scoreSets 69 = .ok (.iadd, 1) := by decide +kernel
theorem dX7_scoreSets_70 : decode cX7_scoreSets 70 = .ok (.iload_n 3, 1) := by decide +kernel
theorem dX7_scoreSets_71 : decode cX7_scoreSets 71 = .ok (.isub, 1) := by decide +kernel
theorem dX7_scoreSets_72 : decode cX7_scoreSets 72 = .ok (.iastore, 1) := by decide +kernel
theorem dX7_scoreSets_73 : decode cX7_scoreSets 73 = .ok (.iinc 5 1, 3) := by decide +kernel
theorem dX7_scoreSets_76 : decode cX7_scoreSets 76 = .ok (.goto (-42), 3) := by decide +kernel
theorem dX7_scoreSets_79 : decode cX7_scoreSets 79 = .ok (.iinc 4 1, 3) := by decide +kernel
theorem dX7_scoreSets_82 : decode cX7_scoreSets 82 = .ok (.goto (-60), 3) := by decide +kernel
theorem dX7_scoreSets_85 : decode cX7_scoreSets 85 = .ok (.return_, 1) := by decide +kernel
theorem dX7_bonds_0 : decode cX7_bonds 0 = .ok (.iconst 0, 1) := by decide +kernel
theorem dX7_bonds_1 : decode cX7_bonds 1 = .ok (.istore_n 3, 1) := by decide +kernel
theorem dX7_bonds_2 : decode cX7_bonds 2 = .ok (.iconst 0, 1) := by decide +kernel
theorem dX7_bonds_3 : decode cX7_bonds 3 = .ok (.istore 4, 2) := by decide +kernel
theorem dX7_bonds_5 : decode cX7_bonds 5 = .ok (.iload 4, 2) := by decide +kernel
theorem dX7_bonds_7 : decode cX7_bonds 7 = .ok (.iload_n 1, 1) := by decide +kernel
theorem dX7_bonds_8 : decode cX7_bonds 8 = .ok (.if_icmp .ge 28, 3) := by decide +kernel
theorem dX7_bonds_11 : decode cX7_bonds 11 = .ok (.iload_n 2, 1) := by decide +kernel
theorem dX7_bonds_12 : decode cX7_bonds 12 = .ok (.iload 4, 2) := by decide +kernel
theorem dX7_bonds_14 : decode cX7_bonds 14 = .ok (.ishr, 1) := by decide +kernel
theorem dX7_bonds_15 : decode cX7_bonds 15 = .ok (.iconst 1, 1) := by decide +kernel
theorem dX7_bonds_16 : decode cX7_bonds 16 = .ok (.iand, 1) := by decide +kernel
theorem dX7_bonds_17 : decode cX7_bonds 17 = .ok (.ifCond .eq 13, 3) := by decide +kernel
theorem dX7_bonds_20 : decode cX7_bonds 20 = .ok (.iload_n 3, 1) := by decide +kernel
theorem dX7_bonds_21 : decode cX7_bonds 21 = .ok (.aload_n 0, 1) := by decide +kernel
theorem dX7_bonds_22 : decode cX7_bonds 22 = .ok (.iload 4, 2) := by decide +kernel
theorem dX7_bonds_24 : decode cX7_bonds 24 = .ok (.iload_n 1, 1) := by decide +kernel
theorem dX7_bonds_25 : decode cX7_bonds 25 = .ok (.invokevirtual 77, 3) := by decide +kernel
theorem dX7_bonds_28 : decode cX7_bonds 28 = .ok (.iadd, 1) := by decide +kernel
theorem dX7_bonds_29 : decode cX7_bonds 29 = .ok (.istore_n 3, 1) := by decide +kernel
theorem dX7_bonds_30 : decode cX7_bonds 30 = .ok (.iinc 4 1, 3) := by decide +kernel
theorem dX7_bonds_33 : decode cX7_bonds 33 = .ok (.goto (-28), 3) := by decide +kernel
theorem dX7_bonds_36 : decode cX7_bonds 36 = .ok (.iload_n 3, 1) := by decide +kernel
theorem dX7_bonds_37 : decode cX7_bonds 37 = .ok (.ireturn, 1) := by decide +kernel
theorem dX7_scoreOf_0 : decode cX7_scoreOf 0 = .ok (.iload_n 1, 1) := by decide +kernel
theorem dX7_scoreOf_1 : decode cX7_scoreOf 1 = .ok (.ifCond .lt 19, 3) := by decide +kernel
theorem dX7_scoreOf_4 : decode cX7_scoreOf 4 = .ok (.iload_n 1, 1) := by decide +kernel
theorem dX7_scoreOf_5 : decode cX7_scoreOf 5 = .ok (.sipush 512, 3) := by decide +kernel
theorem dX7_scoreOf_8 : decode cX7_scoreOf 8 = .ok (.if_icmp .ge 12, 3) := by decide +kernel
theorem dX7_scoreOf_11 : decode cX7_scoreOf 11 = .ok (.aload_n 0, 1) := by decide +kernel
theorem dX7_scoreOf_12 : decode cX7_scoreOf 12 = .ok (.getfield 15, 3) := by decide +kernel
theorem dX7_scoreOf_15 : decode cX7_scoreOf 15 = .ok (.iload_n 1, 1) := by decide +kernel
theorem dX7_scoreOf_16 : decode cX7_scoreOf 16 = .ok (.iaload, 1) := by decide +kernel
theorem dX7_scoreOf_17 : decode cX7_scoreOf 17 = .ok (.goto 4, 3) := by decide +kernel
theorem dX7_scoreOf_20 : decode cX7_scoreOf 20 = .ok (.iconst 0, 1) := by decide +kernel
theorem dX7_scoreOf_21 : decode cX7_scoreOf 21 = .ok (.ireturn, 1) := by decide +kernel
theorem dX7_findLot_0 : decode cX7_findLot 0 = .ok (.aload_n 1, 1) := by decide +kernel
theorem dX7_findLot_1 : decode cX7_findLot 1 = .ok (.getfield 61, 3) := by decide +kernel
theorem dX7_findLot_4 : decode cX7_findLot 4 = .ok (.iconst 2, 1) := by decide +kernel
theorem dX7_findLot_5 : decode cX7_findLot 5 = .ok (.if_icmp .ge 6, 3) := by decide +kernel
theorem dX7_findLot_8 : decode cX7_findLot 8 = .ok (.bipush (-3), 2) := by decide +kernel
theorem dX7_findLot_10 : decode cX7_findLot 10 = .ok (.ireturn, 1) := by decide +kernel
theorem dX7_findLot_11 : decode cX7_findLot 11 = .ok (.aload_n 0, 1) := by decide +kernel
theorem dX7_findLot_12 : decode cX7_findLot 12 = .ok (.aload_n 1, 1) := by decide +kernel
theorem dX7_findLot_13 : decode cX7_findLot 13 = .ok (.iload_n 2, 1) := by decide +kernel
theorem dX7_findLot_14 : decode cX7_findLot 14 = .ok (.invokevirtual 94, 3) := by decide +kernel
theorem dX7_findLot_17 : decode cX7_findLot 17 = .ok (.iconst 3, 1) := by decide +kernel
theorem dX7_findLot_18 : decode cX7_findLot 18 = .ok (.istore_n 3, 1) := by decide +kernel
theorem dX7_findLot_19 : decode cX7_findLot 19 = .ok (.iconst 4, 1) := by decide +kernel
theorem dX7_findLot_20 : decode cX7_findLot 20 = .ok (.istore 4, 2) := by decide +kernel
theorem dX7_findLot_22 : decode cX7_findLot 22 = .ok (.iload 4, 2) := by decide +kernel
theorem dX7_findLot_24 : decode cX7_findLot 24 = .ok (.aload_n 1, 1) := by decide +kernel
theorem dX7_findLot_25 : decode cX7_findLot 25 = .ok (.invokevirtual 97, 3) := by decide +kernel
theorem dX7_findLot_28 : decode cX7_findLot 28 = .ok (.if_icmp .gt 31, 3) := by decide +kernel
theorem dX7_findLot_31 : decode cX7_findLot 31 = .ok (.iload 4, 2) := by decide +kernel
theorem dX7_findLot_33 : decode cX7_findLot 33 = .ok (.invokestatic 101, 3) := by decide +kernel
theorem dX7_findLot_36 : decode cX7_findLot 36 = .ok (.iconst 2, 1) := by decide +kernel
theorem dX7_findLot_37 : decode cX7_findLot 37 = .ok (.if_icmp .lt 16, 3) := by decide +kernel
theorem dX7_findLot_40 : decode cX7_findLot 40 = .ok (.aload_n 0, 1) := by decide +kernel
theorem dX7_findLot_41 : decode cX7_findLot 41 = .ok (.iload 4, 2) := by decide +kernel
theorem dX7_findLot_43 : decode cX7_findLot 43 = .ok (.iload_n 3, 1) := by decide +kernel
theorem dX7_findLot_44 : decode cX7_findLot 44 = .ok (.invokevirtual 106, 3) := by decide +kernel
theorem dX7_findLot_47 : decode cX7_findLot 47 = .ok (.ifCond .eq 6, 3) := by decide +kernel
theorem dX7_findLot_50 : decode cX7_findLot 50 = .ok (.iload 4, 2) := by decide +kernel
theorem dX7_findLot_52 : decode cX7_findLot 52 = .ok (.istore_n 3, 1) := by decide +kernel
theorem dX7_findLot_53 : decode cX7_findLot 53 = .ok (.iinc 4 1, 3) := by decide +kernel
theorem dX7_findLot_56 : decode cX7_findLot 56 = .ok (.goto (-34), 3) := by decide +kernel
theorem dX7_findLot_59 : decode cX7_findLot 59 = .ok (.iload_n 3, 1) := by decide +kernel
theorem dX7_findLot_60 : decode cX7_findLot 60 = .ok (.ireturn, 1) := by decide +kernel
theorem dX7_isBetterLot_0 : decode cX7_isBetterLot 0 = .ok (.aload_n 0, 1) := by decide +kernel
theorem dX7_isBetterLot_1 : decode cX7_isBetterLot 1 = .ok (.iload_n 1, 1) := by decide +kernel
theorem dX7_isBetterLot_2 : decode cX7_isBetterLot 2 = .ok (.invokevirtual 109, 3) := by decide +kernel
theorem dX7_isBetterLot_5 : decode cX7_isBetterLot 5 = .ok (.aload_n 0, 1) := by decide +kernel
theorem dX7_isBetterLot_6 : decode cX7_isBetterLot 6 = .ok (.iload_n 2, 1) := by decide +kernel
theorem dX7_isBetterLot_7 : decode cX7_isBetterLot 7 = .ok (.invokevirtual 109, 3) := by decide +kernel
theorem dX7_isBetterLot_10 : decode cX7_isBetterLot 10 = .ok (.if_icmp .eq 22, 3) := by decide +kernel
theorem dX7_isBetterLot_13 : decode cX7_isBetterLot 13 = .ok (.aload_n 0, 1) := by decide +kernel
theorem dX7_isBetterLot_14 : decode cX7_isBetterLot 14 = .ok (.iload_n 1, 1) := by decide +kernel
theorem dX7_isBetterLot_15 : decode cX7_isBetterLot 15 = .ok (.invokevirtual 109, 3) := by decide +kernel
theorem dX7_isBetterLot_18 : decode cX7_isBetterLot 18 = .ok (.aload_n 0, 1) := by decide +kernel
theorem dX7_isBetterLot_19 : decode cX7_isBetterLot 19 = .ok (.iload_n 2, 1) := by decide +kernel
theorem dX7_isBetterLot_20 : decode cX7_isBetterLot 20 = .ok (.invokevirtual 109, 3) := by decide +kernel
theorem dX7_isBetterLot_23 : decode cX7_isBetterLot 23 = .ok (.if_icmp .le 7, 3) := by decide +kernel
theorem dX7_isBetterLot_26 : decode cX7_isBetterLot 26 = .ok (.iconst 1, 1) := by decide +kernel
theorem dX7_isBetterLot_27 : decode cX7_isBetterLot 27 = .ok (.goto 4, 3) := by decide +kernel
theorem dX7_isBetterLot_30 : decode cX7_isBetterLot 30 = .ok (.iconst 0, 1) := by decide +kernel
theorem dX7_isBetterLot_31 : decode cX7_isBetterLot 31 = .ok (.ireturn, 1) := by decide +kernel
theorem dX7_isBetterLot_32 : decode cX7_isBetterLot 32 = .ok (.iload_n 1, 1) := by decide +kernel
theorem dX7_isBetterLot_33 : decode cX7_isBetterLot 33 = .ok (.invokestatic 101, 3) := by decide +kernel
theorem dX7_isBetterLot_36 : decode cX7_isBetterLot 36 = .ok (.iload_n 2, 1) := by decide +kernel
theorem dX7_isBetterLot_37 : decode cX7_isBetterLot 37 = .ok (.invokestatic 101, 3) := by decide +kernel
theorem dX7_isBetterLot_40 : decode cX7_isBetterLot 40 = .ok (.if_icmp .ge 7, 3) := by decide +kernel
theorem dX7_isBetterLot_43 : decode cX7_isBetterLot 43 = .ok (.iconst 1, 1) := by decide +kernel
theorem dX7_isBetterLot_44 : decode cX7_isBetterLot 44 = .ok (.goto 4, 3) := by decide +kernel
theorem dX7_isBetterLot_47 : decode cX7_isBetterLot 47 = .ok (.iconst 0, 1) := by decide +kernel
theorem dX7_isBetterLot_48 : decode cX7_isBetterLot 48 = .ok (.ireturn, 1) := by decide +kernel
theorem dX7_firstDay_0 : decode cX7_firstDay 0 = .ok (.aload_n 0, 1) := by decide +kernel
theorem dX7_firstDay_1 : decode cX7_firstDay 1 = .ok (.aload_n 1, 1) := by decide +kernel
theorem dX7_firstDay_2 : decode cX7_firstDay 2 = .ok (.iconst (-1), 1) := by decide +kernel
theorem dX7_firstDay_3 : decode cX7_firstDay 3 = .ok (.invokevirtual 94, 3) := by decide +kernel
theorem dX7_firstDay_6 : decode cX7_firstDay 6 = .ok (.bipush (-3), 2) := by decide +kernel
theorem dX7_firstDay_8 : decode cX7_firstDay 8 = .ok (.istore_n 3, 1) := by decide +kernel
theorem dX7_firstDay_9 : decode cX7_firstDay 9 = .ok (.iconst 3, 1) := by decide +kernel
theorem dX7_firstDay_10 : decode cX7_firstDay 10 = .ok (.istore 4, 2) := by decide +kernel
theorem dX7_firstDay_12 : decode cX7_firstDay 12 = .ok (.iload 4, 2) := by decide +kernel
theorem dX7_firstDay_14 : decode cX7_firstDay 14 = .ok (.aload_n 1, 1) := by decide +kernel
theorem dX7_firstDay_15 : decode cX7_firstDay 15 = .ok (.invokevirtual 97, 3) := by decide +kernel
theorem dX7_firstDay_18 : decode cX7_firstDay 18 = .ok (.if_icmp .gt 54, 3) := by decide +kernel
theorem dX7_firstDay_21 : decode cX7_firstDay 21 = .ok (.iload 4, 2) := by decide +kernel
theorem dX7_firstDay_23 : decode cX7_firstDay 23 = .ok (.invokestatic 101, 3) := by decide +kernel
theorem dX7_firstDay_26 : decode cX7_firstDay 26 = .ok (.iconst 2, 1) := by decide +kernel
theorem dX7_firstDay_27 : decode cX7_firstDay 27 = .ok (.if_icmp .lt 39, 3) := by decide +kernel
theorem dX7_firstDay_30 : decode cX7_firstDay 30 = .ok (.aload_n 0, 1) := by decide +kernel
theorem dX7_firstDay_31 : decode cX7_firstDay 31 = .ok (.iload 4, 2) := by decide +kernel
theorem dX7_firstDay_33 : decode cX7_firstDay 33 = .ok (.invokevirtual 109, 3) := by decide +kernel
theorem dX7_firstDay_36 : decode cX7_firstDay 36 = .ok (.iload_n 2, 1) := by decide +kernel
theorem dX7_firstDay_37 : decode cX7_firstDay 37 = .ok (.if_icmp .ge 6, 3) := by decide +kernel
theorem dX7_firstDay_40 : decode cX7_firstDay 40 = .ok (.goto 26, 3) := by decide +kernel
theorem dX7_firstDay_43 : decode cX7_firstDay 43 = .ok (.aload_n 1, 1) := by decide +kernel
theorem dX7_firstDay_44 : decode cX7_firstDay 44 = .ok (.iload 4, 2) := by decide +kernel
theorem dX7_firstDay_46 : decode cX7_firstDay 46 = .ok (.invokestatic 112, 3) := by decide +kernel
theorem dX7_firstDay_49 : decode cX7_firstDay 49 = .ok (.istore 5, 2) := by decide +kernel
theorem dX7_firstDay_51 : decode cX7_firstDay 51 = .ok (.iload_n 3, 1) := by decide +kernel
theorem dX7_firstDay_52 : decode cX7_firstDay 52 = .ok (.bipush (-3), 2) := by decide +kernel
theorem dX7_firstDay_54 : decode cX7_firstDay 54 = .ok (.if_icmp .eq 9, 3) := by decide +kernel
theorem dX7_firstDay_57 : decode cX7_firstDay 57 = .ok (.iload 5, 2) := by decide +kernel
theorem dX7_firstDay_59 : decode cX7_firstDay 59 = .ok (.iload_n 3, 1) := by decide +kernel
theorem dX7_firstDay_60 : decode cX7_firstDay 60 = .ok (.if_icmp .ge 6, 3) := by decide +kernel
theorem dX7_firstDay_63 : decode cX7_firstDay 63 = .ok (.iload 5, 2) := by decide +kernel
theorem dX7_firstDay_65 : decode cX7_firstDay 65 = .ok (.istore_n 3, 1) := by decide +kernel
theorem dX7_firstDay_66 : decode cX7_firstDay 66 = .ok (.iinc 4 1, 3) := by decide +kernel
theorem dX7_firstDay_69 : decode cX7_firstDay 69 = .ok (.goto (-57), 3) := by decide +kernel
theorem dX7_firstDay_72 : decode cX7_firstDay 72 = .ok (.iload_n 3, 1) := by decide +kernel
theorem dX7_firstDay_73 : decode cX7_firstDay 73 = .ok (.ireturn, 1) := by decide +kernel
theorem dX7_lastDay_0 : decode cX7_lastDay 0 = .ok (.iconst 0, 1) := by decide +kernel
theorem dX7_lastDay_1 : decode cX7_lastDay 1 = .ok (.istore_n 2, 1) := by decide +kernel
theorem dX7_lastDay_2 : decode cX7_lastDay 2 = .ok (.iconst 0, 1) := by decide +kernel
theorem dX7_lastDay_3 : decode cX7_lastDay 3 = .ok (.istore_n 3, 1) := by decide +kernel
theorem dX7_lastDay_4 : decode cX7_lastDay 4 = .ok (.iload_n 3, 1) := by decide +kernel
theorem dX7_lastDay_5 : decode cX7_lastDay 5 = .ok (.aload_n 0, 1) := by decide +kernel
theorem dX7_lastDay_6 : decode cX7_lastDay 6 = .ok (.getfield 61, 3) := by decide +kernel
theorem dX7_lastDay_9 : decode cX7_lastDay 9 = .ok (.if_icmp .ge 28, 3) := by decide +kernel
theorem dX7_lastDay_12 : decode cX7_lastDay 12 = .ok (.iload_n 1, 1) := by decide +kernel
theorem dX7_lastDay_13 : decode cX7_lastDay 13 = .ok (.iload_n 3, 1) := by decide +kernel
theorem dX7_lastDay_14 : decode cX7_lastDay 14 = .ok (.ishr, 1) := by decide +kernel
theorem dX7_lastDay_15 : decode cX7_lastDay 15 = .ok (.iconst 1, 1) := by decide +kernel
theorem dX7_lastDay_16 : decode cX7_lastDay 16 = .ok (.iand, 1) := by decide +kernel
theorem dX7_lastDay_17 : decode cX7_lastDay 17 = .ok (.ifCond .eq 14, 3) := by decide +kernel
theorem dX7_lastDay_20 : decode cX7_lastDay 20 = .ok (.iload_n 2, 1) := by decide +kernel
theorem dX7_lastDay_21 : decode cX7_lastDay 21 = .ok (.aload_n 0, 1) := by decide +kernel
theorem dX7_lastDay_22 : decode cX7_lastDay 22 = .ok (.iload_n 3, 1) := by decide +kernel
theorem dX7_lastDay_23 : decode cX7_lastDay 23 = .ok (.iconst 1, 1) := by decide +kernel
theorem dX7_lastDay_24 : decode cX7_lastDay 24 = .ok (.invokevirtual 37, 3) := by decide +kernel
theorem dX7_lastDay_27 : decode cX7_lastDay 27 = .ok (.invokestatic 30, 3) := by decide +kernel
theorem dX7_lastDay_30 : decode cX7_lastDay 30 = .ok (.istore_n 2, 1) := by decide +kernel
theorem dX7_lastDay_31 : decode cX7_lastDay 31 = .ok (.iinc 3 1, 3) := by decide +kernel
theorem dX7_lastDay_34 : decode cX7_lastDay 34 = .ok (.goto (-30), 3) := by decide +kernel
theorem dX7_lastDay_37 : decode cX7_lastDay 37 = .ok (.iload_n 2, 1) := by decide +kernel
theorem dX7_lastDay_38 : decode cX7_lastDay 38 = .ok (.ireturn, 1) := by decide +kernel
theorem dX7_likelihood_0 : decode cX7_likelihood 0 = .ok (.iconst 0, 1) := by decide +kernel
theorem dX7_likelihood_1 : decode cX7_likelihood 1 = .ok (.istore_n 3, 1) := by decide +kernel
theorem dX7_likelihood_2 : decode cX7_likelihood 2 = .ok (.iconst 0, 1) := by decide +kernel
theorem dX7_likelihood_3 : decode cX7_likelihood 3 = .ok (.istore 4, 2) := by decide +kernel
theorem dX7_likelihood_5 : decode cX7_likelihood 5 = .ok (.iload 4, 2) := by decide +kernel
theorem dX7_likelihood_7 : decode cX7_likelihood 7 = .ok (.aload_n 1, 1) := by decide +kernel
theorem dX7_likelihood_8 : decode cX7_likelihood 8 = .ok (.getfield 61, 3) := by decide +kernel
theorem dX7_likelihood_11 : decode cX7_likelihood 11 = .ok (.if_icmp .ge 27, 3) := by decide +kernel
theorem dX7_likelihood_14 : decode cX7_likelihood 14 = .ok (.iload 4, 2) := by decide +kernel
theorem dX7_likelihood_16 : decode cX7_likelihood 16 = .ok (.iload_n 2, 1) := by decide +kernel
theorem dX7_likelihood_17 : decode cX7_likelihood 17 = .ok (.if_icmp .eq 15, 3) := by decide +kernel
theorem dX7_likelihood_20 : decode cX7_likelihood 20 = .ok (.iload_n 3, 1) := by decide +kernel
theorem dX7_likelihood_21 : decode cX7_likelihood 21 = .ok (.aload_n 0, 1) := by decide +kernel
theorem dX7_likelihood_22 : decode cX7_likelihood 22 = .ok (.aload_n 1, 1) := by decide +kernel
theorem dX7_likelihood_23 : decode cX7_likelihood 23 = .ok (.iload_n 2, 1) := by decide +kernel
theorem dX7_likelihood_24 : decode cX7_likelihood 24 = .ok (.iload 4, 2) := by decide +kernel
theorem dX7_likelihood_26 : decode cX7_likelihood 26 = .ok (.iconst (-1), 1) := by decide +kernel
theorem dX7_likelihood_27 : decode cX7_likelihood 27 = .ok (.invokevirtual 65, 3) := by decide +kernel
theorem dX7_likelihood_30 : decode cX7_likelihood 30 = .ok (.iadd, 1) := by decide +kernel
theorem dX7_likelihood_31 : decode cX7_likelihood 31 = .ok (.istore_n 3, 1) := by decide +kernel
theorem dX7_likelihood_32 : decode cX7_likelihood 32 = .ok (.iinc 4 1, 3) := by decide +kernel
theorem dX7_likelihood_35 : decode cX7_likelihood 35 = .ok (.goto (-30), 3) := by decide +kernel
theorem dX7_likelihood_38 : decode cX7_likelihood 38 = .ok (.iload_n 3, 1) := by decide +kernel
theorem dX7_likelihood_39 : decode cX7_likelihood 39 = .ok (.bipush 9, 2) := by decide +kernel
theorem dX7_likelihood_41 : decode cX7_likelihood 41 = .ok (.invokestatic 24, 3) := by decide +kernel
theorem dX7_likelihood_44 : decode cX7_likelihood 44 = .ok (.ireturn, 1) := by decide +kernel
theorem dX7_findAsked_0 : decode cX7_findAsked 0 = .ok (.aload_n 0, 1) := by decide +kernel
theorem dX7_findAsked_1 : decode cX7_findAsked 1 = .ok (.getfield 15, 3) := by decide +kernel
theorem dX7_findAsked_4 : decode cX7_findAsked 4 = .ok (.iconst 0, 1) := by decide +kernel
theorem dX7_findAsked_5 : decode cX7_findAsked 5 = .ok (.iconst 0, 1) := by decide +kernel
theorem dX7_findAsked_6 : decode cX7_findAsked 6 = .ok (.iastore, 1) := by decide +kernel
theorem dX7_findAsked_7 : decode cX7_findAsked 7 = .ok (.aload_n 0, 1) := by decide +kernel
theorem dX7_findAsked_8 : decode cX7_findAsked 8 = .ok (.getfield 18, 3) := by decide +kernel
theorem dX7_findAsked_11 : decode cX7_findAsked 11 = .ok (.iconst 0, 1) := by decide +kernel
theorem dX7_findAsked_12 : decode cX7_findAsked 12 = .ok (.iconst 0, 1) := by decide +kernel
theorem dX7_findAsked_13 : decode cX7_findAsked 13 = .ok (.iastore, 1) := by decide +kernel
theorem dX7_findAsked_14 : decode cX7_findAsked 14 = .ok (.iconst 0, 1) := by decide +kernel
theorem dX7_findAsked_15 : decode cX7_findAsked 15 = .ok (.istore_n 2, 1) := by decide +kernel
theorem dX7_findAsked_16 : decode cX7_findAsked 16 = .ok (.iload_n 2, 1) := by decide +kernel
theorem dX7_findAsked_17 : decode cX7_findAsked 17 = .ok (.aload_n 1, 1) := by decide +kernel
theorem dX7_findAsked_18 : decode cX7_findAsked 18 = .ok (.getfield 61, 3) := by decide +kernel
theorem dX7_findAsked_21 : decode cX7_findAsked 21 = .ok (.if_icmp .ge 106, 3) := by decide +kernel
theorem dX7_findAsked_24 : decode cX7_findAsked 24 = .ok (.aload_n 0, 1) := by decide +kernel
theorem dX7_findAsked_25 : decode cX7_findAsked 25 = .ok (.aload_n 1, 1) := by decide +kernel
theorem dX7_findAsked_26 : decode cX7_findAsked 26 = .ok (.iload_n 2, 1) := by decide +kernel
theorem dX7_findAsked_27 : decode cX7_findAsked 27 = .ok (.invokevirtual 115, 3) := by decide +kernel
theorem dX7_findAsked_30 : decode cX7_findAsked 30 = .ok (.istore_n 3, 1) := by decide +kernel
theorem dX7_findAsked_31 : decode cX7_findAsked 31 = .ok (.iload_n 3, 1) := by decide +kernel
theorem dX7_findAsked_32 : decode cX7_findAsked 32 = .ok (.aload_n 1, 1) := by decide +kernel
theorem dX7_findAsked_33 : decode cX7_findAsked 33 = .ok (.iload_n 2, 1) := by decide +kernel
theorem dX7_findAsked_34 : decode cX7_findAsked 34 = .ok (.iconst 4, 1) := by decide +kernel
theorem dX7_findAsked_35 : decode cX7_findAsked 35 = .ok (.invokevirtual 37, 3) := by decide +kernel
theorem dX7_findAsked_38 : decode cX7_findAsked 38 = .ok (.imul, 1) := by decide +kernel
theorem dX7_findAsked_39 : decode cX7_findAsked 39 = .ok (.aload_n 1, 1) := by decide +kernel
theorem dX7_findAsked_40 : decode cX7_findAsked 40 = .ok (.bipush 6, 2) := by decide +kernel
theorem dX7_findAsked_42 : decode cX7_findAsked 42 = .ok (.invokevirtual 57, 3) := by decide +kernel
theorem dX7_findAsked_45 : decode cX7_findAsked 45 = .ok (.bipush 10, 2) := by decide +kernel
theorem dX7_findAsked_47 : decode cX7_findAsked 47 = .ok (.iload_n 3, 1) := by decide +kernel
theorem dX7_findAsked_48 : decode cX7_findAsked 48 = .ok (.isub, 1) := by decide +kernel
theorem dX7_findAsked_49 : decode cX7_findAsked 49 = .ok (.imul, 1) := by decide +kernel
theorem dX7_findAsked_50 : decode cX7_findAsked 50 = .ok (.isub, 1) := by decide +kernel
theorem dX7_findAsked_51 : decode cX7_findAsked 51 = .ok (.istore 4, 2) := by decide +kernel
theorem dX7_findAsked_53 : decode cX7_findAsked 53 = .ok (.iconst 1, 1) := by decide +kernel
theorem dX7_findAsked_54 : decode cX7_findAsked 54 = .ok (.aload_n 1, 1) := by decide +kernel
theorem dX7_findAsked_55 : decode cX7_findAsked 55 = .ok (.iload_n 2, 1) := by decide +kernel
theorem dX7_findAsked_56 : decode cX7_findAsked 56 = .ok (.invokevirtual 118, 3) := by decide +kernel
theorem dX7_findAsked_59 : decode cX7_findAsked 59 = .ok (.iadd, 1) := by decide +kernel
theorem dX7_findAsked_60 : decode cX7_findAsked 60 = .ok (.istore 5, 2) := by decide +kernel
theorem dX7_findAsked_62 : decode cX7_findAsked 62 = .ok (.iconst 0, 1) := by decide +kernel
theorem dX7_findAsked_63 : decode cX7_findAsked 63 = .ok (.istore 6, 2) := by decide +kernel
theorem dX7_findAsked_65 : decode cX7_findAsked 65 = .ok (.iload 6, 2) := by decide +kernel
theorem dX7_findAsked_67 : decode cX7_findAsked 67 = .ok (.iconst 1, 1) := by decide +kernel
theorem dX7_findAsked_68 : decode cX7_findAsked 68 = .ok (.iload_n 2, 1) := by decide +kernel
theorem dX7_findAsked_69 : decode cX7_findAsked 69 = .ok (.ishl, 1) := by decide +kernel
theorem dX7_findAsked_70 : decode cX7_findAsked 70 = .ok (.if_icmp .ge 51, 3) := by decide +kernel
theorem dX7_findAsked_73 : decode cX7_findAsked 73 = .ok (.aload_n 0, 1) := by decide +kernel
theorem dX7_findAsked_74 : decode cX7_findAsked 74 = .ok (.getfield 15, 3) := by decide +kernel
theorem dX7_findAsked_77 : decode cX7_findAsked 77 = .ok (.iload 6, 2) := by decide +kernel
theorem dX7_findAsked_79 : decode cX7_findAsked 79 = .ok (.iconst 1, 1) := by decide +kernel
theorem dX7_findAsked_80 : decode cX7_findAsked 80 = .ok (.iload_n 2, 1) := by decide +kernel
theorem dX7_findAsked_81 : decode cX7_findAsked 81 = .ok (.ishl, 1) := by decide +kernel
theorem dX7_findAsked_82 : decode cX7_findAsked 82 = .ok (.ior, 1) := by decide +kernel
theorem dX7_findAsked_83 : decode cX7_findAsked 83 = .ok (.aload_n 0, 1) := by decide +kernel
theorem dX7_findAsked_84 : decode cX7_findAsked 84 = .ok (.getfield 15, 3) := by decide +kernel
theorem dX7_findAsked_87 : decode cX7_findAsked 87 = .ok (.iload 6, 2) := by decide +kernel
theorem dX7_findAsked_89 : decode cX7_findAsked 89 = .ok (.iaload, 1) := by decide +kernel
theorem dX7_findAsked_90 : decode cX7_findAsked 90 = .ok (.iload 4, 2) := by decide +kernel
theorem dX7_findAsked_92 : decode cX7_findAsked 92 = .ok (.iadd, 1) := by decide +kernel
theorem dX7_findAsked_93 : decode cX7_findAsked 93 = .ok (.iastore, 1) := by decide +kernel
theorem dX7_findAsked_94 : decode cX7_findAsked 94 = .ok (.aload_n 0, 1) := by decide +kernel
theorem dX7_findAsked_95 : decode cX7_findAsked 95 = .ok (.getfield 18, 3) := by decide +kernel
theorem dX7_findAsked_98 : decode cX7_findAsked 98 = .ok (.iload 6, 2) := by decide +kernel
theorem dX7_findAsked_100 : decode cX7_findAsked 100 = .ok (.iconst 1, 1) := by decide +kernel
theorem dX7_findAsked_101 : decode cX7_findAsked 101 = .ok (.iload_n 2, 1) := by decide +kernel
theorem dX7_findAsked_102 : decode cX7_findAsked 102 = .ok (.ishl, 1) := by decide +kernel
theorem dX7_findAsked_103 : decode cX7_findAsked 103 = .ok (.ior, 1) := by decide +kernel
theorem dX7_findAsked_104 : decode cX7_findAsked 104 = .ok (.aload_n 0, 1) := by decide +kernel
theorem dX7_findAsked_105 : decode cX7_findAsked 105 = .ok (.getfield 18, 3) := by decide +kernel
theorem dX7_findAsked_108 : decode cX7_findAsked 108 = .ok (.iload 6, 2) := by decide +kernel
theorem dX7_findAsked_110 : decode cX7_findAsked 110 = .ok (.iaload, 1) := by decide +kernel
theorem dX7_findAsked_111 : decode cX7_findAsked 111 = .ok (.iload 5, 2) := by decide +kernel
theorem dX7_findAsked_113 : decode cX7_findAsked 113 = .ok (.iadd, 1) := by decide +kernel
theorem dX7_findAsked_114 : decode cX7_findAsked 114 = .ok (.iastore, 1) := by decide +kernel
theorem dX7_findAsked_115 : decode cX7_findAsked 115 = .ok (.iinc 6 1, 3) := by decide +kernel
theorem dX7_findAsked_118 : decode cX7_findAsked 118 = .ok (.goto (-53), 3) := by decide +kernel
theorem dX7_findAsked_121 : decode cX7_findAsked 121 = .ok (.iinc 2 1, 3) := by decide +kernel
theorem dX7_findAsked_124 : decode cX7_findAsked 124 = .ok (.goto (-108), 3) := by decide +kernel
theorem dX7_findAsked_127 : decode cX7_findAsked 127 = .ok (.iconst 0, 1) := by decide +kernel
theorem dX7_findAsked_128 : decode cX7_findAsked 128 = .ok (.istore_n 2, 1) := by decide +kernel
theorem dX7_findAsked_129 : decode cX7_findAsked 129 = .ok (.iconst 1, 1) := by decide +kernel
theorem dX7_findAsked_130 : decode cX7_findAsked 130 = .ok (.istore_n 3, 1) := by decide +kernel
theorem dX7_findAsked_131 : decode cX7_findAsked 131 = .ok (.iload_n 3, 1) := by decide +kernel
theorem dX7_findAsked_132 : decode cX7_findAsked 132 = .ok (.aload_n 1, 1) := by decide +kernel
theorem dX7_findAsked_133 : decode cX7_findAsked 133 = .ok (.invokevirtual 97, 3) := by decide +kernel
theorem dX7_findAsked_136 : decode cX7_findAsked 136 = .ok (.if_icmp .gt 38, 3) := by decide +kernel
theorem dX7_findAsked_139 : decode cX7_findAsked 139 = .ok (.aload_n 0, 1) := by decide +kernel
theorem dX7_findAsked_140 : decode cX7_findAsked 140 = .ok (.getfield 18, 3) := by decide +kernel
theorem dX7_findAsked_143 : decode cX7_findAsked 143 = .ok (.iload_n 3, 1) := by decide +kernel
theorem dX7_findAsked_144 : decode cX7_findAsked 144 = .ok (.iaload, 1) := by decide +kernel
theorem dX7_findAsked_145 : decode cX7_findAsked 145 = .ok (.aload_n 1, 1) := by decide +kernel
theorem dX7_findAsked_146 : decode cX7_findAsked 146 = .ok (.iconst 5, 1) := by decide +kernel
theorem dX7_findAsked_147 : decode cX7_findAsked 147 = .ok (.invokevirtual 57, 3) := by decide +kernel
theorem dX7_findAsked_150 : decode cX7_findAsked 150 = .ok (.if_icmp .gt 18, 3) := by decide +kernel
theorem dX7_findAsked_153 : decode cX7_findAsked 153 = .ok (.aload_n 0, 1) := by decide +kernel
theorem dX7_findAsked_154 : decode cX7_findAsked 154 = .ok (.iload_n 3, 1) := by decide +kernel
theorem dX7_findAsked_155 : decode cX7_findAsked 155 = .ok (.invokevirtual 109, 3) := by decide +kernel
theorem dX7_findAsked_158 : decode cX7_findAsked 158 = .ok (.aload_n 0, 1) := by decide +kernel
theorem dX7_findAsked_159 : decode cX7_findAsked 159 = .ok (.iload_n 2, 1) := by decide +kernel
theorem dX7_findAsked_160 : decode cX7_findAsked 160 = .ok (.invokevirtual 109, 3) := by decide +kernel
theorem dX7_findAsked_163 : decode cX7_findAsked 163 = .ok (.if_icmp .le 5, 3) := by decide +kernel
theorem dX7_findAsked_166 : decode cX7_findAsked 166 = .ok (.iload_n 3, 1) := by decide +kernel
theorem dX7_findAsked_167 : decode cX7_findAsked 167 = .ok (.istore_n 2, 1) := by decide +kernel
theorem dX7_findAsked_168 : decode cX7_findAsked 168 = .ok (.iinc 3 1, 3) := by decide +kernel
theorem dX7_findAsked_171 : decode cX7_findAsked 171 = .ok (.goto (-40), 3) := by decide +kernel
theorem dX7_findAsked_174 : decode cX7_findAsked 174 = .ok (.iload_n 2, 1) := by decide +kernel
theorem dX7_findAsked_175 : decode cX7_findAsked 175 = .ok (.ireturn, 1) := by decide +kernel
theorem dX8_init_0 : decode cX8_init 0 = .ok (.aload_n 0, 1) := by decide +kernel
theorem dX8_init_1 : decode cX8_init 1 = .ok (.invokespecial 1, 3) := by decide +kernel
theorem dX8_init_4 : decode cX8_init 4 = .ok (.aload_n 0, 1) := by decide +kernel
theorem dX8_init_5 : decode cX8_init 5 = .ok (.new 7, 3) := by decide +kernel
theorem dX8_init_8 : decode cX8_init 8 = .ok (.dup, 1) := by decide +kernel
theorem dX8_init_9 : decode cX8_init 9 = .ok (.invokespecial 9, 3) := by decide +kernel
theorem dX8_init_12 : decode cX8_init 12 = .ok (.putfield 10, 3) := by decide +kernel
theorem dX8_init_15 : decode cX8_init 15 = .ok (.aload_n 0, 1) := by decide +kernel
theorem dX8_init_16 : decode cX8_init 16 = .ok (.new 7, 3) := by decide +kernel
theorem dX8_init_19 : decode cX8_init 19 = .ok (.dup, 1) := by decide +kernel
theorem dX8_init_20 : decode cX8_init 20 = .ok (.invokespecial 9, 3) := by decide +kernel
theorem dX8_init_23 : decode cX8_init 23 = .ok (.putfield 16, 3) := by decide +kernel
theorem dX8_init_26 : decode cX8_init 26 = .ok (.aload_n 0, 1) := by decide +kernel
theorem dX8_init_27 : decode cX8_init 27 = .ok (.iconst 0, 1) := by decide +kernel
theorem dX8_init_28 : decode cX8_init 28 = .ok (.putfield 19, 3) := by decide +kernel
theorem dX8_init_31 : decode cX8_init 31 = .ok (.aload_n 0, 1) := by decide +kernel
theorem dX8_init_32 : decode cX8_init 32 = .ok (.new 23, 3) := by decide +kernel
theorem dX8_init_35 : decode cX8_init 35 = .ok (.dup, 1) := by decide +kernel
theorem dX8_init_36 : decode cX8_init 36 = .ok (.invokespecial 25, 3) := by decide +kernel
theorem dX8_init_39 : decode cX8_init 39 = .ok (.putfield 26, 3) := by decide +kernel
theorem dX8_init_42 : decode cX8_init 42 = .ok (.aload_n 0, 1) := by decide +kernel
theorem dX8_init_43 : decode cX8_init 43 = .ok (.new 30, 3) := by decide +kernel
theorem dX8_init_46 : decode cX8_init 46 = .ok (.dup, 1) := by decide +kernel
theorem dX8_init_47 : decode cX8_init 47 = .ok (.invokespecial 32, 3) := by decide +kernel
theorem dX8_init_50 : decode cX8_init 50 = .ok (.putfield 33, 3) := by decide +kernel
theorem dX8_init_53 : decode cX8_init 53 = .ok (.aload_n 0, 1) := by decide +kernel
theorem dX8_init_54 : decode cX8_init 54 = .ok (.new 37, 3) := by decide +kernel
theorem dX8_init_57 : decode cX8_init 57 = .ok (.dup, 1) := by decide +kernel
theorem dX8_init_58 : decode cX8_init 58 = .ok (.invokespecial 39, 3) := by decide +kernel
theorem dX8_init_61 : decode cX8_init 61 = .ok (.putfield 40, 3) := by decide +kernel
theorem dX8_init_64 : decode cX8_init 64 = .ok (.aload_n 0, 1) := by decide +kernel
theorem dX8_init_65 : decode cX8_init 65 = .ok (.new 37, 3) := by decide +kernel
theorem dX8_init_68 : decode cX8_init 68 = .ok (.dup, 1) := by decide +kernel
theorem dX8_init_69 : decode cX8_init 69 = .ok (.invokespecial 39, 3) := by decide +kernel
theorem dX8_init_72 : decode cX8_init 72 = .ok (.putfield 44, 3) := by decide +kernel
theorem dX8_init_75 : decode cX8_init 75 = .ok (.aload_n 0, 1) := by decide +kernel
theorem dX8_init_76 : decode cX8_init 76 = .ok (.new 47, 3) := by decide +kernel
theorem dX8_init_79 : decode cX8_init 79 = .ok (.dup, 1) := by decide +kernel
theorem dX8_init_80 : decode cX8_init 80 = .ok (.invokespecial 49, 3) := by decide +kernel
theorem dX8_init_83 : decode cX8_init 83 = .ok (.putfield 50, 3) := by decide +kernel
theorem dX8_init_86 : decode cX8_init 86 = .ok (.aload_n 0, 1) := by decide +kernel
theorem dX8_init_87 : decode cX8_init 87 = .ok (.new 54, 3) := by decide +kernel
theorem dX8_init_90 : decode cX8_init 90 = .ok (.dup, 1) := by decide +kernel
theorem dX8_init_91 : decode cX8_init 91 = .ok (.invokespecial 56, 3) := by decide +kernel
theorem dX8_init_94 : decode cX8_init 94 = .ok (.putfield 57, 3) := by decide +kernel
theorem dX8_init_97 : decode cX8_init 97 = .ok (.aload_n 0, 1) := by decide +kernel
theorem dX8_init_98 : decode cX8_init 98 = .ok (.bipush 6, 2) := by decide +kernel
theorem dX8_init_100 : decode cX8_init 100 = .ok (.newarray .int, 2) := by decide +kernel
theorem dX8_init_102 : decode cX8_init 102 = .ok (.putfield 63, 3) := by decide +kernel
theorem dX8_init_105 : decode cX8_init 105 = .ok (.return_, 1) := by decide +kernel
theorem dX8_feed_0 : decode cX8_feed 0 = .ok (.iload_n 3, 1) := by decide +kernel
theorem dX8_feed_1 : decode cX8_feed 1 = .ok (.iconst 1, 1) := by decide +kernel
theorem dX8_feed_2 : decode cX8_feed 2 = .ok (.if_icmp .lt 9, 3) := by decide +kernel
theorem dX8_feed_5 : decode cX8_feed 5 = .ok (.iload_n 3, 1) := by decide +kernel
theorem dX8_feed_6 : decode cX8_feed 6 = .ok (.bipush 8, 2) := by decide +kernel
theorem dX8_feed_8 : decode cX8_feed 8 = .ok (.if_icmp .le 5, 3) := by decide +kernel
theorem dX8_feed_11 : decode cX8_feed 11 = .ok (.iconst (-1), 1) := by decide +kernel
theorem dX8_feed_12 : decode cX8_feed 12 = .ok (.ireturn, 1) := by decide +kernel
theorem dX8_feed_13 : decode cX8_feed 13 = .ok (.aload_n 0, 1) := by decide +kernel
theorem dX8_feed_14 : decode cX8_feed 14 = .ok (.getfield 33, 3) := by decide +kernel
theorem dX8_feed_17 : decode cX8_feed 17 = .ok (.getfield 67, 3) := by decide +kernel
theorem dX8_feed_20 : decode cX8_feed 20 = .ok (.iload_n 3, 1) := by decide +kernel
theorem dX8_feed_21 : decode cX8_feed 21 = .ok (.iadd, 1) := by decide +kernel
theorem dX8_feed_22 : decode cX8_feed 22 = .ok (.sipush 200, 3) := by decide +kernel
theorem dX8_feed_25 : decode cX8_feed 25 = .ok (.if_icmp .le 6, 3) := by decide +kernel
theorem dX8_feed_28 : decode cX8_feed 28 = .ok (.bipush (-2), 2) := by decide +kernel
theorem dX8_feed_30 : decode cX8_feed 30 = .ok (.ireturn, 1) := by decide +kernel
theorem dX8_feed_31 : decode cX8_feed 31 = .ok (.iconst 0, 1) := by decide +kernel
theorem dX8_feed_32 : decode cX8_feed 32 = .ok (.istore 4, 2) := by decide +kernel
theorem dX8_feed_34 : decode cX8_feed 34 = .ok (.iload 4, 2) := by decide +kernel
theorem dX8_feed_36 : decode cX8_feed 36 = .ok (.iload_n 3, 1) := by decide +kernel
theorem dX8_feed_37 : decode cX8_feed 37 = .ok (.if_icmp .ge 28, 3) := by decide +kernel
theorem dX8_feed_40 : decode cX8_feed 40 = .ok (.aload_n 0, 1) := by decide +kernel
theorem dX8_feed_41 : decode cX8_feed 41 = .ok (.getfield 33, 3) := by decide +kernel
theorem dX8_feed_44 : decode cX8_feed 44 = .ok (.lload_n 1, 1) := by decide +kernel
theorem dX8_feed_45 : decode cX8_feed 45 = .ok (.bipush 8, 2) := by decide +kernel
theorem dX8_feed_47 : decode cX8_feed 47 = .ok (.iload 4, 2) := by decide +kernel
theorem dX8_feed_49 : decode cX8_feed 49 = .ok (.imul, 1) := by decide +kernel
theorem dX8_feed_50 : decode cX8_feed 50 = .ok (.lushr, 1) := by decide +kernel
theorem dX8_feed_51 : decode cX8_feed 51 = .ok (.l2i, 1) := by decide +kernel
theorem dX8_feed_52 : decode cX8_feed 52 = .ok (.sipush 255, 3) := by decide +kernel
theorem dX8_feed_55 : decode cX8_feed 55 = .ok (.iand, 1) := by decide +kernel
theorem dX8_feed_56 : decode cX8_feed 56 = .ok (.invokevirtual 71, 3) := by decide +kernel
theorem dX8_feed_59 : decode cX8_feed 59 = .ok (.iinc 4 1, 3) := by decide +kernel
theorem dX8_feed_62 : decode cX8_feed 62 = .ok (.goto (-28), 3) := by decide +kernel
theorem dX8_feed_65 : decode cX8_feed 65 = .ok (.aload_n 0, 1) := by decide +kernel
theorem dX8_feed_66 : decode cX8_feed 66 = .ok (.getfield 33, 3) := by decide +kernel
theorem dX8_feed_69 : decode cX8_feed 69 = .ok (.getfield 67, 3) := by decide +kernel
theorem dX8_feed_72 : decode cX8_feed 72 = .ok (.ireturn, 1) := by decide +kernel
theorem dX8_rules_0 : decode cX8_rules 0 = .ok (.aload_n 0, 1) := by decide +kernel
theorem dX8_rules_1 : decode cX8_rules 1 = .ok (.getfield 33, 3) := by decide +kernel
theorem dX8_rules_4 : decode cX8_rules 4 = .ok (.invokevirtual 75, 3) := by decide +kernel
theorem dX8_rules_7 : decode cX8_rules 7 = .ok (.istore_n 1, 1) := by decide +kernel
theorem dX8_rules_8 : decode cX8_rules 8 = .ok (.aload_n 0, 1) := by decide +kernel
theorem dX8_rules_9 : decode cX8_rules 9 = .ok (.getfield 33, 3) := by decide +kernel
theorem dX8_rules_12 : decode cX8_rules 12 = .ok (.iconst 0, 1) := by decide +kernel
theorem dX8_rules_13 : decode cX8_rules 13 = .ok (.putfield 67, 3) := by decide +kernel
theorem dX8_rules_16 : decode cX8_rules 16 = .ok (.iload_n 1, 1) := by decide +kernel
theorem dX8_rules_17 : decode cX8_rules 17 = .ok (.ifCond .ne 14, 3) := by decide +kernel
theorem dX8_rules_20 : decode cX8_rules 20 = .ok (.bipush (-100), 2) := by decide +kernel
theorem dX8_rules_22 : decode cX8_rules 22 = .ok (.aload_n 0, 1) := by decide +kernel
theorem dX8_rules_23 : decode cX8_rules 23 = .ok (.getfield 33, 3) := by decide +kernel
theorem dX8_rules_26 : decode cX8_rules 26 = .ok (.getfield 79, 3) := by decide +kernel
theorem dX8_rules_29 : decode cX8_rules 29 = .ok (.isub, 1) := by decide +kernel
theorem dX8_rules_30 : decode cX8_rules 30 = .ok (.ireturn, 1) := by decide +kernel
theorem dX8_rules_31 : decode cX8_rules 31 = .ok (.aload_n 0, 1) := by decide +kernel
theorem dX8_rules_32 : decode cX8_rules 32 = .ok (.getfield 10, 3) := by decide +kernel
theorem dX8_rules_35 : decode cX8_rules 35 = .ok (.getfield 82, 3) := by decide +kernel
theorem dX8_rules_38 : decode cX8_rules 38 = .ok (.aload_n 0, 1) := by decide +kernel
theorem dX8_rules_39 : decode cX8_rules 39 = .ok (.getfield 33, 3) := by decide +kernel
theorem dX8_rules_42 : decode cX8_rules 42 = .ok (.getfield 86, 3) := by decide +kernel
theorem dX8_rules_45 : decode cX8_rules 45 = .ok (.invokevirtual 89, 3) := by decide +kernel
theorem dX8_rules_48 : decode cX8_rules 48 = .ok (.aload_n 0, 1) := by decide +kernel
theorem dX8_rules_49 : decode cX8_rules 49 = .ok (.getfield 10, 3) := by decide +kernel
theorem dX8_rules_52 : decode cX8_rules 52 = .ok (.getfield 82, 3) := by decide +kernel
theorem dX8_rules_55 : decode cX8_rules 55 = .ok (.getfield 93, 3) := by decide +kernel
theorem dX8_rules_58 : decode cX8_rules 58 = .ok (.ireturn, 1) := by decide +kernel
theorem dX8_size_0 : decode cX8_size 0 = .ok (.iload_n 1, 1) := by decide +kernel
theorem dX8_size_1 : decode cX8_size 1 = .ok (.invokestatic 96, 3) := by decide +kernel
theorem dX8_size_4 : decode cX8_size 4 = .ok (.ifCond .eq 15, 3) := by decide +kernel
theorem dX8_size_7 : decode cX8_size 7 = .ok (.iload_n 2, 1) := by decide +kernel
theorem dX8_size_8 : decode cX8_size 8 = .ok (.bipush 10, 2) := by decide +kernel
theorem dX8_size_10 : decode cX8_size 10 = .ok (.if_icmp .lt 9, 3) := by decide +kernel
theorem dX8_size_13 : decode cX8_size 13 = .ok (.iload_n 2, 1) := by decide +kernel
theorem dX8_size_14 : decode cX8_size 14 = .ok (.bipush 99, 2) := by decide +kernel
theorem dX8_size_16 : decode cX8_size 16 = .ok (.if_icmp .le 5, 3) := by decide +kernel
theorem dX8_size_19 : decode cX8_size 19 = .ok (.iconst (-1), 1) := by decide +kernel
theorem dX8_size_20 : decode cX8_size 20 = .ok (.ireturn, 1) := by decide +kernel
theorem dX8_size_21 : decode cX8_size 21 = .ok (.aload_n 0, 1) := by decide +kernel
theorem dX8_size_22 : decode cX8_size 22 = .ok (.getfield 10, 3) := by decide +kernel
theorem dX8_size_25 : decode cX8_size 25 = .ok (.getfield 100, 3) := by decide +kernel
theorem dX8_size_28 : decode cX8_size 28 = .ok (.iload_n 1, 1) := by decide +kernel
theorem dX8_size_29 : decode cX8_size 29 = .ok (.iaload, 1) := by decide +kernel
theorem dX8_size_30 : decode cX8_size 30 = .ok (.istore_n 3, 1) := by decide +kernel
theorem dX8_size_31 : decode cX8_size 31 = .ok (.aload_n 0, 1) := by decide +kernel
theorem dX8_size_32 : decode cX8_size 32 = .ok (.getfield 10, 3) := by decide +kernel
theorem dX8_size_35 : decode cX8_size 35 = .ok (.getfield 100, 3) := by decide +kernel
theorem dX8_size_38 : decode cX8_size 38 = .ok (.iload_n 1, 1) := by decide +kernel
theorem dX8_size_39 : decode cX8_size 39 = .ok (.iload_n 2, 1) := by decide +kernel
theorem dX8_size_40 : decode cX8_size 40 = .ok (.iastore, 1) := by decide +kernel
theorem dX8_size_41 : decode cX8_size 41 = .ok (.iload_n 3, 1) := by decide +kernel
theorem dX8_size_42 : decode cX8_size 42 = .ok (.ireturn, 1) := by decide +kernel
theorem dX8_person_0 : decode cX8_person 0 = .ok (.iload_n 1, 1) := by decide +kernel
theorem dX8_person_1 : decode cX8_person 1 = .ok (.invokestatic 96, 3) := by decide +kernel
theorem dX8_person_4 : decode cX8_person 4 = .ok (.ifCond .ne 5, 3) := by decide +kernel
theorem dX8_person_7 : decode cX8_person 7 = .ok (.iconst (-1), 1) := by decide +kernel
theorem dX8_person_8 : decode cX8_person 8 = .ok (.ireturn, 1) := by decide +kernel
theorem dX8_person_9 : decode cX8_person 9 = .ok (.aload_n 0, 1) := by decide +kernel
theorem dX8_person_10 : decode cX8_person 10 = .ok (.getfield 10, 3) := by decide +kernel
theorem dX8_person_13 : decode cX8_person 13 = .ok (.getfield 103, 3) := by decide +kernel
theorem dX8_person_16 : decode cX8_person 16 = .ok (.bipush 10, 2) := by decide +kernel
theorem dX8_person_18 : decode cX8_person 18 = .ok (.if_icmp .lt 6, 3) := by decide +kernel
theorem dX8_person_21 : decode cX8_person 21 = .ok (.bipush (-2), 2) := by decide +kernel
theorem dX8_person_23 : decode cX8_person 23 = .ok (.ireturn, 1) := by decide +kernel
theorem dX8_person_24 : decode cX8_person 24 = .ok (.aload_n 0, 1) := by decide +kernel
theorem dX8_person_25 : decode cX8_person 25 = .ok (.getfield 10, 3) := by decide +kernel
theorem dX8_person_28 : decode cX8_person 28 = .ok (.iload_n 1, 1) := by decide +kernel
theorem dX8_person_29 : decode cX8_person 29 = .ok (.iload_n 2, 1) := by decide +kernel
theorem dX8_person_30 : decode cX8_person 30 = .ok (.invokevirtual 106, 3) := by decide +kernel
theorem dX8_person_33 : decode cX8_person 33 = .ok (.ireturn, 1) := by decide +kernel
theorem dX8_personOf_0 : decode cX8_personOf 0 = .ok (.aload_n 0, 1) := by decide +kernel
theorem dX8_personOf_1 : decode cX8_personOf 1 = .ok (.getfield 10, 3) := by decide +kernel
theorem dX8_personOf_4 : decode cX8_personOf 4 = .ok (.iload_n 1, 1) := by decide +kernel
theorem dX8_personOf_5 : decode cX8_personOf 5 = .ok (.invokevirtual 110, 3) := by decide +kernel
theorem dX8_personOf_8 : decode cX8_personOf 8 = .ok (.ifCond .ne 5, 3) := by decide +kernel
theorem dX8_personOf_11 : decode cX8_personOf 11 = .ok (.iconst (-1), 1) := by decide +kernel
theorem dX8_personOf_12 : decode cX8_personOf 12 = .ok (.ireturn, 1) := by decide +kernel
theorem dX8_personOf_13 : decode cX8_personOf 13 = .ok (.aload_n 0, 1) := by decide +kernel
theorem dX8_personOf_14 : decode cX8_personOf 14 = .ok (.getfield 10, 3) := by decide +kernel
theorem dX8_personOf_17 : decode cX8_personOf 17 = .ok (.getfield 113, 3) := by decide +kernel
theorem dX8_personOf_20 : decode cX8_personOf 20 = .ok (.iload_n 1, 1) := by decide +kernel
theorem dX8_personOf_21 : decode cX8_personOf 21 = .ok (.iaload, 1) := by decide +kernel
theorem dX8_personOf_22 : decode cX8_personOf 22 = .ok (.istore_n 3, 1) := by decide +kernel
theorem dX8_personOf_23 : decode cX8_personOf 23 = .ok (.iload_n 2, 1) := by decide +kernel
theorem dX8_personOf_24 : decode cX8_personOf 24 = .ok (.tableswitch 70 0 3 #[32, 42, 44, 61], 32) := by decide +kernel
theorem dX8_personOf_56 : decode cX8_personOf 56 = .ok (.aload_n 0, 1) := by decide +kernel
theorem dX8_personOf_57 : decode cX8_personOf 57 = .ok (.getfield 10, 3) := by decide +kernel
theorem dX8_personOf_60 : decode cX8_personOf 60 = .ok (.getfield 116, 3) := by decide +kernel
theorem dX8_personOf_63 : decode cX8_personOf 63 = .ok (.iload_n 1, 1) := by decide +kernel
theorem dX8_personOf_64 : decode cX8_personOf 64 = .ok (.iaload, 1) := by decide +kernel
theorem dX8_personOf_65 : decode cX8_personOf 65 = .ok (.ireturn, 1) := by decide +kernel
theorem dX8_personOf_66 : decode cX8_personOf 66 = .ok (.iload_n 3, 1) := by decide +kernel
theorem dX8_personOf_67 : decode cX8_personOf 67 = .ok (.ireturn, 1) := by decide +kernel
theorem dX8_personOf_68 : decode cX8_personOf 68 = .ok (.aload_n 0, 1) := by decide +kernel
theorem dX8_personOf_69 : decode cX8_personOf 69 = .ok (.getfield 10, 3) := by decide +kernel
theorem dX8_personOf_72 : decode cX8_personOf 72 = .ok (.iload_n 3, 1) := by decide +kernel
theorem dX8_personOf_73 : decode cX8_personOf 73 = .ok (.invokevirtual 119, 3) := by decide +kernel
theorem dX8_personOf_76 : decode cX8_personOf 76 = .ok (.ifCond .eq 7, 3) := by decide +kernel
theorem dX8_personOf_79 : decode cX8_personOf 79 = .ok (.iconst 1, 1) := by decide +kernel
theorem dX8_personOf_80 : decode cX8_personOf 80 = .ok (.goto 4, 3) := by decide +kernel
theorem dX8_personOf_83 : decode cX8_personOf 83 = .ok (.iconst 0, 1) := by decide +kernel
theorem dX8_personOf_84 : decode cX8_personOf 84 = .ok (.ireturn, 1) := by decide +kernel
theorem dX8_personOf_85 : decode cX8_personOf 85 = .ok (.aload_n 0, 1) := by decide +kernel
theorem dX8_personOf_86 : decode cX8_personOf 86 = .ok (.getfield 10, 3) := by decide +kernel
theorem dX8_personOf_89 : decode cX8_personOf 89 = .ok (.iload_n 3, 1) := by decide +kernel
theorem dX8_personOf_90 : decode cX8_personOf 90 = .ok (.invokevirtual 122, 3) := by decide +kernel
theorem dX8_personOf_93 : decode cX8_personOf 93 = .ok (.ireturn, 1) := by decide +kernel
theorem dX8_personOf_94 : decode cX8_personOf 94 = .ok (.iconst (-1), 1) := by decide +kernel
theorem dX8_personOf_95 : decode cX8_personOf 95 = .ok (.ireturn, 1) := by decide +kernel
theorem dX8_join_0 : decode cX8_join 0 = .ok (.aload_n 0, 1) := by decide +kernel
theorem dX8_join_1 : decode cX8_join 1 = .ok (.getfield 10, 3) := by decide +kernel
theorem dX8_join_4 : decode cX8_join 4 = .ok (.iload_n 1, 1) := by decide +kernel
theorem dX8_join_5 : decode cX8_join 5 = .ok (.invokevirtual 110, 3) := by decide +kernel
theorem dX8_join_8 : decode cX8_join 8 = .ok (.ifCond .eq 14, 3) := by decide +kernel
theorem dX8_join_11 : decode cX8_join 11 = .ok (.aload_n 0, 1) := by decide +kernel
theorem dX8_join_12 : decode cX8_join 12 = .ok (.getfield 10, 3) := by decide +kernel
theorem dX8_join_15 : decode cX8_join 15 = .ok (.iload_n 2, 1) := by decide +kernel
theorem dX8_join_16 : decode cX8_join 16 = .ok (.invokevirtual 110, 3) := by decide +kernel
theorem dX8_join_19 : decode cX8_join 19 = .ok (.ifCond .ne 5, 3) := by decide +kernel
theorem dX8_join_22 : decode cX8_join 22 = .ok (.iconst (-1), 1) := by decide +kernel
theorem dX8_join_23 : decode cX8_join 23 = .ok (.ireturn, 1) := by decide +kernel
theorem dX8_join_24 : decode cX8_join 24 = .ok (.aload_n 0, 1) := by decide +kernel
theorem dX8_join_25 : decode cX8_join 25 = .ok (.getfield 10, 3) := by decide +kernel
theorem dX8_join_28 : decode cX8_join 28 = .ok (.aload_n 0, 1) := by decide +kernel
theorem dX8_join_29 : decode cX8_join 29 = .ok (.getfield 10, 3) := by decide +kernel
theorem dX8_join_32 : decode cX8_join 32 = .ok (.getfield 113, 3) := by decide +kernel
theorem dX8_join_35 : decode cX8_join 35 = .ok (.iload_n 1, 1) := by decide +kernel
theorem dX8_join_36 : decode cX8_join 36 = .ok (.iaload, 1) := by decide +kernel
theorem dX8_join_37 : decode cX8_join 37 = .ok (.aload_n 0, 1) := by decide +kernel
theorem dX8_join_38 : decode cX8_join 38 = .ok (.getfield 10, 3) := by decide +kernel
theorem dX8_join_41 : decode cX8_join 41 = .ok (.getfield 113, 3) := by decide +kernel
theorem dX8_join_44 : decode cX8_join 44 = .ok (.iload_n 2, 1) := by decide +kernel
theorem dX8_join_45 : decode cX8_join 45 = .ok (.iaload, 1) := by decide +kernel
theorem dX8_join_46 : decode cX8_join 46 = .ok (.invokevirtual 126, 3) := by decide +kernel
theorem dX8_join_49 : decode cX8_join 49 = .ok (.ifCond .eq 7, 3) := by decide +kernel
theorem dX8_join_52 : decode cX8_join 52 = .ok (.iconst 1, 1) := by decide +kernel
theorem dX8_join_53 : decode cX8_join 53 = .ok (.goto 4, 3) := by decide +kernel
theorem dX8_join_56 : decode cX8_join 56 = .ok (.iconst 0, 1) := by decide +kernel
theorem dX8_join_57 : decode cX8_join 57 = .ok (.ireturn, 1) := by decide +kernel
theorem dX8_claim_0 : decode cX8_claim 0 = .ok (.iload_n 1, 1) := by decide +kernel
theorem dX8_claim_1 : decode cX8_claim 1 = .ok (.ifCond .lt 26, 3) := by decide +kernel
theorem dX8_claim_4 : decode cX8_claim 4 = .ok (.iload_n 1, 1) := by decide +kernel
theorem dX8_claim_5 : decode cX8_claim 5 = .ok (.bipush 6, 2) := by decide +kernel
theorem dX8_claim_7 : decode cX8_claim 7 = .ok (.if_icmp .ge 20, 3) := by decide +kernel
theorem dX8_claim_10 : decode cX8_claim 10 = .ok (.iload_n 2, 1) := by decide +kernel
theorem dX8_claim_11 : decode cX8_claim 11 = .ok (.ifCond .lt 16, 3) := by decide +kernel
theorem dX8_claim_14 : decode cX8_claim 14 = .ok (.iload_n 2, 1) := by decide +kernel
theorem dX8_claim_15 : decode cX8_claim 15 = .ok (.bipush 99, 2) := by decide +kernel
theorem dX8_claim_17 : decode cX8_claim 17 = .ok (.if_icmp .gt 10, 3) := by decide +kernel
theorem dX8_claim_20 : decode cX8_claim 20 = .ok (.iload_n 3, 1) := by decide +kernel
theorem dX8_claim_21 : decode cX8_claim 21 = .ok (.invokestatic 96, 3) := by decide +kernel
theorem dX8_claim_24 : decode cX8_claim 24 = .ok (.ifCond .ne 5, 3) := by decide +kernel
theorem dX8_claim_27 : decode cX8_claim 27 = .ok (.iconst (-1), 1) := by decide +kernel
theorem dX8_claim_28 : decode cX8_claim 28 = .ok (.ireturn, 1) := by decide +kernel
theorem dX8_claim_29 : decode cX8_claim 29 = .ok (.iload 4, 2) := by decide +kernel
theorem dX8_claim_31 : decode cX8_claim 31 = .ok (.ifCond .lt 22, 3) := by decide +kernel
theorem dX8_claim_34 : decode cX8_claim 34 = .ok (.iload 4, 2) := by decide +kernel
theorem dX8_claim_36 : decode cX8_claim 36 = .ok (.bipush 9, 2) := by decide +kernel
theorem dX8_claim_38 : decode cX8_claim 38 = .ok (.if_icmp .gt 15, 3) := by decide +kernel
theorem dX8_claim_41 : decode cX8_claim 41 = .ok (.iload 5, 2) := by decide +kernel
theorem dX8_claim_43 : decode cX8_claim 43 = .ok (.ifCond .lt 10, 3) := by decide +kernel
theorem dX8_claim_46 : decode cX8_claim 46 = .ok (.iload 5, 2) := by decide +kernel
theorem dX8_claim_48 : decode cX8_claim 48 = .ok (.bipush 99, 2) := by decide +kernel
theorem dX8_claim_50 : decode cX8_claim 50 = .ok (.if_icmp .le 5, 3) := by decide +kernel
theorem dX8_claim_53 : decode cX8_claim 53 = .ok (.iconst (-1), 1) := by decide +kernel
theorem dX8_claim_54 : decode cX8_claim 54 = .ok (.ireturn, 1) := by decide +kernel
theorem dX8_claim_55 : decode cX8_claim 55 = .ok (.aload_n 0, 1) := by decide +kernel
theorem dX8_claim_56 : decode cX8_claim 56 = .ok (.getfield 10, 3) := by decide +kernel
theorem dX8_claim_59 : decode cX8_claim 59 = .ok (.getfield 130, 3) := by decide +kernel
theorem dX8_claim_62 : decode cX8_claim 62 = .ok (.bipush 9, 2) := by decide +kernel
theorem dX8_claim_64 : decode cX8_claim 64 = .ok (.if_icmp .lt 6, 3) := by decide +kernel
theorem dX8_claim_67 : decode cX8_claim 67 = .ok (.bipush (-2), 2) := by decide +kernel
theorem dX8_claim_69 : decode cX8_claim 69 = .ok (.ireturn, 1) := by decide +kernel
theorem dX8_claim_70 : decode cX8_claim 70 = .ok (.aload_n 0, 1) := by decide +kernel
theorem dX8_claim_71 : decode cX8_claim 71 = .ok (.getfield 10, 3) := by decide +kernel
theorem dX8_claim_74 : decode cX8_claim 74 = .ok (.iload_n 1, 1) := by decide +kernel
theorem dX8_claim_75 : decode cX8_claim 75 = .ok (.iload_n 2, 1) := by decide +kernel
theorem dX8_claim_76 : decode cX8_claim 76 = .ok (.iload_n 3, 1) := by decide +kernel
theorem dX8_claim_77 : decode cX8_claim 77 = .ok (.iload 4, 2) := by decide +kernel
theorem dX8_claim_79 : decode cX8_claim 79 = .ok (.iload 5, 2) := by decide +kernel
theorem dX8_claim_81 : decode cX8_claim 81 = .ok (.invokevirtual 133, 3) := by decide +kernel
theorem dX8_claim_84 : decode cX8_claim 84 = .ok (.ireturn, 1) := by decide +kernel
theorem dX8_claimOf_0 : decode cX8_claimOf 0 = .ok (.aload_n 0, 1) := by decide +kernel
theorem dX8_claimOf_1 : decode cX8_claimOf 1 = .ok (.getfield 10, 3) := by decide +kernel
theorem dX8_claimOf_4 : decode cX8_claimOf 4 = .ok (.iload_n 1, 1) := by decide +kernel
theorem dX8_claimOf_5 : decode cX8_claimOf 5 = .ok (.invokevirtual 137, 3) := by decide +kernel
theorem dX8_claimOf_8 : decode cX8_claimOf 8 = .ok (.ifCond .ne 5, 3) := by decide +kernel
theorem dX8_claimOf_11 : decode cX8_claimOf 11 = .ok (.iconst (-1), 1) := by decide +kernel
theorem dX8_claimOf_12 : decode cX8_claimOf 12 = .ok (.ireturn, 1) := by decide +kernel
theorem dX8_claimOf_13 : decode cX8_claimOf 13 = .ok (.iload_n 2, 1) := by decide +kernel
theorem dX8_claimOf_14 : decode cX8_claimOf 14 = .ok (.ifCond .lt 18, 3) := by decide +kernel
theorem dX8_claimOf_17 : decode cX8_claimOf 17 = .ok (.iload_n 2, 1) := by decide +kernel
theorem dX8_claimOf_18 : decode cX8_claimOf 18 = .ok (.iconst 5, 1) := by decide +kernel
theorem dX8_claimOf_19 : decode cX8_claimOf 19 = .ok (.if_icmp .ge 13, 3) := by decide +kernel
theorem dX8_claimOf_22 : decode cX8_claimOf 22 = .ok (.aload_n 0, 1) := by decide +kernel
theorem dX8_claimOf_23 : decode cX8_claimOf 23 = .ok (.getfield 10, 3) := by decide +kernel
theorem dX8_claimOf_26 : decode cX8_claimOf 26 = .ok (.iload_n 1, 1) := by decide +kernel
theorem dX8_claimOf_27 : decode cX8_claimOf 27 = .ok (.iload_n 2, 1) := by decide +kernel
theorem dX8_claimOf_28 : decode cX8_claimOf 28 = .ok (.invokevirtual 140, 3) := by decide +kernel
theorem dX8_claimOf_31 : decode cX8_claimOf 31 = .ok (.ireturn, 1) := by decide +kernel
theorem dX8_claimOf_32 : decode cX8_claimOf 32 = .ok (.iload_n 2, 1) := by decide +kernel
theorem dX8_claimOf_33 : decode cX8_claimOf 33 = .ok (.bipush 10, 2) := by decide +kernel
theorem dX8_claimOf_35 : decode cX8_claimOf 35 = .ok (.if_icmp .lt 9, 3) := by decide +kernel
theorem dX8_claimOf_38 : decode cX8_claimOf 38 = .ok (.iload_n 2, 1) := by decide +kernel
theorem dX8_claimOf_39 : decode cX8_claimOf 39 = .ok (.bipush 14, 2) := by decide +kernel
theorem dX8_claimOf_41 : decode cX8_claimOf 41 = .ok (.if_icmp .lt 5, 3) := by decide +kernel
theorem dX8_claimOf_44 : decode cX8_claimOf 44 = .ok (.iconst (-1), 1) := by decide +kernel
theorem dX8_claimOf_45 : decode cX8_claimOf 45 = .ok (.ireturn, 1) := by decide +kernel
theorem dX8_claimOf_46 : decode cX8_claimOf 46 = .ok (.aload_n 0, 1) := by decide +kernel
theorem dX8_claimOf_47 : decode cX8_claimOf 47 = .ok (.getfield 10, 3) := by decide +kernel
theorem dX8_claimOf_50 : decode cX8_claimOf 50 = .ok (.iload_n 1, 1) := by decide +kernel
theorem dX8_claimOf_51 : decode cX8_claimOf 51 = .ok (.iload_n 2, 1) := by decide +kernel
theorem dX8_claimOf_52 : decode cX8_claimOf 52 = .ok (.bipush 10, 2) := by decide +kernel
theorem dX8_claimOf_54 : decode cX8_claimOf 54 = .ok (.isub, 1) := by decide +kernel
theorem dX8_claimOf_55 : decode cX8_claimOf 55 = .ok (.invokevirtual 144, 3) := by decide +kernel
theorem dX8_claimOf_58 : decode cX8_claimOf 58 = .ok (.ireturn, 1) := by decide +kernel
theorem dX8_seat_0 : decode cX8_seat 0 = .ok (.aload_n 0, 1) := by decide +kernel
theorem dX8_seat_1 : decode cX8_seat 1 = .ok (.getfield 10, 3) := by decide +kernel
theorem dX8_seat_4 : decode cX8_seat 4 = .ok (.iload_n 1, 1) := by decide +kernel
theorem dX8_seat_5 : decode cX8_seat 5 = .ok (.invokevirtual 137, 3) := by decide +kernel
theorem dX8_seat_8 : decode cX8_seat 8 = .ok (.ifCond .eq 12, 3) := by decide +kernel
theorem dX8_seat_11 : decode cX8_seat 11 = .ok (.iload_n 2, 1) := by decide +kernel
theorem dX8_seat_12 : decode cX8_seat 12 = .ok (.ifCond .lt 8, 3) := by decide +kernel
theorem dX8_seat_15 : decode cX8_seat 15 = .ok (.iload_n 2, 1) := by decide +kernel
theorem dX8_seat_16 : decode cX8_seat 16 = .ok (.iconst 4, 1) := by decide +kernel
theorem dX8_seat_17 : decode cX8_seat 17 = .ok (.if_icmp .lt 5, 3) := by decide +kernel
theorem dX8_seat_20 : decode cX8_seat 20 = .ok (.iconst (-1), 1) := by decide +kernel
theorem dX8_seat_21 : decode cX8_seat 21 = .ok (.ireturn, 1) := by decide +kernel
theorem dX8_seat_22 : decode cX8_seat 22 = .ok (.iload_n 3, 1) := by decide +kernel
theorem dX8_seat_23 : decode cX8_seat 23 = .ok (.iconst (-1), 1) := by decide +kernel
theorem dX8_seat_24 : decode cX8_seat 24 = .ok (.if_icmp .eq 16, 3) := by decide +kernel
theorem dX8_seat_27 : decode cX8_seat 27 = .ok (.aload_n 0, 1) := by decide +kernel
theorem dX8_seat_28 : decode cX8_seat 28 = .ok (.getfield 10, 3) := by decide +kernel
theorem dX8_seat_31 : decode cX8_seat 31 = .ok (.iload_n 3, 1) := by decide +kernel
theorem dX8_seat_32 : decode cX8_seat 32 = .ok (.invokevirtual 110, 3) := by decide +kernel
theorem dX8_seat_35 : decode cX8_seat 35 = .ok (.ifCond .ne 5, 3) := by decide +kernel
theorem dX8_seat_38 : decode cX8_seat 38 = .ok (.iconst (-1), 1) := by decide +kernel
theorem dX8_seat_39 : decode cX8_seat 39 = .ok (.ireturn, 1) := by decide +kernel
theorem dX8_seat_40 : decode cX8_seat 40 = .ok (.iload_n 3, 1) := by decide +kernel
theorem dX8_seat_41 : decode cX8_seat 41 = .ok (.iconst (-1), 1) := by decide +kernel
theorem dX8_seat_42 : decode cX8_seat 42 = .ok (.if_icmp .eq 27, 3) := by decide +kernel
theorem dX8_seat_45 : decode cX8_seat 45 = .ok (.aload_n 0, 1) := by decide +kernel
theorem dX8_seat_46 : decode cX8_seat 46 = .ok (.getfield 10, 3) := by decide +kernel
theorem dX8_seat_49 : decode cX8_seat 49 = .ok (.iload_n 1, 1) := by decide +kernel
theorem dX8_seat_50 : decode cX8_seat 50 = .ok (.iload_n 2, 1) := by decide +kernel
theorem dX8_seat_51 : decode cX8_seat 51 = .ok (.aload_n 0, 1) := by decide +kernel
theorem dX8_seat_52 : decode cX8_seat 52 = .ok (.getfield 10, 3) := by decide +kernel
theorem dX8_seat_55 : decode cX8_seat 55 = .ok (.getfield 113, 3) := by decide +kernel
theorem dX8_seat_58 : decode cX8_seat 58 = .ok (.iload_n 3, 1) := by decide +kernel
theorem dX8_seat_59 : decode cX8_seat 59 = .ok (.iaload, 1) := by decide +kernel
theorem dX8_seat_60 : decode cX8_seat 60 = .ok (.invokevirtual 147, 3) := by decide +kernel
theorem dX8_seat_63 : decode cX8_seat 63 = .ok (.ifCond .eq 6, 3) := by decide +kernel
theorem dX8_seat_66 : decode cX8_seat 66 = .ok (.bipush (-4), 2) := by decide +kernel
theorem dX8_seat_68 : decode cX8_seat 68 = .ok (.ireturn, 1) := by decide +kernel
theorem dX8_seat_69 : decode cX8_seat 69 = .ok (.aload_n 0, 1) := by decide +kernel
theorem dX8_seat_70 : decode cX8_seat 70 = .ok (.getfield 10, 3) := by decide +kernel
theorem dX8_seat_73 : decode cX8_seat 73 = .ok (.iload_n 1, 1) := by decide +kernel
theorem dX8_seat_74 : decode cX8_seat 74 = .ok (.iload_n 2, 1) := by decide +kernel
theorem dX8_seat_75 : decode cX8_seat 75 = .ok (.invokevirtual 144, 3) := by decide +kernel
theorem dX8_seat_78 : decode cX8_seat 78 = .ok (.istore 4, 2) := by decide +kernel
theorem dX8_seat_80 : decode cX8_seat 80 = .ok (.aload_n 0, 1) := by decide +kernel
theorem dX8_seat_81 : decode cX8_seat 81 = .ok (.getfield 10, 3) := by decide +kernel
theorem dX8_seat_84 : decode cX8_seat 84 = .ok (.getfield 151, 3) := by decide +kernel
theorem dX8_seat_87 : decode cX8_seat 87 = .ok (.iload_n 1, 1) := by decide +kernel
theorem dX8_seat_88 : decode cX8_seat 88 = .ok (.iconst 4, 1) := by decide +kernel
theorem dX8_seat_89 : decode cX8_seat 89 = .ok (.imul, 1) := by decide +kernel
theorem dX8_seat_90 : decode cX8_seat 90 = .ok (.iload_n 2, 1) := by decide +kernel
theorem dX8_seat_91 : decode cX8_seat 91 = .ok (.iadd, 1) := by decide +kernel
theorem dX8_seat_92 : decode cX8_seat 92 = .ok (.iload_n 3, 1) := by decide +kernel
theorem dX8_seat_93 : decode cX8_seat 93 = .ok (.iconst (-1), 1) := by decide +kernel
theorem dX8_seat_94 : decode cX8_seat 94 = .ok (.if_icmp .ne 8, 3) := by decide +kernel
theorem dX8_seat_97 : decode cX8_seat 97 = .ok (.bipush (-9), 2) := by decide +kernel
theorem dX8_seat_99 : decode cX8_seat 99 = .ok (.goto 4, 3) := by decide +kernel
theorem dX8_seat_102 : decode cX8_seat 102 = .ok (.iload_n 3, 1) := by decide +kernel
theorem dX8_seat_103 : decode cX8_seat 103 = .ok (.iastore, 1) := by decide +kernel
theorem dX8_seat_104 : decode cX8_seat 104 = .ok (.iload 4, 2) := by decide +kernel
theorem dX8_seat_106 : decode cX8_seat 106 = .ok (.ireturn, 1) := by decide +kernel
theorem dX8_set_0 : decode cX8_set 0 = .ok (.iload_n 1, 1) := by decide +kernel
theorem dX8_set_1 : decode cX8_set 1 = .ok (.ifCond .lt 22, 3) := by decide +kernel
theorem dX8_set_4 : decode cX8_set 4 = .ok (.iload_n 1, 1) := by decide +kernel
theorem dX8_set_5 : decode cX8_set 5 = .ok (.bipush 7, 2) := by decide +kernel
theorem dX8_set_7 : decode cX8_set 7 = .ok (.if_icmp .ge 16, 3) := by decide +kernel
theorem dX8_set_10 : decode cX8_set 10 = .ok (.iload_n 2, 1) := by decide +kernel
theorem dX8_set_11 : decode cX8_set 11 = .ok (.ifCond .lt 12, 3) := by decide +kernel
theorem dX8_set_14 : decode cX8_set 14 = .ok (.iload_n 2, 1) := by decide +kernel
theorem dX8_set_15 : decode cX8_set 15 = .ok (.getstatic 154, 3) := by decide +kernel
theorem dX8_set_18 : decode cX8_set 18 = .ok (.iload_n 1, 1) := by decide +kernel
theorem dX8_set_19 : decode cX8_set 19 = .ok (.iaload, 1) := by decide +kernel
theorem dX8_set_20 : decode cX8_set 20 = .ok (.if_icmp .le 5, 3) := by decide +kernel
theorem dX8_set_23 : decode cX8_set 23 = .ok (.iconst (-1), 1) := by decide +kernel
theorem dX8_set_24 : decode cX8_set 24 = .ok (.ireturn, 1) := by decide +kernel
theorem dX8_set_25 : decode cX8_set 25 = .ok (.aload_n 0, 1) := by decide +kernel
theorem dX8_set_26 : decode cX8_set 26 = .ok (.getfield 10, 3) := by decide +kernel
theorem dX8_set_29 : decode cX8_set 29 = .ok (.getfield 157, 3) := by decide +kernel
theorem dX8_set_32 : decode cX8_set 32 = .ok (.iload_n 1, 1) := by decide +kernel
theorem dX8_set_33 : decode cX8_set 33 = .ok (.iaload, 1) := by decide +kernel
theorem dX8_set_34 : decode cX8_set 34 = .ok (.istore_n 3, 1) := by decide +kernel
theorem dX8_set_35 : decode cX8_set 35 = .ok (.aload_n 0, 1) := by decide +kernel
theorem dX8_set_36 : decode cX8_set 36 = .ok (.getfield 10, 3) := by decide +kernel
theorem dX8_set_39 : decode cX8_set 39 = .ok (.getfield 157, 3) := by decide +kernel
theorem dX8_set_42 : decode cX8_set 42 = .ok (.iload_n 1, 1) := by decide +kernel
theorem dX8_set_43 : decode cX8_set 43 = .ok (.iload_n 2, 1) := by decide +kernel
theorem dX8_set_44 : decode cX8_set 44 = .ok (.iastore, 1) := by decide +kernel
theorem dX8_set_45 : decode cX8_set 45 = .ok (.iload_n 3, 1) := by decide +kernel
theorem dX8_set_46 : decode cX8_set 46 = .ok (.ireturn, 1) := by decide +kernel
theorem dX8_tie_0 : decode cX8_tie 0 = .ok (.aload_n 0, 1) := by decide +kernel
theorem dX8_tie_1 : decode cX8_tie 1 = .ok (.getfield 10, 3) := by decide +kernel
theorem dX8_tie_4 : decode cX8_tie 4 = .ok (.iload_n 1, 1) := by decide +kernel
theorem dX8_tie_5 : decode cX8_tie 5 = .ok (.invokevirtual 137, 3) := by decide +kernel
theorem dX8_tie_8 : decode cX8_tie 8 = .ok (.ifCond .eq 19, 3) := by decide +kernel
theorem dX8_tie_11 : decode cX8_tie 11 = .ok (.aload_n 0, 1) := by decide +kernel
theorem dX8_tie_12 : decode cX8_tie 12 = .ok (.getfield 10, 3) := by decide +kernel
theorem dX8_tie_15 : decode cX8_tie 15 = .ok (.iload_n 2, 1) := by decide +kernel
theorem dX8_tie_16 : decode cX8_tie 16 = .ok (.invokevirtual 137, 3) := by decide +kernel
theorem dX8_tie_19 : decode cX8_tie 19 = .ok (.ifCond .eq 8, 3) := by decide +kernel
theorem dX8_tie_22 : decode cX8_tie 22 = .ok (.iload_n 1, 1) := by decide +kernel
theorem dX8_tie_23 : decode cX8_tie 23 = .ok (.iload_n 2, 1) := by decide +kernel
theorem dX8_tie_24 : decode cX8_tie 24 = .ok (.if_icmp .ne 5, 3) := by decide +kernel
theorem dX8_tie_27 : decode cX8_tie 27 = .ok (.iconst (-1), 1) := by decide +kernel
theorem dX8_tie_28 : decode cX8_tie 28 = .ok (.ireturn, 1) := by decide +kernel
theorem dX8_tie_29 : decode cX8_tie 29 = .ok (.aload_n 0, 1) := by decide +kernel
theorem dX8_tie_30 : decode cX8_tie 30 = .ok (.getfield 26, 3) := by decide +kernel
theorem dX8_tie_33 : decode cX8_tie 33 = .ok (.aload_n 0, 1) := by decide +kernel
theorem dX8_tie_34 : decode cX8_tie 34 = .ok (.getfield 10, 3) := by decide +kernel
theorem dX8_tie_37 : decode cX8_tie 37 = .ok (.iload_n 1, 1) := by decide +kernel
theorem dX8_tie_38 : decode cX8_tie 38 = .ok (.iload_n 2, 1) := by decide +kernel
theorem dX8_tie_39 : decode cX8_tie 39 = .ok (.iconst (-1), 1) := by decide +kernel
theorem dX8_tie_40 : decode cX8_tie 40 = .ok (.invokevirtual 160, 3) := by decide +kernel
theorem dX8_tie_43 : decode cX8_tie 43 = .ok (.ireturn, 1) := by decide +kernel
theorem dX8_tied_0 : decode cX8_tied 0 = .ok (.aload_n 0, 1) := by decide +kernel
theorem dX8_tied_1 : decode cX8_tied 1 = .ok (.getfield 10, 3) := by decide +kernel
theorem dX8_tied_4 : decode cX8_tied 4 = .ok (.iload_n 1, 1) := by decide +kernel
theorem dX8_tied_5 : decode cX8_tied 5 = .ok (.invokevirtual 137, 3) := by decide +kernel
theorem dX8_tied_8 : decode cX8_tied 8 = .ok (.ifCond .ne 5, 3) := by decide +kernel
theorem dX8_tied_11 : decode cX8_tied 11 = .ok (.iconst (-1), 1) := by decide +kernel
theorem dX8_tied_12 : decode cX8_tied 12 = .ok (.ireturn, 1) := by decide +kernel
theorem dX8_tied_13 : decode cX8_tied 13 = .ok (.aload_n 0, 1) := by decide +kernel
theorem dX8_tied_14 : decode cX8_tied 14 = .ok (.getfield 26, 3) := by decide +kernel
theorem dX8_tied_17 : decode cX8_tied 17 = .ok (.aload_n 0, 1) := by decide +kernel
theorem dX8_tied_18 : decode cX8_tied 18 = .ok (.getfield 10, 3) := by decide +kernel
theorem dX8_tied_21 : decode cX8_tied 21 = .ok (.iload_n 1, 1) := by decide +kernel
theorem dX8_tied_22 : decode cX8_tied 22 = .ok (.invokevirtual 164, 3) := by decide +kernel
theorem dX8_tied_25 : decode cX8_tied 25 = .ok (.ireturn, 1) := by decide +kernel
theorem dX8_hang_0 : decode cX8_hang 0 = .ok (.aload_n 0, 1) := by decide +kernel
theorem dX8_hang_1 : decode cX8_hang 1 = .ok (.getfield 10, 3) := by decide +kernel
theorem dX8_hang_4 : decode cX8_hang 4 = .ok (.iload_n 1, 1) := by decide +kernel
theorem dX8_hang_5 : decode cX8_hang 5 = .ok (.invokevirtual 137, 3) := by decide +kernel
theorem dX8_hang_8 : decode cX8_hang 8 = .ok (.ifCond .ne 5, 3) := by decide +kernel
theorem dX8_hang_11 : decode cX8_hang 11 = .ok (.iconst (-1), 1) := by decide +kernel
theorem dX8_hang_12 : decode cX8_hang 12 = .ok (.ireturn, 1) := by decide +kernel
theorem dX8_hang_13 : decode cX8_hang 13 = .ok (.aload_n 0, 1) := by decide +kernel
theorem dX8_hang_14 : decode cX8_hang 14 = .ok (.getfield 26, 3) := by decide +kernel
theorem dX8_hang_17 : decode cX8_hang 17 = .ok (.aload_n 0, 1) := by decide +kernel
theorem dX8_hang_18 : decode cX8_hang 18 = .ok (.getfield 10, 3) := by decide +kernel
theorem dX8_hang_21 : decode cX8_hang 21 = .ok (.iload_n 1, 1) := by decide +kernel
theorem dX8_hang_22 : decode cX8_hang 22 = .ok (.invokevirtual 168, 3) := by decide +kernel
theorem dX8_hang_25 : decode cX8_hang 25 = .ok (.ireturn, 1) := by decide +kernel
theorem dX8_steps_0 : decode cX8_steps 0 = .ok (.aload_n 0, 1) := by decide +kernel
theorem dX8_steps_1 : decode cX8_steps 1 = .ok (.getfield 10, 3) := by decide +kernel
theorem dX8_steps_4 : decode cX8_steps 4 = .ok (.iload_n 1, 1) := by decide +kernel
theorem dX8_steps_5 : decode cX8_steps 5 = .ok (.invokevirtual 110, 3) := by decide +kernel
theorem dX8_steps_8 : decode cX8_steps 8 = .ok (.ifCond .eq 14, 3) := by decide +kernel
theorem dX8_steps_11 : decode cX8_steps 11 = .ok (.aload_n 0, 1) := by decide +kernel
theorem dX8_steps_12 : decode cX8_steps 12 = .ok (.getfield 10, 3) := by decide +kernel
theorem dX8_steps_15 : decode cX8_steps 15 = .ok (.iload_n 2, 1) := by decide +kernel
theorem dX8_steps_16 : decode cX8_steps 16 = .ok (.invokevirtual 110, 3) := by decide +kernel
theorem dX8_steps_19 : decode cX8_steps 19 = .ok (.ifCond .ne 5, 3) := by decide +kernel
theorem dX8_steps_22 : decode cX8_steps 22 = .ok (.iconst (-1), 1) := by decide +kernel
theorem dX8_steps_23 : decode cX8_steps 23 = .ok (.ireturn, 1) := by decide +kernel
theorem dX8_steps_24 : decode cX8_steps 24 = .ok (.aload_n 0, 1) := by decide +kernel
theorem dX8_steps_25 : decode cX8_steps 25 = .ok (.getfield 26, 3) := by decide +kernel
theorem dX8_steps_28 : decode cX8_steps 28 = .ok (.aload_n 0, 1) := by decide +kernel
theorem dX8_steps_29 : decode cX8_steps 29 = .ok (.getfield 10, 3) := by decide +kernel
theorem dX8_steps_32 : decode cX8_steps 32 = .ok (.aload_n 0, 1) := by decide +kernel
theorem dX8_steps_33 : decode cX8_steps 33 = .ok (.getfield 10, 3) := by decide +kernel
theorem dX8_steps_36 : decode cX8_steps 36 = .ok (.getfield 113, 3) := by decide +kernel
theorem dX8_steps_39 : decode cX8_steps 39 = .ok (.iload_n 1, 1) := by decide +kernel
theorem dX8_steps_40 : decode cX8_steps 40 = .ok (.iaload, 1) := by decide +kernel
theorem dX8_steps_41 : decode cX8_steps 41 = .ok (.aload_n 0, 1) := by decide +kernel
theorem dX8_steps_42 : decode cX8_steps 42 = .ok (.getfield 10, 3) := by decide +kernel
theorem dX8_steps_45 : decode cX8_steps 45 = .ok (.getfield 113, 3) := by decide +kernel
theorem dX8_steps_48 : decode cX8_steps 48 = .ok (.iload_n 2, 1) := by decide +kernel
theorem dX8_steps_49 : decode cX8_steps 49 = .ok (.iaload, 1) := by decide +kernel
theorem dX8_steps_50 : decode cX8_steps 50 = .ok (.invokevirtual 171, 3) := by decide +kernel
theorem dX8_steps_53 : decode cX8_steps 53 = .ok (.ireturn, 1) := by decide +kernel
theorem dX8_turned_0 : decode cX8_turned 0 = .ok (.aload_n 0, 1) := by decide +kernel
theorem dX8_turned_1 : decode cX8_turned 1 = .ok (.getfield 10, 3) := by decide +kernel
theorem dX8_turned_4 : decode cX8_turned 4 = .ok (.iload_n 1, 1) := by decide +kernel
theorem dX8_turned_5 : decode cX8_turned 5 = .ok (.invokevirtual 110, 3) := by decide +kernel
theorem dX8_turned_8 : decode cX8_turned 8 = .ok (.ifCond .ne 5, 3) := by decide +kernel
theorem dX8_turned_11 : decode cX8_turned 11 = .ok (.iconst (-1), 1) := by decide +kernel
theorem dX8_turned_12 : decode cX8_turned 12 = .ok (.ireturn, 1) := by decide +kernel
theorem dX8_turned_13 : decode cX8_turned 13 = .ok (.aload_n 0, 1) := by decide +kernel
theorem dX8_turned_14 : decode cX8_turned 14 = .ok (.getfield 10, 3) := by decide +kernel
theorem dX8_turned_17 : decode cX8_turned 17 = .ok (.getfield 113, 3) := by decide +kernel
theorem dX8_turned_20 : decode cX8_turned 20 = .ok (.iload_n 1, 1) := by decide +kernel
theorem dX8_turned_21 : decode cX8_turned 21 = .ok (.iaload, 1) := by decide +kernel
theorem dX8_turned_22 : decode cX8_turned 22 = .ok (.istore_n 2, 1) := by decide +kernel
theorem dX8_turned_23 : decode cX8_turned 23 = .ok (.iconst 0, 1) := by decide +kernel
theorem dX8_turned_24 : decode cX8_turned 24 = .ok (.istore_n 3, 1) := by decide +kernel
theorem dX8_turned_25 : decode cX8_turned 25 = .ok (.iconst 0, 1) := by decide +kernel
theorem dX8_turned_26 : decode cX8_turned 26 = .ok (.istore 4, 2) := by decide +kernel
theorem dX8_turned_28 : decode cX8_turned 28 = .ok (.iload 4, 2) := by decide +kernel
theorem dX8_turned_30 : decode cX8_turned 30 = .ok (.aload_n 0, 1) := by decide +kernel
theorem dX8_turned_31 : decode cX8_turned 31 = .ok (.getfield 10, 3) := by decide +kernel
theorem dX8_turned_34 : decode cX8_turned 34 = .ok (.getfield 130, 3) := by decide +kernel
theorem dX8_turned_37 : decode cX8_turned 37 = .ok (.if_icmp .ge 116, 3) := by decide +kernel
theorem dX8_turned_40 : decode cX8_turned 40 = .ok (.iload 4, 2) := by decide +kernel
theorem dX8_turned_42 : decode cX8_turned 42 = .ok (.iconst 1, 1) := by decide +kernel
theorem dX8_turned_43 : decode cX8_turned 43 = .ok (.iadd, 1) := by decide +kernel
theorem dX8_turned_44 : decode cX8_turned 44 = .ok (.istore 5, 2) := by decide +kernel
theorem dX8_turned_46 : decode cX8_turned 46 = .ok (.iload 5, 2) := by decide +kernel
theorem dX8_turned_48 : decode cX8_turned 48 = .ok (.aload_n 0, 1) := by decide +kernel
theorem dX8_turned_49 : decode cX8_turned 49 = .ok (.getfield 10, 3) := by decide +kernel
theorem dX8_turned_52 : decode cX8_turned 52 = .ok (.getfield 130, 3) := by decide +kernel
theorem dX8_turned_55 : decode cX8_turned 55 = .ok (.if_icmp .ge 92, 3) := by decide +kernel
theorem dX8_turned_58 : decode cX8_turned 58 = .ok (.aload_n 0, 1) := by decide +kernel
theorem dX8_turned_59 : decode cX8_turned 59 = .ok (.getfield 10, 3) := by decide +kernel
theorem dX8_turned_62 : decode cX8_turned 62 = .ok (.iload 4, 2) := by decide +kernel
theorem dX8_turned_64 : decode cX8_turned 64 = .ok (.iconst 0, 1) := by decide +kernel
theorem dX8_turned_65 : decode cX8_turned 65 = .ok (.invokevirtual 175, 3) := by decide +kernel
theorem dX8_turned_68 : decode cX8_turned 68 = .ok (.iload_n 2, 1) := by decide +kernel
theorem dX8_turned_69 : decode cX8_turned 69 = .ok (.if_icmp .ne 21, 3) := by decide +kernel
theorem dX8_turned_72 : decode cX8_turned 72 = .ok (.aload_n 0, 1) := by decide +kernel
theorem dX8_turned_73 : decode cX8_turned 73 = .ok (.getfield 10, 3) := by decide +kernel
theorem dX8_turned_76 : decode cX8_turned 76 = .ok (.iload 5, 2) := by decide +kernel
theorem dX8_turned_78 : decode cX8_turned 78 = .ok (.iconst 1, 1) := by decide +kernel
theorem dX8_turned_79 : decode cX8_turned 79 = .ok (.invokevirtual 175, 3) := by decide +kernel
theorem dX8_turned_82 : decode cX8_turned 82 = .ok (.iload_n 2, 1) := by decide +kernel
theorem dX8_turned_83 : decode cX8_turned 83 = .ok (.if_icmp .ne 7, 3) := by decide +kernel
theorem dX8_turned_86 : decode cX8_turned 86 = .ok (.iconst 1, 1) := by decide +kernel
theorem dX8_turned_87 : decode cX8_turned 87 = .ok (.goto 4, 3) := by decide +kernel
theorem dX8_turned_90 : decode cX8_turned 90 = .ok (.iconst 0, 1) := by decide +kernel
theorem dX8_turned_91 : decode cX8_turned 91 = .ok (.istore 6, 2) := by decide +kernel
theorem dX8_turned_93 : decode cX8_turned 93 = .ok (.aload_n 0, 1) := by decide +kernel
theorem dX8_turned_94 : decode cX8_turned 94 = .ok (.getfield 10, 3) := by decide +kernel
theorem dX8_turned_97 : decode cX8_turned 97 = .ok (.iload 5, 2) := by decide +kernel
theorem dX8_turned_99 : decode cX8_turned 99 = .ok (.iconst 0, 1) := by decide +kernel
theorem dX8_turned_100 : decode cX8_turned 100 = .ok (.invokevirtual 175, 3) := by decide +kernel
theorem dX8_turned_103 : decode cX8_turned 103 = .ok (.iload_n 2, 1) := by decide +kernel
theorem dX8_turned_104 : decode cX8_turned 104 = .ok (.if_icmp .ne 21, 3) := by decide +kernel
theorem dX8_turned_107 : decode cX8_turned 107 = .ok (.aload_n 0, 1) := by decide +kernel
theorem dX8_turned_108 : decode cX8_turned 108 = .ok (.getfield 10, 3) := by decide +kernel
theorem dX8_turned_111 : decode cX8_turned 111 = .ok (.iload 4, 2) := by decide +kernel
theorem dX8_turned_113 : decode cX8_turned 113 = .ok (.iconst 1, 1) := by decide +kernel
theorem dX8_turned_114 : decode cX8_turned 114 = .ok (.invokevirtual 175, 3) := by decide +kernel
theorem dX8_turned_117 : decode cX8_turned 117 = .ok (.iload_n 2, 1) := by decide +kernel
theorem dX8_turned_118 : decode cX8_turned 118 = .ok (.if_icmp .ne 7, 3) := by decide +kernel
theorem dX8_turned_121 : decode cX8_turned 121 = .ok (.iconst 1, 1) := by decide +kernel
theorem dX8_turned_122 : decode cX8_turned 122 = .ok (.goto 4, 3) := by decide +kernel
theorem dX8_turned_125 : decode cX8_turned 125 = .ok (.iconst 0, 1) := by decide +kernel
theorem dX8_turned_126 : decode cX8_turned 126 = .ok (.istore 7, 2) := by decide +kernel
theorem dX8_turned_128 : decode cX8_turned 128 = .ok (.iload 6, 2) := by decide +kernel
theorem dX8_turned_130 : decode cX8_turned 130 = .ok (.ifCond .ne 8, 3) := by decide +kernel
theorem dX8_turned_133 : decode cX8_turned 133 = .ok (.iload 7, 2) := by decide +kernel
theorem dX8_turned_135 : decode cX8_turned 135 = .ok (.ifCond .eq 6, 3) := by decide +kernel
theorem dX8_turned_138 : decode cX8_turned 138 = .ok (.iinc 3 1, 3) := by decide +kernel
theorem dX8_turned_141 : decode cX8_turned 141 = .ok (.iinc 5 1, 3) := by decide +kernel
theorem dX8_turned_144 : decode cX8_turned 144 = .ok (.goto (-98), 3) := by decide +kernel
theorem dX8_turned_147 : decode cX8_turned 147 = .ok (.iinc 4 1, 3) := by decide +kernel
theorem dX8_turned_150 : decode cX8_turned 150 = .ok (.goto (-122), 3) := by decide +kernel
theorem dX8_turned_153 : decode cX8_turned 153 = .ok (.iload_n 3, 1) := by decide +kernel
theorem dX8_turned_154 : decode cX8_turned 154 = .ok (.ireturn, 1) := by decide +kernel
theorem dX8_score_0 : decode cX8_score 0 = .ok (.iload_n 1, 1) := by decide +kernel
theorem dX8_score_1 : decode cX8_score 1 = .ok (.aload_n 0, 1) := by decide +kernel
theorem dX8_score_2 : decode cX8_score 2 = .ok (.getfield 10, 3) := by decide +kernel
theorem dX8_score_5 : decode cX8_score 5 = .ok (.invokevirtual 178, 3) := by decide +kernel
theorem dX8_score_8 : decode cX8_score 8 = .ok (.iconst (-1), 1) := by decide +kernel
theorem dX8_score_9 : decode cX8_score 9 = .ok (.ixor, 1) := by decide +kernel
theorem dX8_score_10 : decode cX8_score 10 = .ok (.iand, 1) := by decide +kernel
theorem dX8_score_11 : decode cX8_score 11 = .ok (.ifCond .eq 5, 3) := by decide +kernel
theorem dX8_score_14 : decode cX8_score 14 = .ok (.iconst (-1), 1) := by decide +kernel
theorem dX8_score_15 : decode cX8_score 15 = .ok (.ireturn, 1) := by decide +kernel
theorem dX8_score_16 : decode cX8_score 16 = .ok (.aload_n 0, 1) := by decide +kernel
theorem dX8_score_17 : decode cX8_score 17 = .ok (.getfield 26, 3) := by decide +kernel
theorem dX8_score_20 : decode cX8_score 20 = .ok (.aload_n 0, 1) := by decide +kernel
theorem dX8_score_21 : decode cX8_score 21 = .ok (.getfield 10, 3) := by decide +kernel
theorem dX8_score_24 : decode cX8_score 24 = .ok (.iconst (-1), 1) := by decide +kernel
theorem dX8_score_25 : decode cX8_score 25 = .ok (.invokevirtual 182, 3) := by decide +kernel
theorem dX8_score_28 : decode cX8_score 28 = .ok (.aload_n 0, 1) := by decide +kernel
theorem dX8_score_29 : decode cX8_score 29 = .ok (.getfield 26, 3) := by decide +kernel
theorem dX8_score_32 : decode cX8_score 32 = .ok (.iload_n 1, 1) := by decide +kernel
theorem dX8_score_33 : decode cX8_score 33 = .ok (.invokevirtual 186, 3) := by decide +kernel
theorem dX8_score_36 : decode cX8_score 36 = .ok (.ldc 189, 2) := by decide +kernel
theorem dX8_score_38 : decode cX8_score 38 = .ok (.iadd, 1) := by decide +kernel
theorem dX8_score_39 : decode cX8_score 39 = .ok (.ireturn, 1) := by decide +kernel
theorem dX8_lot_0 : decode cX8_lot 0 = .ok (.iload_n 1, 1) := by decide +kernel
theorem dX8_lot_1 : decode cX8_lot 1 = .ok (.ifCond .lt 8, 3) := by decide +kernel
theorem dX8_lot_4 : decode cX8_lot 4 = .ok (.iload_n 1, 1) := by decide +kernel
theorem dX8_lot_5 : decode cX8_lot 5 = .ok (.iconst 1, 1) := by decide +kernel
theorem dX8_lot_6 : decode cX8_lot 6 = .ok (.if_icmp .le 5, 3) := by decide +kernel
theorem dX8_lot_9 : decode cX8_lot 9 = .ok (.iconst (-1), 1) := by decide +kernel
theorem dX8_lot_10 : decode cX8_lot 10 = .ok (.ireturn, 1) := by decide +kernel
theorem dX8_lot_11 : decode cX8_lot 11 = .ok (.aload_n 0, 1) := by decide +kernel
theorem dX8_lot_12 : decode cX8_lot 12 = .ok (.getfield 26, 3) := by decide +kernel
theorem dX8_lot_15 : decode cX8_lot 15 = .ok (.aload_n 0, 1) := by decide +kernel
theorem dX8_lot_16 : decode cX8_lot 16 = .ok (.getfield 10, 3) := by decide +kernel
theorem dX8_lot_19 : decode cX8_lot 19 = .ok (.iconst (-1), 1) := by decide +kernel
theorem dX8_lot_20 : decode cX8_lot 20 = .ok (.invokevirtual 190, 3) := by decide +kernel
theorem dX8_lot_23 : decode cX8_lot 23 = .ok (.istore_n 2, 1) := by decide +kernel
theorem dX8_lot_24 : decode cX8_lot 24 = .ok (.iload_n 2, 1) := by decide +kernel
theorem dX8_lot_25 : decode cX8_lot 25 = .ok (.ifCond .ge 6, 3) := by decide +kernel
theorem dX8_lot_28 : decode cX8_lot 28 = .ok (.bipush (-3), 2) := by decide +kernel
theorem dX8_lot_30 : decode cX8_lot 30 = .ok (.ireturn, 1) := by decide +kernel
theorem dX8_lot_31 : decode cX8_lot 31 = .ok (.iload_n 1, 1) := by decide +kernel
theorem dX8_lot_32 : decode cX8_lot 32 = .ok (.ifCond .ne 7, 3) := by decide +kernel
theorem dX8_lot_35 : decode cX8_lot 35 = .ok (.iload_n 2, 1) := by decide +kernel
theorem dX8_lot_36 : decode cX8_lot 36 = .ok (.goto 14, 3) := by decide +kernel
theorem dX8_lot_39 : decode cX8_lot 39 = .ok (.aload_n 0, 1) := by decide +kernel
theorem dX8_lot_40 : decode cX8_lot 40 = .ok (.getfield 26, 3) := by decide +kernel
theorem dX8_lot_43 : decode cX8_lot 43 = .ok (.iload_n 2, 1) := by decide +kernel
theorem dX8_lot_44 : decode cX8_lot 44 = .ok (.invokevirtual 186, 3) := by decide +kernel
theorem dX8_lot_47 : decode cX8_lot 47 = .ok (.ldc 189, 2) := by decide +kernel
theorem dX8_lot_49 : decode cX8_lot 49 = .ok (.iadd, 1) := by decide +kernel
theorem dX8_lot_50 : decode cX8_lot 50 = .ok (.ireturn, 1) := by decide +kernel
theorem dX8_seen_0 : decode cX8_seen 0 = .ok (.iload_n 1, 1) := by decide +kernel
theorem dX8_seen_1 : decode cX8_seen 1 = .ok (.sipush (-1000), 3) := by decide +kernel
theorem dX8_seen_4 : decode cX8_seen 4 = .ok (.if_icmp .lt 10, 3) := by decide +kernel
theorem dX8_seen_7 : decode cX8_seen 7 = .ok (.iload_n 1, 1) := by decide +kernel
theorem dX8_seen_8 : decode cX8_seen 8 = .ok (.sipush 1000, 3) := by decide +kernel
theorem dX8_seen_11 : decode cX8_seen 11 = .ok (.if_icmp .le 5, 3) := by decide +kernel
theorem dX8_seen_14 : decode cX8_seen 14 = .ok (.iconst (-1), 1) := by decide +kernel
theorem dX8_seen_15 : decode cX8_seen 15 = .ok (.ireturn, 1) := by decide +kernel
theorem dX8_seen_16 : decode cX8_seen 16 = .ok (.aload_n 0, 1) := by decide +kernel
theorem dX8_seen_17 : decode cX8_seen 17 = .ok (.getfield 26, 3) := by decide +kernel
theorem dX8_seen_20 : decode cX8_seen 20 = .ok (.aload_n 0, 1) := by decide +kernel
theorem dX8_seen_21 : decode cX8_seen 21 = .ok (.getfield 10, 3) := by decide +kernel
theorem dX8_seen_24 : decode cX8_seen 24 = .ok (.iload_n 1, 1) := by decide +kernel
theorem dX8_seen_25 : decode cX8_seen 25 = .ok (.invokevirtual 193, 3) := by decide +kernel
theorem dX8_seen_28 : decode cX8_seen 28 = .ok (.ireturn, 1) := by decide +kernel
theorem dX8_without_0 : decode cX8_without 0 = .ok (.iload_n 1, 1) := by decide +kernel
theorem dX8_without_1 : decode cX8_without 1 = .ok (.ifCond .lt 8, 3) := by decide +kernel
theorem dX8_without_4 : decode cX8_without 4 = .ok (.iload_n 1, 1) := by decide +kernel
theorem dX8_without_5 : decode cX8_without 5 = .ok (.iconst 4, 1) := by decide +kernel
theorem dX8_without_6 : decode cX8_without 6 = .ok (.if_icmp .lt 5, 3) := by decide +kernel
theorem dX8_without_9 : decode cX8_without 9 = .ok (.iconst (-1), 1) := by decide +kernel
theorem dX8_without_10 : decode cX8_without 10 = .ok (.ireturn, 1) := by decide +kernel
theorem dX8_without_11 : decode cX8_without 11 = .ok (.aload_n 0, 1) := by decide +kernel
theorem dX8_without_12 : decode cX8_without 12 = .ok (.getfield 26, 3) := by decide +kernel
theorem dX8_without_15 : decode cX8_without 15 = .ok (.aload_n 0, 1) := by decide +kernel
theorem dX8_without_16 : decode cX8_without 16 = .ok (.getfield 10, 3) := by decide +kernel
theorem dX8_without_19 : decode cX8_without 19 = .ok (.iload_n 1, 1) := by decide +kernel
theorem dX8_without_20 : decode cX8_without 20 = .ok (.invokevirtual 190, 3) := by decide +kernel
theorem dX8_without_23 : decode cX8_without 23 = .ok (.ireturn, 1) := by decide +kernel
theorem dX8_hold_0 : decode cX8_hold 0 = .ok (.aload_n 0, 1) := by decide +kernel
theorem dX8_hold_1 : decode cX8_hold 1 = .ok (.getfield 26, 3) := by decide +kernel
theorem dX8_hold_4 : decode cX8_hold 4 = .ok (.aload_n 0, 1) := by decide +kernel
theorem dX8_hold_5 : decode cX8_hold 5 = .ok (.getfield 10, 3) := by decide +kernel
theorem dX8_hold_8 : decode cX8_hold 8 = .ok (.iconst (-1), 1) := by decide +kernel
theorem dX8_hold_9 : decode cX8_hold 9 = .ok (.invokevirtual 190, 3) := by decide +kernel
theorem dX8_hold_12 : decode cX8_hold 12 = .ok (.istore_n 1, 1) := by decide +kernel
theorem dX8_hold_13 : decode cX8_hold 13 = .ok (.iload_n 1, 1) := by decide +kernel
theorem dX8_hold_14 : decode cX8_hold 14 = .ok (.ifCond .ge 6, 3) := by decide +kernel
theorem dX8_hold_17 : decode cX8_hold 17 = .ok (.bipush (-3), 2) := by decide +kernel
theorem dX8_hold_19 : decode cX8_hold 19 = .ok (.ireturn, 1) := by decide +kernel
theorem dX8_hold_20 : decode cX8_hold 20 = .ok (.iconst 0, 1) := by decide +kernel
theorem dX8_hold_21 : decode cX8_hold 21 = .ok (.istore_n 2, 1) := by decide +kernel
theorem dX8_hold_22 : decode cX8_hold 22 = .ok (.iconst 0, 1) := by decide +kernel
theorem dX8_hold_23 : decode cX8_hold 23 = .ok (.istore_n 3, 1) := by decide +kernel
theorem dX8_hold_24 : decode cX8_hold 24 = .ok (.iload_n 3, 1) := by decide +kernel
theorem dX8_hold_25 : decode cX8_hold 25 = .ok (.iconst 4, 1) := by decide +kernel
theorem dX8_hold_26 : decode cX8_hold 26 = .ok (.if_icmp .ge 31, 3) := by decide +kernel
theorem dX8_hold_29 : decode cX8_hold 29 = .ok (.aload_n 0, 1) := by decide +kernel
theorem dX8_hold_30 : decode cX8_hold 30 = .ok (.getfield 26, 3) := by decide +kernel
theorem dX8_hold_33 : decode cX8_hold 33 = .ok (.aload_n 0, 1) := by decide +kernel
theorem dX8_hold_34 : decode cX8_hold 34 = .ok (.getfield 10, 3) := by decide +kernel
theorem dX8_hold_37 : decode cX8_hold 37 = .ok (.iload_n 3, 1) := by decide +kernel
theorem dX8_hold_38 : decode cX8_hold 38 = .ok (.invokevirtual 190, 3) := by decide +kernel
theorem dX8_hold_41 : decode cX8_hold 41 = .ok (.iload_n 1, 1) := by decide +kernel
theorem dX8_hold_42 : decode cX8_hold 42 = .ok (.if_icmp .ne 9, 3) := by decide +kernel
theorem dX8_hold_45 : decode cX8_hold 45 = .ok (.iload_n 2, 1) := by decide +kernel
theorem dX8_hold_46 : decode cX8_hold 46 = .ok (.iconst 1, 1) := by decide +kernel
theorem dX8_hold_47 : decode cX8_hold 47 = .ok (.iload_n 3, 1) := by decide +kernel
theorem dX8_hold_48 : decode cX8_hold 48 = .ok (.ishl, 1) := by decide +kernel
theorem dX8_hold_49 : decode cX8_hold 49 = .ok (.ior, 1) := by decide +kernel
theorem dX8_hold_50 : decode cX8_hold 50 = .ok (.istore_n 2, 1) := by decide +kernel
theorem dX8_hold_51 : decode cX8_hold 51 = .ok (.iinc 3 1, 3) := by decide +kernel
theorem dX8_hold_54 : decode cX8_hold 54 = .ok (.goto (-30), 3) := by decide +kernel
theorem dX8_hold_57 : decode cX8_hold 57 = .ok (.iload_n 2, 1) := by decide +kernel
theorem dX8_hold_58 : decode cX8_hold 58 = .ok (.ireturn, 1) := by decide +kernel
theorem dX8_odds_0 : decode cX8_odds 0 = .ok (.aload_n 0, 1) := by decide +kernel
theorem dX8_odds_1 : decode cX8_odds 1 = .ok (.getfield 10, 3) := by decide +kernel
theorem dX8_odds_4 : decode cX8_odds 4 = .ok (.iload_n 1, 1) := by decide +kernel
theorem dX8_odds_5 : decode cX8_odds 5 = .ok (.invokevirtual 110, 3) := by decide +kernel
theorem dX8_odds_8 : decode cX8_odds 8 = .ok (.ifCond .eq 12, 3) := by decide +kernel
theorem dX8_odds_11 : decode cX8_odds 11 = .ok (.iload_n 2, 1) := by decide +kernel
theorem dX8_odds_12 : decode cX8_odds 12 = .ok (.ifCond .lt 8, 3) := by decide +kernel
theorem dX8_odds_15 : decode cX8_odds 15 = .ok (.iload_n 2, 1) := by decide +kernel
theorem dX8_odds_16 : decode cX8_odds 16 = .ok (.iconst 1, 1) := by decide +kernel
theorem dX8_odds_17 : decode cX8_odds 17 = .ok (.if_icmp .le 7, 3) := by decide +kernel
theorem dX8_odds_20 : decode cX8_odds 20 = .ok (.ldc2_w 196, 3) := by decide +kernel
theorem dX8_odds_23 : decode cX8_odds 23 = .ok (.lreturn, 1) := by decide +kernel
theorem dX8_odds_24 : decode cX8_odds 24 = .ok (.aload_n 0, 1) := by decide +kernel
theorem dX8_odds_25 : decode cX8_odds 25 = .ok (.getfield 10, 3) := by decide +kernel
theorem dX8_odds_28 : decode cX8_odds 28 = .ok (.getfield 116, 3) := by decide +kernel
theorem dX8_odds_31 : decode cX8_odds 31 = .ok (.iload_n 1, 1) := by decide +kernel
theorem dX8_odds_32 : decode cX8_odds 32 = .ok (.iaload, 1) := by decide +kernel
theorem dX8_odds_33 : decode cX8_odds 33 = .ok (.istore_n 3, 1) := by decide +kernel
theorem dX8_odds_34 : decode cX8_odds 34 = .ok (.iconst 0, 1) := by decide +kernel
theorem dX8_odds_35 : decode cX8_odds 35 = .ok (.istore 4, 2) := by decide +kernel
theorem dX8_odds_37 : decode cX8_odds 37 = .ok (.iconst 0, 1) := by decide +kernel
theorem dX8_odds_38 : decode cX8_odds 38 = .ok (.istore 5, 2) := by decide +kernel
theorem dX8_odds_40 : decode cX8_odds 40 = .ok (.iconst 0, 1) := by decide +kernel
theorem dX8_odds_41 : decode cX8_odds 41 = .ok (.istore 6, 2) := by decide +kernel
theorem dX8_odds_43 : decode cX8_odds 43 = .ok (.iload 6, 2) := by decide +kernel
theorem dX8_odds_45 : decode cX8_odds 45 = .ok (.aload_n 0, 1) := by decide +kernel
theorem dX8_odds_46 : decode cX8_odds 46 = .ok (.getfield 10, 3) := by decide +kernel
theorem dX8_odds_49 : decode cX8_odds 49 = .ok (.getfield 130, 3) := by decide +kernel
theorem dX8_odds_52 : decode cX8_odds 52 = .ok (.if_icmp .ge 53, 3) := by decide +kernel
theorem dX8_odds_55 : decode cX8_odds 55 = .ok (.aload_n 0, 1) := by decide +kernel
theorem dX8_odds_56 : decode cX8_odds 56 = .ok (.getfield 10, 3) := by decide +kernel
theorem dX8_odds_59 : decode cX8_odds 59 = .ok (.iload 6, 2) := by decide +kernel
theorem dX8_odds_61 : decode cX8_odds 61 = .ok (.iconst 2, 1) := by decide +kernel
theorem dX8_odds_62 : decode cX8_odds 62 = .ok (.invokevirtual 140, 3) := by decide +kernel
theorem dX8_odds_65 : decode cX8_odds 65 = .ok (.iload_n 3, 1) := by decide +kernel
theorem dX8_odds_66 : decode cX8_odds 66 = .ok (.if_icmp .eq 6, 3) := by decide +kernel
theorem dX8_odds_69 : decode cX8_odds 69 = .ok (.goto 30, 3) := by decide +kernel
theorem dX8_odds_72 : decode cX8_odds 72 = .ok (.iinc 4 1, 3) := by decide +kernel
theorem dX8_odds_75 : decode cX8_odds 75 = .ok (.aload_n 0, 1) := by decide +kernel
theorem dX8_odds_76 : decode cX8_odds 76 = .ok (.getfield 10, 3) := by decide +kernel
theorem dX8_odds_79 : decode cX8_odds 79 = .ok (.iload 6, 2) := by decide +kernel
theorem dX8_odds_81 : decode cX8_odds 81 = .ok (.aload_n 0, 1) := by decide +kernel
theorem dX8_odds_82 : decode cX8_odds 82 = .ok (.getfield 10, 3) := by decide +kernel
theorem dX8_odds_85 : decode cX8_odds 85 = .ok (.getfield 113, 3) := by decide +kernel
theorem dX8_odds_88 : decode cX8_odds 88 = .ok (.iload_n 1, 1) := by decide +kernel
theorem dX8_odds_89 : decode cX8_odds 89 = .ok (.iaload, 1) := by decide +kernel
theorem dX8_odds_90 : decode cX8_odds 90 = .ok (.invokevirtual 198, 3) := by decide +kernel
theorem dX8_odds_93 : decode cX8_odds 93 = .ok (.ifCond .eq 6, 3) := by decide +kernel
theorem dX8_odds_96 : decode cX8_odds 96 = .ok (.iinc 5 1, 3) := by decide +kernel
theorem dX8_odds_99 : decode cX8_odds 99 = .ok (.iinc 6 1, 3) := by decide +kernel
theorem dX8_odds_102 : decode cX8_odds 102 = .ok (.goto (-59), 3) := by decide +kernel
theorem dX8_odds_105 : decode cX8_odds 105 = .ok (.aload_n 0, 1) := by decide +kernel
theorem dX8_odds_106 : decode cX8_odds 106 = .ok (.getfield 10, 3) := by decide +kernel
theorem dX8_odds_109 : decode cX8_odds 109 = .ok (.getfield 100, 3) := by decide +kernel
theorem dX8_odds_112 : decode cX8_odds 112 = .ok (.iload_n 3, 1) := by decide +kernel
theorem dX8_odds_113 : decode cX8_odds 113 = .ok (.iaload, 1) := by decide +kernel
theorem dX8_odds_114 : decode cX8_odds 114 = .ok (.i2l, 1) := by decide +kernel
theorem dX8_odds_115 : decode cX8_odds 115 = .ok (.lstore 6, 2) := by decide +kernel
theorem dX8_odds_117 : decode cX8_odds 117 = .ok (.iload 4, 2) := by decide +kernel
theorem dX8_odds_119 : decode cX8_odds 119 = .ok (.iload 5, 2) := by decide +kernel
theorem dX8_odds_121 : decode cX8_odds 121 = .ok (.lload 6, 2) := by decide +kernel
theorem dX8_odds_123 : decode cX8_odds 123 = .ok (.invokestatic 201, 3) := by decide +kernel
theorem dX8_odds_126 : decode cX8_odds 126 = .ok (.lstore 8, 2) := by decide +kernel
theorem dX8_odds_128 : decode cX8_odds 128 = .ok (.lload 8, 2) := by decide +kernel
theorem dX8_odds_130 : decode cX8_odds 130 = .ok (.lload 6, 2) := by decide +kernel
theorem dX8_odds_132 : decode cX8_odds 132 = .ok (.iload 4, 2) := by decide +kernel
theorem dX8_odds_134 : decode cX8_odds 134 = .ok (.invokestatic 207, 3) := by decide +kernel
theorem dX8_odds_137 : decode cX8_odds 137 = .ok (.iload_n 2, 1) := by decide +kernel
theorem dX8_odds_138 : decode cX8_odds 138 = .ok (.invokestatic 211, 3) := by decide +kernel
theorem dX8_odds_141 : decode cX8_odds 141 = .ok (.lreturn, 1) := by decide +kernel
theorem dX8_likely_0 : decode cX8_likely 0 = .ok (.aload_n 0, 1) := by decide +kernel
theorem dX8_likely_1 : decode cX8_likely 1 = .ok (.getfield 10, 3) := by decide +kernel
theorem dX8_likely_4 : decode cX8_likely 4 = .ok (.iload_n 1, 1) := by decide +kernel
theorem dX8_likely_5 : decode cX8_likely 5 = .ok (.invokevirtual 137, 3) := by decide +kernel
theorem dX8_likely_8 : decode cX8_likely 8 = .ok (.ifCond .ne 5, 3) := by decide +kernel
theorem dX8_likely_11 : decode cX8_likely 11 = .ok (.iconst (-1), 1) := by decide +kernel
theorem dX8_likely_12 : decode cX8_likely 12 = .ok (.ireturn, 1) := by decide +kernel
theorem dX8_likely_13 : decode cX8_likely 13 = .ok (.aload_n 0, 1) := by decide +kernel
theorem dX8_likely_14 : decode cX8_likely 14 = .ok (.getfield 26, 3) := by decide +kernel
theorem dX8_likely_17 : decode cX8_likely 17 = .ok (.aload_n 0, 1) := by decide +kernel
theorem dX8_likely_18 : decode cX8_likely 18 = .ok (.getfield 10, 3) := by decide +kernel
theorem dX8_likely_21 : decode cX8_likely 21 = .ok (.iload_n 1, 1) := by decide +kernel
theorem dX8_likely_22 : decode cX8_likely 22 = .ok (.invokevirtual 215, 3) := by decide +kernel
theorem dX8_likely_25 : decode cX8_likely 25 = .ok (.ireturn, 1) := by decide +kernel
theorem dX8_best_0 : decode cX8_best 0 = .ok (.iload_n 1, 1) := by decide +kernel
theorem dX8_best_1 : decode cX8_best 1 = .ok (.ifCond .lt 8, 3) := by decide +kernel
theorem dX8_best_4 : decode cX8_best 4 = .ok (.iload_n 1, 1) := by decide +kernel
theorem dX8_best_5 : decode cX8_best 5 = .ok (.iconst 1, 1) := by decide +kernel
theorem dX8_best_6 : decode cX8_best 6 = .ok (.if_icmp .le 5, 3) := by decide +kernel
theorem dX8_best_9 : decode cX8_best 9 = .ok (.iconst (-1), 1) := by decide +kernel
theorem dX8_best_10 : decode cX8_best 10 = .ok (.ireturn, 1) := by decide +kernel
theorem dX8_best_11 : decode cX8_best 11 = .ok (.aload_n 0, 1) := by decide +kernel
theorem dX8_best_12 : decode cX8_best 12 = .ok (.getfield 26, 3) := by decide +kernel
theorem dX8_best_15 : decode cX8_best 15 = .ok (.aload_n 0, 1) := by decide +kernel
theorem dX8_best_16 : decode cX8_best 16 = .ok (.getfield 10, 3) := by decide +kernel
theorem dX8_best_19 : decode cX8_best 19 = .ok (.invokevirtual 218, 3) := by decide +kernel
theorem dX8_best_22 : decode cX8_best 22 = .ok (.istore_n 2, 1) := by decide +kernel
theorem dX8_best_23 : decode cX8_best 23 = .ok (.iload_n 1, 1) := by decide +kernel
theorem dX8_best_24 : decode cX8_best 24 = .ok (.ifCond .ne 7, 3) := by decide +kernel
theorem dX8_best_27 : decode cX8_best 27 = .ok (.iload_n 2, 1) := by decide +kernel
theorem dX8_best_28 : decode cX8_best 28 = .ok (.goto 14, 3) := by decide +kernel
theorem dX8_best_31 : decode cX8_best 31 = .ok (.aload_n 0, 1) := by decide +kernel
theorem dX8_best_32 : decode cX8_best 32 = .ok (.getfield 26, 3) := by decide +kernel
theorem dX8_best_35 : decode cX8_best 35 = .ok (.iload_n 2, 1) := by decide +kernel
theorem dX8_best_36 : decode cX8_best 36 = .ok (.invokevirtual 186, 3) := by decide +kernel
theorem dX8_best_39 : decode cX8_best 39 = .ok (.ldc 189, 2) := by decide +kernel
theorem dX8_best_41 : decode cX8_best 41 = .ok (.iadd, 1) := by decide +kernel
theorem dX8_best_42 : decode cX8_best 42 = .ok (.ireturn, 1) := by decide +kernel
theorem dX8_says_0 : decode cX8_says 0 = .ok (.aload_n 0, 1) := by decide +kernel
theorem dX8_says_1 : decode cX8_says 1 = .ok (.getfield 10, 3) := by decide +kernel
theorem dX8_says_4 : decode cX8_says 4 = .ok (.iload_n 1, 1) := by decide +kernel
theorem dX8_says_5 : decode cX8_says 5 = .ok (.invokevirtual 137, 3) := by decide +kernel
theorem dX8_says_8 : decode cX8_says 8 = .ok (.ifCond .ne 5, 3) := by decide +kernel
theorem dX8_says_11 : decode cX8_says 11 = .ok (.iconst (-1), 1) := by decide +kernel
theorem dX8_says_12 : decode cX8_says 12 = .ok (.ireturn, 1) := by decide +kernel
theorem dX8_says_13 : decode cX8_says 13 = .ok (.aload_n 0, 1) := by decide +kernel
theorem dX8_says_14 : decode cX8_says 14 = .ok (.iload_n 1, 1) := by decide +kernel
theorem dX8_says_15 : decode cX8_says 15 = .ok (.invokevirtual 222, 3) := by decide +kernel
theorem dX8_says_18 : decode cX8_says 18 = .ok (.ifCond .eq 7, 3) := by decide +kernel
theorem dX8_says_21 : decode cX8_says 21 = .ok (.iconst 1, 1) := by decide +kernel
theorem dX8_says_22 : decode cX8_says 22 = .ok (.goto 4, 3) := by decide +kernel
theorem dX8_says_25 : decode cX8_says 25 = .ok (.iconst 0, 1) := by decide +kernel
theorem dX8_says_26 : decode cX8_says 26 = .ok (.ireturn, 1) := by decide +kernel
theorem dX8_found_0 : decode cX8_found 0 = .ok (.aload_n 0, 1) := by decide +kernel
theorem dX8_found_1 : decode cX8_found 1 = .ok (.getfield 10, 3) := by decide +kernel
theorem dX8_found_4 : decode cX8_found 4 = .ok (.iload_n 1, 1) := by decide +kernel
theorem dX8_found_5 : decode cX8_found 5 = .ok (.invokevirtual 137, 3) := by decide +kernel
theorem dX8_found_8 : decode cX8_found 8 = .ok (.ifCond .eq 13, 3) := by decide +kernel
theorem dX8_found_11 : decode cX8_found 11 = .ok (.iload_n 2, 1) := by decide +kernel
theorem dX8_found_12 : decode cX8_found 12 = .ok (.iconst (-1), 1) := by decide +kernel
theorem dX8_found_13 : decode cX8_found 13 = .ok (.if_icmp .lt 8, 3) := by decide +kernel
theorem dX8_found_16 : decode cX8_found 16 = .ok (.iload_n 2, 1) := by decide +kernel
theorem dX8_found_17 : decode cX8_found 17 = .ok (.iconst 1, 1) := by decide +kernel
theorem dX8_found_18 : decode cX8_found 18 = .ok (.if_icmp .le 5, 3) := by decide +kernel
theorem dX8_found_21 : decode cX8_found 21 = .ok (.iconst (-1), 1) := by decide +kernel
theorem dX8_found_22 : decode cX8_found 22 = .ok (.ireturn, 1) := by decide +kernel
theorem dX8_found_23 : decode cX8_found 23 = .ok (.aload_n 0, 1) := by decide +kernel
theorem dX8_found_24 : decode cX8_found 24 = .ok (.getfield 10, 3) := by decide +kernel
theorem dX8_found_27 : decode cX8_found 27 = .ok (.getfield 225, 3) := by decide +kernel
theorem dX8_found_30 : decode cX8_found 30 = .ok (.iload_n 1, 1) := by decide +kernel
theorem dX8_found_31 : decode cX8_found 31 = .ok (.iaload, 1) := by decide +kernel
theorem dX8_found_32 : decode cX8_found 32 = .ok (.istore 4, 2) := by decide +kernel
theorem dX8_found_34 : decode cX8_found 34 = .ok (.aload_n 0, 1) := by decide +kernel
theorem dX8_found_35 : decode cX8_found 35 = .ok (.getfield 10, 3) := by decide +kernel
theorem dX8_found_38 : decode cX8_found 38 = .ok (.getfield 225, 3) := by decide +kernel
theorem dX8_found_41 : decode cX8_found 41 = .ok (.iload_n 1, 1) := by decide +kernel
theorem dX8_found_42 : decode cX8_found 42 = .ok (.iload_n 2, 1) := by decide +kernel
theorem dX8_found_43 : decode cX8_found 43 = .ok (.iconst (-1), 1) := by decide +kernel
theorem dX8_found_44 : decode cX8_found 44 = .ok (.if_icmp .ne 8, 3) := by decide +kernel
theorem dX8_found_47 : decode cX8_found 47 = .ok (.bipush (-9), 2) := by decide +kernel
theorem dX8_found_49 : decode cX8_found 49 = .ok (.goto 4, 3) := by decide +kernel
theorem dX8_found_52 : decode cX8_found 52 = .ok (.iload_n 2, 1) := by decide +kernel
theorem dX8_found_53 : decode cX8_found 53 = .ok (.iastore, 1) := by decide +kernel
theorem dX8_found_54 : decode cX8_found 54 = .ok (.aload_n 0, 1) := by decide +kernel
theorem dX8_found_55 : decode cX8_found 55 = .ok (.getfield 10, 3) := by decide +kernel
theorem dX8_found_58 : decode cX8_found 58 = .ok (.getfield 228, 3) := by decide +kernel
theorem dX8_found_61 : decode cX8_found 61 = .ok (.iload_n 1, 1) := by decide +kernel
theorem dX8_found_62 : decode cX8_found 62 = .ok (.iload_n 3, 1) := by decide +kernel
theorem dX8_found_63 : decode cX8_found 63 = .ok (.bastore, 1) := by decide +kernel
theorem dX8_found_64 : decode cX8_found 64 = .ok (.iload 4, 2) := by decide +kernel
theorem dX8_found_66 : decode cX8_found 66 = .ok (.ireturn, 1) := by decide +kernel
theorem dX8_rate_0 : decode cX8_rate 0 = .ok (.iload_n 1, 1) := by decide +kernel
theorem dX8_rate_1 : decode cX8_rate 1 = .ok (.ifCond .lt 8, 3) := by decide +kernel
theorem dX8_rate_4 : decode cX8_rate 4 = .ok (.iload_n 1, 1) := by decide +kernel
theorem dX8_rate_5 : decode cX8_rate 5 = .ok (.iconst 1, 1) := by decide +kernel
theorem dX8_rate_6 : decode cX8_rate 6 = .ok (.if_icmp .le 5, 3) := by decide +kernel
theorem dX8_rate_9 : decode cX8_rate 9 = .ok (.iconst (-1), 1) := by decide +kernel
theorem dX8_rate_10 : decode cX8_rate 10 = .ok (.ireturn, 1) := by decide +kernel
theorem dX8_rate_11 : decode cX8_rate 11 = .ok (.iconst 0, 1) := by decide +kernel
theorem dX8_rate_12 : decode cX8_rate 12 = .ok (.istore_n 2, 1) := by decide +kernel
theorem dX8_rate_13 : decode cX8_rate 13 = .ok (.iconst 0, 1) := by decide +kernel
theorem dX8_rate_14 : decode cX8_rate 14 = .ok (.istore_n 3, 1) := by decide +kernel
theorem dX8_rate_15 : decode cX8_rate 15 = .ok (.iconst 0, 1) := by decide +kernel
theorem dX8_rate_16 : decode cX8_rate 16 = .ok (.istore 4, 2) := by decide +kernel
theorem dX8_rate_18 : decode cX8_rate 18 = .ok (.iload 4, 2) := by decide +kernel
theorem dX8_rate_20 : decode cX8_rate 20 = .ok (.aload_n 0, 1) := by decide +kernel
theorem dX8_rate_21 : decode cX8_rate 21 = .ok (.getfield 10, 3) := by decide +kernel
theorem dX8_rate_24 : decode cX8_rate 24 = .ok (.getfield 130, 3) := by decide +kernel
theorem dX8_rate_27 : decode cX8_rate 27 = .ok (.if_icmp .ge 60, 3) := by decide +kernel
theorem dX8_rate_30 : decode cX8_rate 30 = .ok (.aload_n 0, 1) := by decide +kernel
theorem dX8_rate_31 : decode cX8_rate 31 = .ok (.getfield 10, 3) := by decide +kernel
theorem dX8_rate_34 : decode cX8_rate 34 = .ok (.getfield 225, 3) := by decide +kernel
theorem dX8_rate_37 : decode cX8_rate 37 = .ok (.iload 4, 2) := by decide +kernel
theorem dX8_rate_39 : decode cX8_rate 39 = .ok (.iaload, 1) := by decide +kernel
theorem dX8_rate_40 : decode cX8_rate 40 = .ok (.bipush (-9), 2) := by decide +kernel
theorem dX8_rate_42 : decode cX8_rate 42 = .ok (.if_icmp .eq 39, 3) := by decide +kernel
theorem dX8_rate_45 : decode cX8_rate 45 = .ok (.aload_n 0, 1) := by decide +kernel
theorem dX8_rate_46 : decode cX8_rate 46 = .ok (.getfield 10, 3) := by decide +kernel
theorem dX8_rate_49 : decode cX8_rate 49 = .ok (.getfield 228, 3) := by decide +kernel
theorem dX8_rate_52 : decode cX8_rate 52 = .ok (.iload 4, 2) := by decide +kernel
theorem dX8_rate_54 : decode cX8_rate 54 = .ok (.baload, 1) := by decide +kernel
theorem dX8_rate_55 : decode cX8_rate 55 = .ok (.ifCond .ne 6, 3) := by decide +kernel
theorem dX8_rate_58 : decode cX8_rate 58 = .ok (.goto 23, 3) := by decide +kernel
theorem dX8_rate_61 : decode cX8_rate 61 = .ok (.iinc 2 1, 3) := by decide +kernel
theorem dX8_rate_64 : decode cX8_rate 64 = .ok (.aload_n 0, 1) := by decide +kernel
theorem dX8_rate_65 : decode cX8_rate 65 = .ok (.getfield 10, 3) := by decide +kernel
theorem dX8_rate_68 : decode cX8_rate 68 = .ok (.getfield 225, 3) := by decide +kernel
theorem dX8_rate_71 : decode cX8_rate 71 = .ok (.iload 4, 2) := by decide +kernel
theorem dX8_rate_73 : decode cX8_rate 73 = .ok (.iaload, 1) := by decide +kernel
theorem dX8_rate_74 : decode cX8_rate 74 = .ok (.iconst 1, 1) := by decide +kernel
theorem dX8_rate_75 : decode cX8_rate 75 = .ok (.if_icmp .ne 6, 3) := by decide +kernel
theorem dX8_rate_78 : decode cX8_rate 78 = .ok (.iinc 3 1, 3) := by decide +kernel
theorem dX8_rate_81 : decode cX8_rate 81 = .ok (.iinc 4 1, 3) := by decide +kernel
theorem dX8_rate_84 : decode cX8_rate 84 = .ok (.goto (-66), 3) := by decide +kernel
theorem dX8_rate_87 : decode cX8_rate 87 = .ok (.iload_n 2, 1) := by decide +kernel
theorem dX8_rate_88 : decode cX8_rate 88 = .ok (.ifCond .ne 6, 3) := by decide +kernel
theorem dX8_rate_91 : decode cX8_rate 91 = .ok (.bipush (-3), 2) := by decide +kernel
theorem dX8_rate_93 : decode cX8_rate 93 = .ok (.ireturn, 1) := by decide +kernel
theorem dX8_rate_94 : decode cX8_rate 94 = .ok (.iload_n 3, 1) := by decide +kernel
theorem dX8_rate_95 : decode cX8_rate 95 = .ok (.i2l, 1) := by decide +kernel
theorem dX8_rate_96 : decode cX8_rate 96 = .ok (.iload_n 2, 1) := by decide +kernel
theorem dX8_rate_97 : decode cX8_rate 97 = .ok (.i2l, 1) := by decide +kernel
theorem dX8_rate_98 : decode cX8_rate 98 = .ok (.iload_n 1, 1) := by decide +kernel
theorem dX8_rate_99 : decode cX8_rate 99 = .ok (.invokestatic 211, 3) := by decide +kernel
theorem dX8_rate_102 : decode cX8_rate 102 = .ok (.l2i, 1) := by decide +kernel
theorem dX8_rate_103 : decode cX8_rate 103 = .ok (.ireturn, 1) := by decide +kernel
theorem dX8_right_0 : decode cX8_right 0 = .ok (.iload_n 1, 1) := by decide +kernel
theorem dX8_right_1 : decode cX8_right 1 = .ok (.ifCond .lt 8, 3) := by decide +kernel
theorem dX8_right_4 : decode cX8_right 4 = .ok (.iload_n 1, 1) := by decide +kernel
theorem dX8_right_5 : decode cX8_right 5 = .ok (.iconst 3, 1) := by decide +kernel
theorem dX8_right_6 : decode cX8_right 6 = .ok (.if_icmp .le 5, 3) := by decide +kernel
theorem dX8_right_9 : decode cX8_right 9 = .ok (.iconst (-1), 1) := by decide +kernel
theorem dX8_right_10 : decode cX8_right 10 = .ok (.ireturn, 1) := by decide +kernel
theorem dX8_right_11 : decode cX8_right 11 = .ok (.iconst 0, 1) := by decide +kernel
theorem dX8_right_12 : decode cX8_right 12 = .ok (.istore_n 2, 1) := by decide +kernel
theorem dX8_right_13 : decode cX8_right 13 = .ok (.iconst 0, 1) := by decide +kernel
theorem dX8_right_14 : decode cX8_right 14 = .ok (.istore_n 3, 1) := by decide +kernel
theorem dX8_right_15 : decode cX8_right 15 = .ok (.iload_n 3, 1) := by decide +kernel
theorem dX8_right_16 : decode cX8_right 16 = .ok (.aload_n 0, 1) := by decide +kernel
theorem dX8_right_17 : decode cX8_right 17 = .ok (.getfield 10, 3) := by decide +kernel
theorem dX8_right_20 : decode cX8_right 20 = .ok (.getfield 130, 3) := by decide +kernel
theorem dX8_right_23 : decode cX8_right 23 = .ok (.if_icmp .ge 69, 3) := by decide +kernel
theorem dX8_right_26 : decode cX8_right 26 = .ok (.aload_n 0, 1) := by decide +kernel
theorem dX8_right_27 : decode cX8_right 27 = .ok (.getfield 10, 3) := by decide +kernel
theorem dX8_right_30 : decode cX8_right 30 = .ok (.getfield 225, 3) := by decide +kernel
theorem dX8_right_33 : decode cX8_right 33 = .ok (.iload_n 3, 1) := by decide +kernel
theorem dX8_right_34 : decode cX8_right 34 = .ok (.iaload, 1) := by decide +kernel
theorem dX8_right_35 : decode cX8_right 35 = .ok (.bipush (-9), 2) := by decide +kernel
theorem dX8_right_37 : decode cX8_right 37 = .ok (.if_icmp .ne 6, 3) := by decide +kernel
theorem dX8_right_40 : decode cX8_right 40 = .ok (.goto 46, 3) := by decide +kernel
theorem dX8_right_43 : decode cX8_right 43 = .ok (.aload_n 0, 1) := by decide +kernel
theorem dX8_right_44 : decode cX8_right 44 = .ok (.iload_n 3, 1) := by decide +kernel
theorem dX8_right_45 : decode cX8_right 45 = .ok (.invokevirtual 222, 3) := by decide +kernel
theorem dX8_right_48 : decode cX8_right 48 = .ok (.ifCond .eq 7, 3) := by decide +kernel
theorem dX8_right_51 : decode cX8_right 51 = .ok (.iconst 0, 1) := by decide +kernel
theorem dX8_right_52 : decode cX8_right 52 = .ok (.goto 4, 3) := by decide +kernel
theorem dX8_right_55 : decode cX8_right 55 = .ok (.iconst 2, 1) := by decide +kernel
theorem dX8_right_56 : decode cX8_right 56 = .ok (.aload_n 0, 1) := by decide +kernel
theorem dX8_right_57 : decode cX8_right 57 = .ok (.getfield 10, 3) := by decide +kernel
theorem dX8_right_60 : decode cX8_right 60 = .ok (.getfield 225, 3) := by decide +kernel
theorem dX8_right_63 : decode cX8_right 63 = .ok (.iload_n 3, 1) := by decide +kernel
theorem dX8_right_64 : decode cX8_right 64 = .ok (.iaload, 1) := by decide +kernel
theorem dX8_right_65 : decode cX8_right 65 = .ok (.iconst 1, 1) := by decide +kernel
theorem dX8_right_66 : decode cX8_right 66 = .ok (.if_icmp .ne 7, 3) := by decide +kernel
theorem dX8_right_69 : decode cX8_right 69 = .ok (.iconst 0, 1) := by decide +kernel
theorem dX8_right_70 : decode cX8_right 70 = .ok (.goto 4, 3) := by decide +kernel
theorem dX8_right_73 : decode cX8_right 73 = .ok (.iconst 1, 1) := by decide +kernel
theorem dX8_right_74 : decode cX8_right 74 = .ok (.iadd, 1) := by decide +kernel
theorem dX8_right_75 : decode cX8_right 75 = .ok (.istore 4, 2) := by decide +kernel
theorem dX8_right_77 : decode cX8_right 77 = .ok (.iload 4, 2) := by decide +kernel
theorem dX8_right_79 : decode cX8_right 79 = .ok (.iload_n 1, 1) := by decide +kernel
theorem dX8_right_80 : decode cX8_right 80 = .ok (.if_icmp .ne 6, 3) := by decide +kernel
theorem dX8_right_83 : decode cX8_right 83 = .ok (.iinc 2 1, 3) := by decide +kernel
theorem dX8_right_86 : decode cX8_right 86 = .ok (.iinc 3 1, 3) := by decide +kernel
theorem dX8_right_89 : decode cX8_right 89 = .ok (.goto (-74), 3) := by decide +kernel
theorem dX8_right_92 : decode cX8_right 92 = .ok (.iload_n 2, 1) := by decide +kernel
theorem dX8_right_93 : decode cX8_right 93 = .ok (.ireturn, 1) := by decide +kernel
theorem dX8_seed_0 : decode cX8_seed 0 = .ok (.aload_n 0, 1) := by decide +kernel
theorem dX8_seed_1 : decode cX8_seed 1 = .ok (.getfield 10, 3) := by decide +kernel
theorem dX8_seed_4 : decode cX8_seed 4 = .ok (.getfield 232, 3) := by decide +kernel
theorem dX8_seed_7 : decode cX8_seed 7 = .ok (.istore_n 2, 1) := by decide +kernel
theorem dX8_seed_8 : decode cX8_seed 8 = .ok (.aload_n 0, 1) := by decide +kernel
theorem dX8_seed_9 : decode cX8_seed 9 = .ok (.getfield 10, 3) := by decide +kernel
theorem dX8_seed_12 : decode cX8_seed 12 = .ok (.iload_n 1, 1) := by decide +kernel
theorem dX8_seed_13 : decode cX8_seed 13 = .ok (.putfield 232, 3) := by decide +kernel
theorem dX8_seed_16 : decode cX8_seed 16 = .ok (.iload_n 2, 1) := by decide +kernel
theorem dX8_seed_17 : decode cX8_seed 17 = .ok (.ireturn, 1) := by decide +kernel
theorem dX8_draw_0 : decode cX8_draw 0 = .ok (.aload_n 0, 1) := by decide +kernel
theorem dX8_draw_1 : decode cX8_draw 1 = .ok (.getfield 10, 3) := by decide +kernel
theorem dX8_draw_4 : decode cX8_draw 4 = .ok (.getfield 130, 3) := by decide +kernel
theorem dX8_draw_7 : decode cX8_draw 7 = .ok (.aload_n 0, 1) := by decide +kernel
theorem dX8_draw_8 : decode cX8_draw 8 = .ok (.getfield 10, 3) := by decide +kernel
theorem dX8_draw_11 : decode cX8_draw 11 = .ok (.invokevirtual 235, 3) := by decide +kernel
theorem dX8_draw_14 : decode cX8_draw 14 = .ok (.isub, 1) := by decide +kernel
theorem dX8_draw_15 : decode cX8_draw 15 = .ok (.istore_n 1, 1) := by decide +kernel
theorem dX8_draw_16 : decode cX8_draw 16 = .ok (.iload_n 1, 1) := by decide +kernel
theorem dX8_draw_17 : decode cX8_draw 17 = .ok (.ifCond .gt 6, 3) := by decide +kernel
theorem dX8_draw_20 : decode cX8_draw 20 = .ok (.bipush (-3), 2) := by decide +kernel
theorem dX8_draw_22 : decode cX8_draw 22 = .ok (.ireturn, 1) := by decide +kernel
theorem dX8_draw_23 : decode cX8_draw 23 = .ok (.aload_n 0, 1) := by decide +kernel
theorem dX8_draw_24 : decode cX8_draw 24 = .ok (.getfield 10, 3) := by decide +kernel
theorem dX8_draw_27 : decode cX8_draw 27 = .ok (.aload_n 0, 1) := by decide +kernel
theorem dX8_draw_28 : decode cX8_draw 28 = .ok (.getfield 10, 3) := by decide +kernel
theorem dX8_draw_31 : decode cX8_draw 31 = .ok (.getfield 232, 3) := by decide +kernel
theorem dX8_draw_34 : decode cX8_draw 34 = .ok (.ldc 238, 2) := by decide +kernel
theorem dX8_draw_36 : decode cX8_draw 36 = .ok (.imul, 1) := by decide +kernel
theorem dX8_draw_37 : decode cX8_draw 37 = .ok (.sipush 12345, 3) := by decide +kernel
theorem dX8_draw_40 : decode cX8_draw 40 = .ok (.iadd, 1) := by decide +kernel
theorem dX8_draw_41 : decode cX8_draw 41 = .ok (.putfield 232, 3) := by decide +kernel
theorem dX8_draw_44 : decode cX8_draw 44 = .ok (.aload_n 0, 1) := by decide +kernel
theorem dX8_draw_45 : decode cX8_draw 45 = .ok (.getfield 10, 3) := by decide +kernel
theorem dX8_draw_48 : decode cX8_draw 48 = .ok (.getfield 232, 3) := by decide +kernel
theorem dX8_draw_51 : decode cX8_draw 51 = .ok (.bipush 16, 2) := by decide +kernel
theorem dX8_draw_53 : decode cX8_draw 53 = .ok (.iushr, 1) := by decide +kernel
theorem dX8_draw_54 : decode cX8_draw 54 = .ok (.iload_n 1, 1) := by decide +kernel
theorem dX8_draw_55 : decode cX8_draw 55 = .ok (.irem, 1) := by decide +kernel
theorem dX8_draw_56 : decode cX8_draw 56 = .ok (.istore_n 2, 1) := by decide +kernel
theorem dX8_draw_57 : decode cX8_draw 57 = .ok (.iconst 0, 1) := by decide +kernel
theorem dX8_draw_58 : decode cX8_draw 58 = .ok (.istore_n 3, 1) := by decide +kernel
theorem dX8_draw_59 : decode cX8_draw 59 = .ok (.iload_n 3, 1) := by decide +kernel
theorem dX8_draw_60 : decode cX8_draw 60 = .ok (.aload_n 0, 1) := by decide +kernel
theorem dX8_draw_61 : decode cX8_draw 61 = .ok (.getfield 10, 3) := by decide +kernel
theorem dX8_draw_64 : decode cX8_draw 64 = .ok (.getfield 130, 3) := by decide +kernel
theorem dX8_draw_67 : decode cX8_draw 67 = .ok (.if_icmp .ge 35, 3) := by decide +kernel
theorem dX8_draw_70 : decode cX8_draw 70 = .ok (.aload_n 0, 1) := by decide +kernel
theorem dX8_draw_71 : decode cX8_draw 71 = .ok (.getfield 10, 3) := by decide +kernel
theorem dX8_draw_74 : decode cX8_draw 74 = .ok (.getfield 225, 3) := by decide +kernel
theorem dX8_draw_77 : decode cX8_draw 77 = .ok (.iload_n 3, 1) := by decide +kernel
theorem dX8_draw_78 : decode cX8_draw 78 = .ok (.iaload, 1) := by decide +kernel
theorem dX8_draw_79 : decode cX8_draw 79 = .ok (.bipush (-9), 2) := by decide +kernel
theorem dX8_draw_81 : decode cX8_draw 81 = .ok (.if_icmp .eq 6, 3) := by decide +kernel
theorem dX8_draw_84 : decode cX8_draw 84 = .ok (.goto 12, 3) := by decide +kernel
theorem dX8_draw_87 : decode cX8_draw 87 = .ok (.iload_n 2, 1) := by decide +kernel
theorem dX8_draw_88 : decode cX8_draw 88 = .ok (.ifCond .ne 5, 3) := by decide +kernel
theorem dX8_draw_91 : decode cX8_draw 91 = .ok (.iload_n 3, 1) := by decide +kernel
theorem dX8_draw_92 : decode cX8_draw 92 = .ok (.ireturn, 1) := by decide +kernel
theorem dX8_draw_93 : decode cX8_draw 93 = .ok (.iinc 2 (-1), 3) := by decide +kernel
theorem dX8_draw_96 : decode cX8_draw 96 = .ok (.iinc 3 1, 3) := by decide +kernel
theorem dX8_draw_99 : decode cX8_draw 99 = .ok (.goto (-40), 3) := by decide +kernel
theorem dX8_draw_102 : decode cX8_draw 102 = .ok (.bipush (-3), 2) := by decide +kernel
theorem dX8_draw_104 : decode cX8_draw 104 = .ok (.ireturn, 1) := by decide +kernel
theorem dX8_prove_0 : decode cX8_prove 0 = .ok (.aload_n 0, 1) := by decide +kernel
theorem dX8_prove_1 : decode cX8_prove 1 = .ok (.getfield 26, 3) := by decide +kernel
theorem dX8_prove_4 : decode cX8_prove 4 = .ok (.aload_n 0, 1) := by decide +kernel
theorem dX8_prove_5 : decode cX8_prove 5 = .ok (.getfield 10, 3) := by decide +kernel
theorem dX8_prove_8 : decode cX8_prove 8 = .ok (.iconst (-1), 1) := by decide +kernel
theorem dX8_prove_9 : decode cX8_prove 9 = .ok (.invokevirtual 190, 3) := by decide +kernel
theorem dX8_prove_12 : decode cX8_prove 12 = .ok (.istore_n 1, 1) := by decide +kernel
theorem dX8_prove_13 : decode cX8_prove 13 = .ok (.iload_n 1, 1) := by decide +kernel
theorem dX8_prove_14 : decode cX8_prove 14 = .ok (.ifCond .ge 6, 3) := by decide +kernel
theorem dX8_prove_17 : decode cX8_prove 17 = .ok (.bipush (-3), 2) := by decide +kernel
theorem dX8_prove_19 : decode cX8_prove 19 = .ok (.ireturn, 1) := by decide +kernel
theorem dX8_prove_20 : decode cX8_prove 20 = .ok (.aload_n 0, 1) := by decide +kernel
theorem dX8_prove_21 : decode cX8_prove 21 = .ok (.getfield 40, 3) := by decide +kernel
theorem dX8_prove_24 : decode cX8_prove 24 = .ok (.aload_n 0, 1) := by decide +kernel
theorem dX8_prove_25 : decode cX8_prove 25 = .ok (.getfield 10, 3) := by decide +kernel
theorem dX8_prove_28 : decode cX8_prove 28 = .ok (.aload_n 0, 1) := by decide +kernel
theorem dX8_prove_29 : decode cX8_prove 29 = .ok (.getfield 26, 3) := by decide +kernel
theorem dX8_prove_32 : decode cX8_prove 32 = .ok (.iload_n 1, 1) := by decide +kernel
theorem dX8_prove_33 : decode cX8_prove 33 = .ok (.invokevirtual 239, 3) := by decide +kernel
theorem dX8_prove_36 : decode cX8_prove 36 = .ok (.aload_n 0, 1) := by decide +kernel
theorem dX8_prove_37 : decode cX8_prove 37 = .ok (.getfield 40, 3) := by decide +kernel
theorem dX8_prove_40 : decode cX8_prove 40 = .ok (.getfield 243, 3) := by decide +kernel
theorem dX8_prove_43 : decode cX8_prove 43 = .ok (.ireturn, 1) := by decide +kernel
theorem dX8_row_0 : decode cX8_row 0 = .ok (.aload_n 0, 1) := by decide +kernel
theorem dX8_row_1 : decode cX8_row 1 = .ok (.getfield 40, 3) := by decide +kernel
theorem dX8_row_4 : decode cX8_row 4 = .ok (.iload_n 1, 1) := by decide +kernel
theorem dX8_row_5 : decode cX8_row 5 = .ok (.iload_n 2, 1) := by decide +kernel
theorem dX8_row_6 : decode cX8_row 6 = .ok (.invokevirtual 246, 3) := by decide +kernel
theorem dX8_row_9 : decode cX8_row 9 = .ok (.ifCond .ne 6, 3) := by decide +kernel
theorem dX8_row_12 : decode cX8_row 12 = .ok (.bipush (-9), 2) := by decide +kernel
theorem dX8_row_14 : decode cX8_row 14 = .ok (.ireturn, 1) := by decide +kernel
theorem dX8_row_15 : decode cX8_row 15 = .ok (.aload_n 0, 1) := by decide +kernel
theorem dX8_row_16 : decode cX8_row 16 = .ok (.getfield 40, 3) := by decide +kernel
theorem dX8_row_19 : decode cX8_row 19 = .ok (.iload_n 1, 1) := by decide +kernel
theorem dX8_row_20 : decode cX8_row 20 = .ok (.iload_n 2, 1) := by decide +kernel
theorem dX8_row_21 : decode cX8_row 21 = .ok (.invokevirtual 249, 3) := by decide +kernel
theorem dX8_row_24 : decode cX8_row 24 = .ok (.ireturn, 1) := by decide +kernel
theorem dX8_alterRow_0 : decode cX8_alterRow 0 = .ok (.aload_n 0, 1) := by decide +kernel
theorem dX8_alterRow_1 : decode cX8_alterRow 1 = .ok (.getfield 40, 3) := by decide +kernel
theorem dX8_alterRow_4 : decode cX8_alterRow 4 = .ok (.iload_n 1, 1) := by decide +kernel
theorem dX8_alterRow_5 : decode cX8_alterRow 5 = .ok (.iload_n 2, 1) := by decide +kernel
theorem dX8_alterRow_6 : decode cX8_alterRow 6 = .ok (.invokevirtual 246, 3) := by decide +kernel
theorem dX8_alterRow_9 : decode cX8_alterRow 9 = .ok (.ifCond .ne 6, 3) := by decide +kernel
theorem dX8_alterRow_12 : decode cX8_alterRow 12 = .ok (.bipush (-9), 2) := by decide +kernel
theorem dX8_alterRow_14 : decode cX8_alterRow 14 = .ok (.ireturn, 1) := by decide +kernel
theorem dX8_alterRow_15 : decode cX8_alterRow 15 = .ok (.aload_n 0, 1) := by decide +kernel
theorem dX8_alterRow_16 : decode cX8_alterRow 16 = .ok (.getfield 40, 3) := by decide +kernel
theorem dX8_alterRow_19 : decode cX8_alterRow 19 = .ok (.iload_n 1, 1) := by decide +kernel
theorem dX8_alterRow_20 : decode cX8_alterRow 20 = .ok (.iload_n 2, 1) := by decide +kernel
theorem dX8_alterRow_21 : decode cX8_alterRow 21 = .ok (.invokevirtual 249, 3) := by decide +kernel
theorem dX8_alterRow_24 : decode cX8_alterRow 24 = .ok (.istore 4, 2) := by decide +kernel
theorem dX8_alterRow_26 : decode cX8_alterRow 26 = .ok (.aload_n 0, 1) := by decide +kernel
theorem dX8_alterRow_27 : decode cX8_alterRow 27 = .ok (.getfield 40, 3) := by decide +kernel
theorem dX8_alterRow_30 : decode cX8_alterRow 30 = .ok (.getfield 252, 3) := by decide +kernel
theorem dX8_alterRow_33 : decode cX8_alterRow 33 = .ok (.iload_n 1, 1) := by decide +kernel
theorem dX8_alterRow_34 : decode cX8_alterRow 34 = .ok (.iconst 3, 1) := by decide +kernel
theorem dX8_alterRow_35 : decode cX8_alterRow 35 = .ok (.imul, 1) := by decide +kernel
theorem dX8_alterRow_36 : decode cX8_alterRow 36 = .ok (.iload_n 2, 1) := by decide +kernel
theorem dX8_alterRow_37 : decode cX8_alterRow 37 = .ok (.iadd, 1) := by decide +kernel
theorem dX8_alterRow_38 : decode cX8_alterRow 38 = .ok (.iload_n 3, 1) := by decide +kernel
theorem dX8_alterRow_39 : decode cX8_alterRow 39 = .ok (.iastore, 1) := by decide +kernel
theorem dX8_alterRow_40 : decode cX8_alterRow 40 = .ok (.iload 4, 2) := by decide +kernel
theorem dX8_alterRow_42 : decode cX8_alterRow 42 = .ok (.ireturn, 1) := by decide +kernel
theorem dX8_judge_0 : decode cX8_judge 0 = .ok (.aload_n 0, 1) := by decide +kernel
theorem dX8_judge_1 : decode cX8_judge 1 = .ok (.getfield 26, 3) := by decide +kernel
theorem dX8_judge_4 : decode cX8_judge 4 = .ok (.aload_n 0, 1) := by decide +kernel
theorem dX8_judge_5 : decode cX8_judge 5 = .ok (.getfield 10, 3) := by decide +kernel
theorem dX8_judge_8 : decode cX8_judge 8 = .ok (.iconst (-1), 1) := by decide +kernel
theorem dX8_judge_9 : decode cX8_judge 9 = .ok (.invokevirtual 190, 3) := by decide +kernel
theorem dX8_judge_12 : decode cX8_judge 12 = .ok (.istore_n 1, 1) := by decide +kernel
theorem dX8_judge_13 : decode cX8_judge 13 = .ok (.iload_n 1, 1) := by decide +kernel
theorem dX8_judge_14 : decode cX8_judge 14 = .ok (.ifCond .ge 6, 3) := by decide +kernel
theorem dX8_judge_17 : decode cX8_judge 17 = .ok (.bipush (-3), 2) := by decide +kernel
theorem dX8_judge_19 : decode cX8_judge 19 = .ok (.ireturn, 1) := by decide +kernel
theorem dX8_judge_20 : decode cX8_judge 20 = .ok (.aload_n 0, 1) := by decide +kernel
theorem dX8_judge_21 : decode cX8_judge 21 = .ok (.getfield 44, 3) := by decide +kernel
theorem dX8_judge_24 : decode cX8_judge 24 = .ok (.aload_n 0, 1) := by decide +kernel
theorem dX8_judge_25 : decode cX8_judge 25 = .ok (.getfield 10, 3) := by decide +kernel
theorem dX8_judge_28 : decode cX8_judge 28 = .ok (.aload_n 0, 1) := by decide +kernel
theorem dX8_judge_29 : decode cX8_judge 29 = .ok (.getfield 26, 3) := by decide +kernel
theorem dX8_judge_32 : decode cX8_judge 32 = .ok (.iload_n 1, 1) := by decide +kernel
theorem dX8_judge_33 : decode cX8_judge 33 = .ok (.invokevirtual 239, 3) := by decide +kernel
theorem dX8_judge_36 : decode cX8_judge 36 = .ok (.iconst 0, 1) := by decide +kernel
theorem dX8_judge_37 : decode cX8_judge 37 = .ok (.istore_n 2, 1) := by decide +kernel
theorem dX8_judge_38 : decode cX8_judge 38 = .ok (.iload_n 2, 1) := by decide +kernel
theorem dX8_judge_39 : decode cX8_judge 39 = .ok (.aload_n 0, 1) := by decide +kernel
theorem dX8_judge_40 : decode cX8_judge 40 = .ok (.getfield 40, 3) := by decide +kernel
theorem dX8_judge_43 : decode cX8_judge 43 = .ok (.getfield 243, 3) := by decide +kernel
theorem dX8_judge_46 : decode cX8_judge 46 = .ok (.if_icmp .ge 28, 3) := by decide +kernel
theorem dX8_judge_49 : decode cX8_judge 49 = .ok (.aload_n 0, 1) := by decide +kernel
theorem dX8_judge_50 : decode cX8_judge 50 = .ok (.getfield 44, 3) := by decide +kernel
theorem dX8_judge_53 : decode cX8_judge 53 = .ok (.aload_n 0, 1) := by decide +kernel
theorem dX8_judge_54 : decode cX8_judge 54 = .ok (.getfield 40, 3) := by decide +kernel
theorem dX8_judge_57 : decode cX8_judge 57 = .ok (.iload_n 2, 1) := by decide +kernel
theorem dX8_judge_58 : decode cX8_judge 58 = .ok (.invokevirtual 255, 3) := by decide +kernel
theorem dX8_judge_61 : decode cX8_judge 61 = .ok (.ifCond .ne 7, 3) := by decide +kernel
theorem dX8_judge_64 : decode cX8_judge 64 = .ok (.iload_n 2, 1) := by decide +kernel
theorem dX8_judge_65 : decode cX8_judge 65 = .ok (.iconst 1, 1) := by decide +kernel
theorem dX8_judge_66 : decode cX8_judge 66 = .ok (.iadd, 1) := by decide +kernel
theorem dX8_judge_67 : decode cX8_judge 67 = .ok (.ireturn, 1) := by decide +kernel
theorem dX8_judge_68 : decode cX8_judge 68 = .ok (.iinc 2 1, 3) := by decide +kernel
theorem dX8_judge_71 : decode cX8_judge 71 = .ok (.goto (-33), 3) := by decide +kernel
theorem dX8_judge_74 : decode cX8_judge 74 = .ok (.aload_n 0, 1) := by decide +kernel
theorem dX8_judge_75 : decode cX8_judge 75 = .ok (.getfield 40, 3) := by decide +kernel
theorem dX8_judge_78 : decode cX8_judge 78 = .ok (.getfield 243, 3) := by decide +kernel
theorem dX8_judge_81 : decode cX8_judge 81 = .ok (.aload_n 0, 1) := by decide +kernel
theorem dX8_judge_82 : decode cX8_judge 82 = .ok (.getfield 44, 3) := by decide +kernel
theorem dX8_judge_85 : decode cX8_judge 85 = .ok (.getfield 243, 3) := by decide +kernel
theorem dX8_judge_88 : decode cX8_judge 88 = .ok (.if_icmp .ge 9, 3) := by decide +kernel
theorem dX8_judge_91 : decode cX8_judge 91 = .ok (.sipush 222, 3) := by decide +kernel
theorem dX8_judge_94 : decode cX8_judge 94 = .ok (.goto 4, 3) := by decide +kernel
theorem dX8_judge_97 : decode cX8_judge 97 = .ok (.iconst 0, 1) := by decide +kernel
theorem dX8_judge_98 : decode cX8_judge 98 = .ok (.ireturn, 1) := by decide +kernel
theorem dX8_sheet_0 : decode cX8_sheet 0 = .ok (.iload_n 1, 1) := by decide +kernel
theorem dX8_sheet_1 : decode cX8_sheet 1 = .ok (.invokestatic 259, 3) := by decide +kernel
theorem dX8_sheet_4 : decode cX8_sheet 4 = .ok (.ifCond .eq 13, 3) := by decide +kernel
theorem dX8_sheet_7 : decode cX8_sheet 7 = .ok (.iload_n 2, 1) := by decide +kernel
theorem dX8_sheet_8 : decode cX8_sheet 8 = .ok (.iconst (-1), 1) := by decide +kernel
theorem dX8_sheet_9 : decode cX8_sheet 9 = .ok (.if_icmp .lt 8, 3) := by decide +kernel
theorem dX8_sheet_12 : decode cX8_sheet 12 = .ok (.iload_n 2, 1) := by decide +kernel
theorem dX8_sheet_13 : decode cX8_sheet 13 = .ok (.iconst 4, 1) := by decide +kernel
theorem dX8_sheet_14 : decode cX8_sheet 14 = .ok (.if_icmp .lt 5, 3) := by decide +kernel
theorem dX8_sheet_17 : decode cX8_sheet 17 = .ok (.iconst (-1), 1) := by decide +kernel
theorem dX8_sheet_18 : decode cX8_sheet 18 = .ok (.ireturn, 1) := by decide +kernel
theorem dX8_sheet_19 : decode cX8_sheet 19 = .ok (.iload_n 2, 1) := by decide +kernel
theorem dX8_sheet_20 : decode cX8_sheet 20 = .ok (.iconst (-1), 1) := by decide +kernel
theorem dX8_sheet_21 : decode cX8_sheet 21 = .ok (.if_icmp .ne 13, 3) := by decide +kernel
theorem dX8_sheet_24 : decode cX8_sheet 24 = .ok (.aload_n 0, 1) := by decide +kernel
theorem dX8_sheet_25 : decode cX8_sheet 25 = .ok (.getfield 50, 3) := by decide +kernel
theorem dX8_sheet_28 : decode cX8_sheet 28 = .ok (.iload_n 1, 1) := by decide +kernel
theorem dX8_sheet_29 : decode cX8_sheet 29 = .ok (.invokevirtual 262, 3) := by decide +kernel
theorem dX8_sheet_32 : decode cX8_sheet 32 = .ok (.iconst 1, 1) := by decide +kernel
theorem dX8_sheet_33 : decode cX8_sheet 33 = .ok (.ireturn, 1) := by decide +kernel
theorem dX8_sheet_34 : decode cX8_sheet 34 = .ok (.iload_n 3, 1) := by decide +kernel
theorem dX8_sheet_35 : decode cX8_sheet 35 = .ok (.bipush 40, 2) := by decide +kernel
theorem dX8_sheet_37 : decode cX8_sheet 37 = .ok (.if_icmp .le 5, 3) := by decide +kernel
theorem dX8_sheet_40 : decode cX8_sheet 40 = .ok (.iconst (-1), 1) := by decide +kernel
theorem dX8_sheet_41 : decode cX8_sheet 41 = .ok (.ireturn, 1) := by decide +kernel
theorem dX8_sheet_42 : decode cX8_sheet 42 = .ok (.iload_n 3, 1) := by decide +kernel
theorem dX8_sheet_43 : decode cX8_sheet 43 = .ok (.ifCond .ge 6, 3) := by decide +kernel
theorem dX8_sheet_46 : decode cX8_sheet 46 = .ok (.bipush (-14), 2) := by decide +kernel
theorem dX8_sheet_48 : decode cX8_sheet 48 = .ok (.ireturn, 1) := by decide +kernel
theorem dX8_sheet_49 : decode cX8_sheet 49 = .ok (.aload_n 0, 1) := by decide +kernel
theorem dX8_sheet_50 : decode cX8_sheet 50 = .ok (.getfield 50, 3) := by decide +kernel
theorem dX8_sheet_53 : decode cX8_sheet 53 = .ok (.iload_n 1, 1) := by decide +kernel
theorem dX8_sheet_54 : decode cX8_sheet 54 = .ok (.iload_n 2, 1) := by decide +kernel
theorem dX8_sheet_55 : decode cX8_sheet 55 = .ok (.iload_n 3, 1) := by decide +kernel
theorem dX8_sheet_56 : decode cX8_sheet 56 = .ok (.invokevirtual 265, 3) := by decide +kernel
theorem dX8_sheet_59 : decode cX8_sheet 59 = .ok (.iconst 1, 1) := by decide +kernel
theorem dX8_sheet_60 : decode cX8_sheet 60 = .ok (.ireturn, 1) := by decide +kernel
theorem dX8_put_0 : decode cX8_put 0 = .ok (.iload_n 1, 1) := by decide +kernel
theorem dX8_put_1 : decode cX8_put 1 = .ok (.invokestatic 259, 3) := by decide +kernel
theorem dX8_put_4 : decode cX8_put 4 = .ok (.ifCond .ne 5, 3) := by decide +kernel
theorem dX8_put_7 : decode cX8_put 7 = .ok (.iconst (-1), 1) := by decide +kernel
theorem dX8_put_8 : decode cX8_put 8 = .ok (.ireturn, 1) := by decide +kernel
theorem dX8_put_9 : decode cX8_put 9 = .ok (.aload_n 0, 1) := by decide +kernel
theorem dX8_put_10 : decode cX8_put 10 = .ok (.getfield 50, 3) := by decide +kernel
theorem dX8_put_13 : decode cX8_put 13 = .ok (.iload_n 1, 1) := by decide +kernel
theorem dX8_put_14 : decode cX8_put 14 = .ok (.invokevirtual 269, 3) := by decide +kernel
theorem dX8_put_17 : decode cX8_put 17 = .ok (.ifCond .eq 6, 3) := by decide +kernel
theorem dX8_put_20 : decode cX8_put 20 = .ok (.bipush (-11), 2) := by decide +kernel
theorem dX8_put_22 : decode cX8_put 22 = .ok (.ireturn, 1) := by decide +kernel
theorem dX8_put_23 : decode cX8_put 23 = .ok (.aload_n 0, 1) := by decide +kernel
theorem dX8_put_24 : decode cX8_put 24 = .ok (.getfield 50, 3) := by decide +kernel
theorem dX8_put_27 : decode cX8_put 27 = .ok (.iload_n 1, 1) := by decide +kernel
theorem dX8_put_28 : decode cX8_put 28 = .ok (.iload_n 2, 1) := by decide +kernel
theorem dX8_put_29 : decode cX8_put 29 = .ok (.invokevirtual 272, 3) := by decide +kernel
theorem dX8_put_32 : decode cX8_put 32 = .ok (.ifCond .ne 6, 3) := by decide +kernel
theorem dX8_put_35 : decode cX8_put 35 = .ok (.bipush (-12), 2) := by decide +kernel
theorem dX8_put_37 : decode cX8_put 37 = .ok (.ireturn, 1) := by decide +kernel
theorem dX8_put_38 : decode cX8_put 38 = .ok (.aload_n 0, 1) := by decide +kernel
theorem dX8_put_39 : decode cX8_put 39 = .ok (.getfield 50, 3) := by decide +kernel
theorem dX8_put_42 : decode cX8_put 42 = .ok (.iload_n 1, 1) := by decide +kernel
theorem dX8_put_43 : decode cX8_put 43 = .ok (.iload_n 2, 1) := by decide +kernel
theorem dX8_put_44 : decode cX8_put 44 = .ok (.iload_n 3, 1) := by decide +kernel
theorem dX8_put_45 : decode cX8_put 45 = .ok (.invokevirtual 275, 3) := by decide +kernel
theorem dX8_put_48 : decode cX8_put 48 = .ok (.iconst 1, 1) := by decide +kernel
theorem dX8_put_49 : decode cX8_put 49 = .ok (.ireturn, 1) := by decide +kernel
theorem dX8_item_0 : decode cX8_item 0 = .ok (.iload_n 1, 1) := by decide +kernel
theorem dX8_item_1 : decode cX8_item 1 = .ok (.invokestatic 259, 3) := by decide +kernel
theorem dX8_item_4 : decode cX8_item 4 = .ok (.ifCond .eq 12, 3) := by decide +kernel
theorem dX8_item_7 : decode cX8_item 7 = .ok (.iload_n 2, 1) := by decide +kernel
theorem dX8_item_8 : decode cX8_item 8 = .ok (.ifCond .lt 8, 3) := by decide +kernel
theorem dX8_item_11 : decode cX8_item 11 = .ok (.iload_n 2, 1) := by decide +kernel
theorem dX8_item_12 : decode cX8_item 12 = .ok (.iconst 4, 1) := by decide +kernel
theorem dX8_item_13 : decode cX8_item 13 = .ok (.if_icmp .lt 5, 3) := by decide +kernel
theorem dX8_item_16 : decode cX8_item 16 = .ok (.iconst (-1), 1) := by decide +kernel
theorem dX8_item_17 : decode cX8_item 17 = .ok (.ireturn, 1) := by decide +kernel
theorem dX8_item_18 : decode cX8_item 18 = .ok (.aload_n 0, 1) := by decide +kernel
theorem dX8_item_19 : decode cX8_item 19 = .ok (.getfield 50, 3) := by decide +kernel
theorem dX8_item_22 : decode cX8_item 22 = .ok (.iload_n 1, 1) := by decide +kernel
theorem dX8_item_23 : decode cX8_item 23 = .ok (.invokevirtual 269, 3) := by decide +kernel
theorem dX8_item_26 : decode cX8_item 26 = .ok (.ifCond .eq 6, 3) := by decide +kernel
theorem dX8_item_29 : decode cX8_item 29 = .ok (.bipush (-11), 2) := by decide +kernel
theorem dX8_item_31 : decode cX8_item 31 = .ok (.ireturn, 1) := by decide +kernel
theorem dX8_item_32 : decode cX8_item 32 = .ok (.aload_n 0, 1) := by decide +kernel
theorem dX8_item_33 : decode cX8_item 33 = .ok (.getfield 50, 3) := by decide +kernel
theorem dX8_item_36 : decode cX8_item 36 = .ok (.getfield 277, 3) := by decide +kernel
theorem dX8_item_39 : decode cX8_item 39 = .ok (.iload_n 1, 1) := by decide +kernel
theorem dX8_item_40 : decode cX8_item 40 = .ok (.iaload, 1) := by decide +kernel
theorem dX8_item_41 : decode cX8_item 41 = .ok (.iload_n 2, 1) := by decide +kernel
theorem dX8_item_42 : decode cX8_item 42 = .ok (.if_icmp .eq 6, 3) := by decide +kernel
theorem dX8_item_45 : decode cX8_item 45 = .ok (.bipush (-13), 2) := by decide +kernel
theorem dX8_item_47 : decode cX8_item 47 = .ok (.ireturn, 1) := by decide +kernel
theorem dX8_item_48 : decode cX8_item 48 = .ok (.aload_n 0, 1) := by decide +kernel
theorem dX8_item_49 : decode cX8_item 49 = .ok (.getfield 50, 3) := by decide +kernel
theorem dX8_item_52 : decode cX8_item 52 = .ok (.iload_n 1, 1) := by decide +kernel
theorem dX8_item_53 : decode cX8_item 53 = .ok (.iload_n 3, 1) := by decide +kernel
theorem dX8_item_54 : decode cX8_item 54 = .ok (.invokevirtual 272, 3) := by decide +kernel
theorem dX8_item_57 : decode cX8_item 57 = .ok (.ifCond .ne 6, 3) := by decide +kernel
theorem dX8_item_60 : decode cX8_item 60 = .ok (.bipush (-12), 2) := by decide +kernel
theorem dX8_item_62 : decode cX8_item 62 = .ok (.ireturn, 1) := by decide +kernel
theorem dX8_item_63 : decode cX8_item 63 = .ok (.aload_n 0, 1) := by decide +kernel
theorem dX8_item_64 : decode cX8_item 64 = .ok (.getfield 50, 3) := by decide +kernel
theorem dX8_item_67 : decode cX8_item 67 = .ok (.iload_n 1, 1) := by decide +kernel
theorem dX8_item_68 : decode cX8_item 68 = .ok (.iload_n 3, 1) := by decide +kernel
theorem dX8_item_69 : decode cX8_item 69 = .ok (.invokevirtual 280, 3) := by decide +kernel
theorem dX8_item_72 : decode cX8_item 72 = .ok (.ireturn, 1) := by decide +kernel
theorem dX8_shelf_0 : decode cX8_shelf 0 = .ok (.iload_n 1, 1) := by decide +kernel
theorem dX8_shelf_1 : decode cX8_shelf 1 = .ok (.invokestatic 283, 3) := by decide +kernel
theorem dX8_shelf_4 : decode cX8_shelf 4 = .ok (.ifCond .eq 12, 3) := by decide +kernel
theorem dX8_shelf_7 : decode cX8_shelf 7 = .ok (.iload_n 2, 1) := by decide +kernel
theorem dX8_shelf_8 : decode cX8_shelf 8 = .ok (.ifCond .lt 8, 3) := by decide +kernel
theorem dX8_shelf_11 : decode cX8_shelf 11 = .ok (.iload_n 2, 1) := by decide +kernel
theorem dX8_shelf_12 : decode cX8_shelf 12 = .ok (.iconst 2, 1) := by decide +kernel
theorem dX8_shelf_13 : decode cX8_shelf 13 = .ok (.if_icmp .le 5, 3) := by decide +kernel
theorem dX8_shelf_16 : decode cX8_shelf 16 = .ok (.iconst (-1), 1) := by decide +kernel
theorem dX8_shelf_17 : decode cX8_shelf 17 = .ok (.ireturn, 1) := by decide +kernel
theorem dX8_shelf_18 : decode cX8_shelf 18 = .ok (.iload_n 2, 1) := by decide +kernel
theorem dX8_shelf_19 : decode cX8_shelf 19 = .ok (.ifCond .ne 16, 3) := by decide +kernel
theorem dX8_shelf_22 : decode cX8_shelf 22 = .ok (.aload_n 0, 1) := by decide +kernel
theorem dX8_shelf_23 : decode cX8_shelf 23 = .ok (.getfield 10, 3) := by decide +kernel
theorem dX8_shelf_26 : decode cX8_shelf 26 = .ok (.iload_n 3, 1) := by decide +kernel
theorem dX8_shelf_27 : decode cX8_shelf 27 = .ok (.invokevirtual 137, 3) := by decide +kernel
theorem dX8_shelf_30 : decode cX8_shelf 30 = .ok (.ifCond .ne 5, 3) := by decide +kernel
theorem dX8_shelf_33 : decode cX8_shelf 33 = .ok (.iconst (-1), 1) := by decide +kernel
theorem dX8_shelf_34 : decode cX8_shelf 34 = .ok (.ireturn, 1) := by decide +kernel
theorem dX8_shelf_35 : decode cX8_shelf 35 = .ok (.iload_n 2, 1) := by decide +kernel
theorem dX8_shelf_36 : decode cX8_shelf 36 = .ok (.iconst 1, 1) := by decide +kernel
theorem dX8_shelf_37 : decode cX8_shelf 37 = .ok (.if_icmp .ne 12, 3) := by decide +kernel
theorem dX8_shelf_40 : decode cX8_shelf 40 = .ok (.iload_n 3, 1) := by decide +kernel
theorem dX8_shelf_41 : decode cX8_shelf 41 = .ok (.invokestatic 259, 3) := by decide +kernel
theorem dX8_shelf_44 : decode cX8_shelf 44 = .ok (.ifCond .ne 5, 3) := by decide +kernel
theorem dX8_shelf_47 : decode cX8_shelf 47 = .ok (.iconst (-1), 1) := by decide +kernel
theorem dX8_shelf_48 : decode cX8_shelf 48 = .ok (.ireturn, 1) := by decide +kernel
theorem dX8_shelf_49 : decode cX8_shelf 49 = .ok (.iload_n 2, 1) := by decide +kernel
theorem dX8_shelf_50 : decode cX8_shelf 50 = .ok (.ifCond .ne 15, 3) := by decide +kernel
theorem dX8_shelf_53 : decode cX8_shelf 53 = .ok (.aload_n 0, 1) := by decide +kernel
theorem dX8_shelf_54 : decode cX8_shelf 54 = .ok (.getfield 50, 3) := by decide +kernel
theorem dX8_shelf_57 : decode cX8_shelf 57 = .ok (.iload_n 1, 1) := by decide +kernel
theorem dX8_shelf_58 : decode cX8_shelf 58 = .ok (.iload_n 3, 1) := by decide +kernel
theorem dX8_shelf_59 : decode cX8_shelf 59 = .ok (.invokevirtual 286, 3) := by decide +kernel
theorem dX8_shelf_62 : decode cX8_shelf 62 = .ok (.goto 28, 3) := by decide +kernel
theorem dX8_shelf_65 : decode cX8_shelf 65 = .ok (.iload_n 2, 1) := by decide +kernel
theorem dX8_shelf_66 : decode cX8_shelf 66 = .ok (.iconst 1, 1) := by decide +kernel
theorem dX8_shelf_67 : decode cX8_shelf 67 = .ok (.if_icmp .ne 15, 3) := by decide +kernel
theorem dX8_shelf_70 : decode cX8_shelf 70 = .ok (.aload_n 0, 1) := by decide +kernel
theorem dX8_shelf_71 : decode cX8_shelf 71 = .ok (.getfield 50, 3) := by decide +kernel
theorem dX8_shelf_74 : decode cX8_shelf 74 = .ok (.iload_n 1, 1) := by decide +kernel
theorem dX8_shelf_75 : decode cX8_shelf 75 = .ok (.iload_n 3, 1) := by decide +kernel
theorem dX8_shelf_76 : decode cX8_shelf 76 = .ok (.invokevirtual 290, 3) := by decide +kernel
theorem dX8_shelf_79 : decode cX8_shelf 79 = .ok (.goto 11, 3) := by decide +kernel
theorem dX8_shelf_82 : decode cX8_shelf 82 = .ok (.aload_n 0, 1) := by decide +kernel
theorem dX8_shelf_83 : decode cX8_shelf 83 = .ok (.getfield 50, 3) := by decide +kernel
theorem dX8_shelf_86 : decode cX8_shelf 86 = .ok (.iload_n 1, 1) := by decide +kernel
theorem dX8_shelf_87 : decode cX8_shelf 87 = .ok (.invokevirtual 293, 3) := by decide +kernel
theorem dX8_shelf_90 : decode cX8_shelf 90 = .ok (.iconst 1, 1) := by decide +kernel
theorem dX8_shelf_91 : decode cX8_shelf 91 = .ok (.ireturn, 1) := by decide +kernel
theorem dX8_taken_0 : decode cX8_taken 0 = .ok (.iload_n 2, 1) := by decide +kernel
theorem dX8_taken_1 : decode cX8_taken 1 = .ok (.ifCond .lt 13, 3) := by decide +kernel
theorem dX8_taken_4 : decode cX8_taken 4 = .ok (.iload_n 2, 1) := by decide +kernel
theorem dX8_taken_5 : decode cX8_taken 5 = .ok (.bipush 6, 2) := by decide +kernel
theorem dX8_taken_7 : decode cX8_taken 7 = .ok (.if_icmp .ge 7, 3) := by decide +kernel
theorem dX8_taken_10 : decode cX8_taken 10 = .ok (.iconst 1, 1) := by decide +kernel
theorem dX8_taken_11 : decode cX8_taken 11 = .ok (.goto 4, 3) := by decide +kernel
theorem dX8_taken_14 : decode cX8_taken 14 = .ok (.iconst 0, 1) := by decide +kernel
theorem dX8_taken_15 : decode cX8_taken 15 = .ok (.istore_n 3, 1) := by decide +kernel
theorem dX8_taken_16 : decode cX8_taken 16 = .ok (.iload_n 2, 1) := by decide +kernel
theorem dX8_taken_17 : decode cX8_taken 17 = .ok (.bipush 10, 2) := by decide +kernel
theorem dX8_taken_19 : decode cX8_taken 19 = .ok (.if_icmp .lt 13, 3) := by decide +kernel
theorem dX8_taken_22 : decode cX8_taken 22 = .ok (.iload_n 2, 1) := by decide +kernel
theorem dX8_taken_23 : decode cX8_taken 23 = .ok (.bipush 14, 2) := by decide +kernel
theorem dX8_taken_25 : decode cX8_taken 25 = .ok (.if_icmp .ge 7, 3) := by decide +kernel
theorem dX8_taken_28 : decode cX8_taken 28 = .ok (.iconst 1, 1) := by decide +kernel
theorem dX8_taken_29 : decode cX8_taken 29 = .ok (.goto 4, 3) := by decide +kernel
theorem dX8_taken_32 : decode cX8_taken 32 = .ok (.iconst 0, 1) := by decide +kernel
theorem dX8_taken_33 : decode cX8_taken 33 = .ok (.istore 4, 2) := by decide +kernel
theorem dX8_taken_35 : decode cX8_taken 35 = .ok (.iload_n 1, 1) := by decide +kernel
theorem dX8_taken_36 : decode cX8_taken 36 = .ok (.invokestatic 283, 3) := by decide +kernel
theorem dX8_taken_39 : decode cX8_taken 39 = .ok (.ifCond .eq 12, 3) := by decide +kernel
theorem dX8_taken_42 : decode cX8_taken 42 = .ok (.iload_n 3, 1) := by decide +kernel
theorem dX8_taken_43 : decode cX8_taken 43 = .ok (.ifCond .ne 10, 3) := by decide +kernel
theorem dX8_taken_46 : decode cX8_taken 46 = .ok (.iload 4, 2) := by decide +kernel
theorem dX8_taken_48 : decode cX8_taken 48 = .ok (.ifCond .ne 5, 3) := by decide +kernel
theorem dX8_taken_51 : decode cX8_taken 51 = .ok (.iconst (-1), 1) := by decide +kernel
theorem dX8_taken_52 : decode cX8_taken 52 = .ok (.ireturn, 1) := by decide +kernel
theorem dX8_taken_53 : decode cX8_taken 53 = .ok (.aload_n 0, 1) := by decide +kernel
theorem dX8_taken_54 : decode cX8_taken 54 = .ok (.getfield 50, 3) := by decide +kernel
theorem dX8_taken_57 : decode cX8_taken 57 = .ok (.iload_n 1, 1) := by decide +kernel
theorem dX8_taken_58 : decode cX8_taken 58 = .ok (.aload_n 0, 1) := by decide +kernel
theorem dX8_taken_59 : decode cX8_taken 59 = .ok (.getfield 10, 3) := by decide +kernel
theorem dX8_taken_62 : decode cX8_taken 62 = .ok (.getfield 130, 3) := by decide +kernel
theorem dX8_taken_65 : decode cX8_taken 65 = .ok (.invokevirtual 296, 3) := by decide +kernel
theorem dX8_taken_68 : decode cX8_taken 68 = .ok (.istore 5, 2) := by decide +kernel
theorem dX8_taken_70 : decode cX8_taken 70 = .ok (.iload 5, 2) := by decide +kernel
theorem dX8_taken_72 : decode cX8_taken 72 = .ok (.iconst (-1), 1) := by decide +kernel
theorem dX8_taken_73 : decode cX8_taken 73 = .ok (.if_icmp .ne 6, 3) := by decide +kernel
theorem dX8_taken_76 : decode cX8_taken 76 = .ok (.bipush (-11), 2) := by decide +kernel
theorem dX8_taken_78 : decode cX8_taken 78 = .ok (.ireturn, 1) := by decide +kernel
theorem dX8_taken_79 : decode cX8_taken 79 = .ok (.aload_n 0, 1) := by decide +kernel
theorem dX8_taken_80 : decode cX8_taken 80 = .ok (.getfield 50, 3) := by decide +kernel
theorem dX8_taken_83 : decode cX8_taken 83 = .ok (.getfield 299, 3) := by decide +kernel
theorem dX8_taken_86 : decode cX8_taken 86 = .ok (.iload_n 1, 1) := by decide +kernel
theorem dX8_taken_87 : decode cX8_taken 87 = .ok (.iaload, 1) := by decide +kernel
theorem dX8_taken_88 : decode cX8_taken 88 = .ok (.istore 6, 2) := by decide +kernel
theorem dX8_taken_90 : decode cX8_taken 90 = .ok (.iload 5, 2) := by decide +kernel
theorem dX8_taken_92 : decode cX8_taken 92 = .ok (.ifCond .ne 32, 3) := by decide +kernel
theorem dX8_taken_95 : decode cX8_taken 95 = .ok (.iload_n 3, 1) := by decide +kernel
theorem dX8_taken_96 : decode cX8_taken 96 = .ok (.ifCond .eq 24, 3) := by decide +kernel
theorem dX8_taken_99 : decode cX8_taken 99 = .ok (.aload_n 0, 1) := by decide +kernel
theorem dX8_taken_100 : decode cX8_taken 100 = .ok (.getfield 10, 3) := by decide +kernel
theorem dX8_taken_103 : decode cX8_taken 103 = .ok (.iload 6, 2) := by decide +kernel
theorem dX8_taken_105 : decode cX8_taken 105 = .ok (.iconst 0, 1) := by decide +kernel
theorem dX8_taken_106 : decode cX8_taken 106 = .ok (.invokevirtual 140, 3) := by decide +kernel
theorem dX8_taken_109 : decode cX8_taken 109 = .ok (.iload_n 2, 1) := by decide +kernel
theorem dX8_taken_110 : decode cX8_taken 110 = .ok (.invokestatic 302, 3) := by decide +kernel
theorem dX8_taken_113 : decode cX8_taken 113 = .ok (.ifCond .eq 7, 3) := by decide +kernel
theorem dX8_taken_116 : decode cX8_taken 116 = .ok (.iconst 1, 1) := by decide +kernel
theorem dX8_taken_117 : decode cX8_taken 117 = .ok (.goto 18, 3) := by decide +kernel
theorem dX8_taken_120 : decode cX8_taken 120 = .ok (.iconst 0, 1) := by decide +kernel
theorem dX8_taken_121 : decode cX8_taken 121 = .ok (.goto 14, 3) := by decide +kernel
theorem dX8_taken_124 : decode cX8_taken 124 = .ok (.iload 5, 2) := by decide +kernel
theorem dX8_taken_126 : decode cX8_taken 126 = .ok (.iload_n 2, 1) := by decide +kernel
theorem dX8_taken_127 : decode cX8_taken 127 = .ok (.if_icmp .ne 7, 3) := by decide +kernel
theorem dX8_taken_130 : decode cX8_taken 130 = .ok (.iconst 1, 1) := by decide +kernel
theorem dX8_taken_131 : decode cX8_taken 131 = .ok (.goto 4, 3) := by decide +kernel
theorem dX8_taken_134 : decode cX8_taken 134 = .ok (.iconst 0, 1) := by decide +kernel
theorem dX8_taken_135 : decode cX8_taken 135 = .ok (.istore 7, 2) := by decide +kernel
theorem dX8_taken_137 : decode cX8_taken 137 = .ok (.iload 7, 2) := by decide +kernel
theorem dX8_taken_139 : decode cX8_taken 139 = .ok (.ifCond .eq 8, 3) := by decide +kernel
theorem dX8_taken_142 : decode cX8_taken 142 = .ok (.iload 6, 2) := by decide +kernel
theorem dX8_taken_144 : decode cX8_taken 144 = .ok (.goto 5, 3) := by decide +kernel
theorem dX8_taken_147 : decode cX8_taken 147 = .ok (.bipush (-13), 2) := by decide +kernel
theorem dX8_taken_149 : decode cX8_taken 149 = .ok (.ireturn, 1) := by decide +kernel
theorem dX8_act_0 : decode cX8_act 0 = .ok (.aload_n 0, 1) := by decide +kernel
theorem dX8_act_1 : decode cX8_act 1 = .ok (.getfield 57, 3) := by decide +kernel
theorem dX8_act_4 : decode cX8_act 4 = .ok (.iconst 0, 1) := by decide +kernel
theorem dX8_act_5 : decode cX8_act 5 = .ok (.putfield 305, 3) := by decide +kernel
theorem dX8_act_8 : decode cX8_act 8 = .ok (.iload_n 1, 1) := by decide +kernel
theorem dX8_act_9 : decode cX8_act 9 = .ok (.invokestatic 283, 3) := by decide +kernel
theorem dX8_act_12 : decode cX8_act 12 = .ok (.ifCond .eq 12, 3) := by decide +kernel
theorem dX8_act_15 : decode cX8_act 15 = .ok (.iload_n 2, 1) := by decide +kernel
theorem dX8_act_16 : decode cX8_act 16 = .ok (.ifCond .lt 8, 3) := by decide +kernel
theorem dX8_act_19 : decode cX8_act 19 = .ok (.iload_n 2, 1) := by decide +kernel
theorem dX8_act_20 : decode cX8_act 20 = .ok (.iconst 4, 1) := by decide +kernel
theorem dX8_act_21 : decode cX8_act 21 = .ok (.if_icmp .lt 5, 3) := by decide +kernel
theorem dX8_act_24 : decode cX8_act 24 = .ok (.iconst 0, 1) := by decide +kernel
theorem dX8_act_25 : decode cX8_act 25 = .ok (.ireturn, 1) := by decide +kernel
theorem dX8_act_26 : decode cX8_act 26 = .ok (.aload_n 0, 1) := by decide +kernel
theorem dX8_act_27 : decode cX8_act 27 = .ok (.getfield 50, 3) := by decide +kernel
theorem dX8_act_30 : decode cX8_act 30 = .ok (.iload_n 1, 1) := by decide +kernel
theorem dX8_act_31 : decode cX8_act 31 = .ok (.aload_n 0, 1) := by decide +kernel
theorem dX8_act_32 : decode cX8_act 32 = .ok (.getfield 10, 3) := by decide +kernel
theorem dX8_act_35 : decode cX8_act 35 = .ok (.getfield 130, 3) := by decide +kernel
theorem dX8_act_38 : decode cX8_act 38 = .ok (.invokevirtual 296, 3) := by decide +kernel
theorem dX8_act_41 : decode cX8_act 41 = .ok (.ifCond .eq 5, 3) := by decide +kernel
theorem dX8_act_44 : decode cX8_act 44 = .ok (.iconst 0, 1) := by decide +kernel
theorem dX8_act_45 : decode cX8_act 45 = .ok (.ireturn, 1) := by decide +kernel
theorem dX8_act_46 : decode cX8_act 46 = .ok (.aload_n 0, 1) := by decide +kernel
theorem dX8_act_47 : decode cX8_act 47 = .ok (.getfield 50, 3) := by decide +kernel
theorem dX8_act_50 : decode cX8_act 50 = .ok (.getfield 299, 3) := by decide +kernel
theorem dX8_act_53 : decode cX8_act 53 = .ok (.iload_n 1, 1) := by decide +kernel
theorem dX8_act_54 : decode cX8_act 54 = .ok (.iaload, 1) := by decide +kernel
theorem dX8_act_55 : decode cX8_act 55 = .ok (.istore 4, 2) := by decide +kernel
theorem dX8_act_57 : decode cX8_act 57 = .ok (.aload_n 0, 1) := by decide +kernel
theorem dX8_act_58 : decode cX8_act 58 = .ok (.getfield 57, 3) := by decide +kernel
theorem dX8_act_61 : decode cX8_act 61 = .ok (.aload_n 0, 1) := by decide +kernel
theorem dX8_act_62 : decode cX8_act 62 = .ok (.getfield 10, 3) := by decide +kernel
theorem dX8_act_65 : decode cX8_act 65 = .ok (.iload 4, 2) := by decide +kernel
theorem dX8_act_67 : decode cX8_act 67 = .ok (.iconst 0, 1) := by decide +kernel
theorem dX8_act_68 : decode cX8_act 68 = .ok (.invokevirtual 140, 3) := by decide +kernel
theorem dX8_act_71 : decode cX8_act 71 = .ok (.iload 4, 2) := by decide +kernel
theorem dX8_act_73 : decode cX8_act 73 = .ok (.aload_n 0, 1) := by decide +kernel
theorem dX8_act_74 : decode cX8_act 74 = .ok (.getfield 10, 3) := by decide +kernel
theorem dX8_act_77 : decode cX8_act 77 = .ok (.iload 4, 2) := by decide +kernel
theorem dX8_act_79 : decode cX8_act 79 = .ok (.iconst 4, 1) := by decide +kernel
theorem dX8_act_80 : decode cX8_act 80 = .ok (.invokevirtual 140, 3) := by decide +kernel
theorem dX8_act_83 : decode cX8_act 83 = .ok (.iload_n 2, 1) := by decide +kernel
theorem dX8_act_84 : decode cX8_act 84 = .ok (.iload_n 3, 1) := by decide +kernel
theorem dX8_act_85 : decode cX8_act 85 = .ok (.invokevirtual 306, 3) := by decide +kernel
theorem dX8_act_88 : decode cX8_act 88 = .ok (.ireturn, 1) := by decide +kernel
theorem dX8_trace_0 : decode cX8_trace 0 = .ok (.iload_n 1, 1) := by decide +kernel
theorem dX8_trace_1 : decode cX8_trace 1 = .ok (.ifCond .lt 14, 3) := by decide +kernel
theorem dX8_trace_4 : decode cX8_trace 4 = .ok (.iload_n 1, 1) := by decide +kernel
theorem dX8_trace_5 : decode cX8_trace 5 = .ok (.aload_n 0, 1) := by decide +kernel
theorem dX8_trace_6 : decode cX8_trace 6 = .ok (.getfield 57, 3) := by decide +kernel
theorem dX8_trace_9 : decode cX8_trace 9 = .ok (.getfield 305, 3) := by decide +kernel
theorem dX8_trace_12 : decode cX8_trace 12 = .ok (.if_icmp .lt 6, 3) := by decide +kernel
theorem dX8_trace_15 : decode cX8_trace 15 = .ok (.bipush (-3), 2) := by decide +kernel
theorem dX8_trace_17 : decode cX8_trace 17 = .ok (.ireturn, 1) := by decide +kernel
theorem dX8_trace_18 : decode cX8_trace 18 = .ok (.aload_n 0, 1) := by decide +kernel
theorem dX8_trace_19 : decode cX8_trace 19 = .ok (.getfield 57, 3) := by decide +kernel
theorem dX8_trace_22 : decode cX8_trace 22 = .ok (.getfield 309, 3) := by decide +kernel
theorem dX8_trace_25 : decode cX8_trace 25 = .ok (.iload_n 1, 1) := by decide +kernel
theorem dX8_trace_26 : decode cX8_trace 26 = .ok (.iaload, 1) := by decide +kernel
theorem dX8_trace_27 : decode cX8_trace 27 = .ok (.ireturn, 1) := by decide +kernel
theorem dX8_many_0 : decode cX8_many 0 = .ok (.iload_n 1, 1) := by decide +kernel
theorem dX8_many_1 : decode cX8_many 1 = .ok (.tableswitch 114 0 7 #[47, 55, 63, 74, 82, 90, 98, 106], 47) := by decide +kernel
theorem dX8_many_48 : decode cX8_many 48 = .ok (.aload_n 0, 1) := by decide +kernel
theorem dX8_many_49 : decode cX8_many 49 = .ok (.getfield 10, 3) := by decide +kernel
theorem dX8_many_52 : decode cX8_many 52 = .ok (.getfield 103, 3) := by decide +kernel
theorem dX8_many_55 : decode cX8_many 55 = .ok (.ireturn, 1) := by decide +kernel
theorem dX8_many_56 : decode cX8_many 56 = .ok (.aload_n 0, 1) := by decide +kernel
theorem dX8_many_57 : decode cX8_many 57 = .ok (.getfield 10, 3) := by decide +kernel
theorem dX8_many_60 : decode cX8_many 60 = .ok (.getfield 130, 3) := by decide +kernel
theorem dX8_many_63 : decode cX8_many 63 = .ok (.ireturn, 1) := by decide +kernel
theorem dX8_many_64 : decode cX8_many 64 = .ok (.aload_n 0, 1) := by decide +kernel
theorem dX8_many_65 : decode cX8_many 65 = .ok (.getfield 10, 3) := by decide +kernel
theorem dX8_many_68 : decode cX8_many 68 = .ok (.getfield 82, 3) := by decide +kernel
theorem dX8_many_71 : decode cX8_many 71 = .ok (.getfield 93, 3) := by decide +kernel
theorem dX8_many_74 : decode cX8_many 74 = .ok (.ireturn, 1) := by decide +kernel
theorem dX8_many_75 : decode cX8_many 75 = .ok (.aload_n 0, 1) := by decide +kernel
theorem dX8_many_76 : decode cX8_many 76 = .ok (.getfield 10, 3) := by decide +kernel
theorem dX8_many_79 : decode cX8_many 79 = .ok (.invokevirtual 312, 3) := by decide +kernel
theorem dX8_many_82 : decode cX8_many 82 = .ok (.ireturn, 1) := by decide +kernel
theorem dX8_many_83 : decode cX8_many 83 = .ok (.aload_n 0, 1) := by decide +kernel
theorem dX8_many_84 : decode cX8_many 84 = .ok (.getfield 10, 3) := by decide +kernel
theorem dX8_many_87 : decode cX8_many 87 = .ok (.invokevirtual 235, 3) := by decide +kernel
theorem dX8_many_90 : decode cX8_many 90 = .ok (.ireturn, 1) := by decide +kernel
theorem dX8_many_91 : decode cX8_many 91 = .ok (.aload_n 0, 1) := by decide +kernel
theorem dX8_many_92 : decode cX8_many 92 = .ok (.getfield 40, 3) := by decide +kernel
theorem dX8_many_95 : decode cX8_many 95 = .ok (.getfield 243, 3) := by decide +kernel
theorem dX8_many_98 : decode cX8_many 98 = .ok (.ireturn, 1) := by decide +kernel
theorem dX8_many_99 : decode cX8_many 99 = .ok (.aload_n 0, 1) := by decide +kernel
theorem dX8_many_100 : decode cX8_many 100 = .ok (.getfield 33, 3) := by decide +kernel
theorem dX8_many_103 : decode cX8_many 103 = .ok (.getfield 67, 3) := by decide +kernel
theorem dX8_many_106 : decode cX8_many 106 = .ok (.ireturn, 1) := by decide +kernel
theorem dX8_many_107 : decode cX8_many 107 = .ok (.aload_n 0, 1) := by decide +kernel
theorem dX8_many_108 : decode cX8_many 108 = .ok (.getfield 57, 3) := by decide +kernel
theorem dX8_many_111 : decode cX8_many 111 = .ok (.getfield 305, 3) := by decide +kernel
theorem dX8_many_114 : decode cX8_many 114 = .ok (.ireturn, 1) := by decide +kernel
theorem dX8_many_115 : decode cX8_many 115 = .ok (.iconst (-1), 1) := by decide +kernel
theorem dX8_many_116 : decode cX8_many 116 = .ok (.ireturn, 1) := by decide +kernel
theorem dX8_keep_0 : decode cX8_keep 0 = .ok (.aload_n 0, 1) := by decide +kernel
theorem dX8_keep_1 : decode cX8_keep 1 = .ok (.getfield 16, 3) := by decide +kernel
theorem dX8_keep_4 : decode cX8_keep 4 = .ok (.aload_n 0, 1) := by decide +kernel
theorem dX8_keep_5 : decode cX8_keep 5 = .ok (.getfield 10, 3) := by decide +kernel
theorem dX8_keep_8 : decode cX8_keep 8 = .ok (.invokevirtual 315, 3) := by decide +kernel
theorem dX8_keep_11 : decode cX8_keep 11 = .ok (.aload_n 0, 1) := by decide +kernel
theorem dX8_keep_12 : decode cX8_keep 12 = .ok (.iconst 1, 1) := by decide +kernel
theorem dX8_keep_13 : decode cX8_keep 13 = .ok (.putfield 19, 3) := by decide +kernel
theorem dX8_keep_16 : decode cX8_keep 16 = .ok (.iconst 1, 1) := by decide +kernel
theorem dX8_keep_17 : decode cX8_keep 17 = .ok (.ireturn, 1) := by decide +kernel
theorem dX8_again_0 : decode cX8_again 0 = .ok (.aload_n 0, 1) := by decide +kernel
theorem dX8_again_1 : decode cX8_again 1 = .ok (.getfield 19, 3) := by decide +kernel
theorem dX8_again_4 : decode cX8_again 4 = .ok (.ifCond .ne 6, 3) := by decide +kernel
theorem dX8_again_7 : decode cX8_again 7 = .ok (.bipush (-3), 2) := by decide +kernel
theorem dX8_again_9 : decode cX8_again 9 = .ok (.ireturn, 1) := by decide +kernel
theorem dX8_again_10 : decode cX8_again 10 = .ok (.aload_n 0, 1) := by decide +kernel
theorem dX8_again_11 : decode cX8_again 11 = .ok (.getfield 10, 3) := by decide +kernel
theorem dX8_again_14 : decode cX8_again 14 = .ok (.aload_n 0, 1) := by decide +kernel
theorem dX8_again_15 : decode cX8_again 15 = .ok (.getfield 16, 3) := by decide +kernel
theorem dX8_again_18 : decode cX8_again 18 = .ok (.invokevirtual 315, 3) := by decide +kernel
theorem dX8_again_21 : decode cX8_again 21 = .ok (.aload_n 0, 1) := by decide +kernel
theorem dX8_again_22 : decode cX8_again 22 = .ok (.getfield 10, 3) := by decide +kernel
theorem dX8_again_25 : decode cX8_again 25 = .ok (.getfield 130, 3) := by decide +kernel
theorem dX8_again_28 : decode cX8_again 28 = .ok (.ireturn, 1) := by decide +kernel
theorem dX8_isTown_0 : decode cX8_isTown 0 = .ok (.iload_n 0, 1) := by decide +kernel
theorem dX8_isTown_1 : decode cX8_isTown 1 = .ok (.ifCond .lt 12, 3) := by decide +kernel
theorem dX8_isTown_4 : decode cX8_isTown 4 = .ok (.iload_n 0, 1) := by decide +kernel
theorem dX8_isTown_5 : decode cX8_isTown 5 = .ok (.iconst 4, 1) := by decide +kernel
theorem dX8_isTown_6 : decode cX8_isTown 6 = .ok (.if_icmp .ge 7, 3) := by decide +kernel
theorem dX8_isTown_9 : decode cX8_isTown 9 = .ok (.iconst 1, 1) := by decide +kernel
theorem dX8_isTown_10 : decode cX8_isTown 10 = .ok (.goto 4, 3) := by decide +kernel
theorem dX8_isTown_13 : decode cX8_isTown 13 = .ok (.iconst 0, 1) := by decide +kernel
theorem dX8_isTown_14 : decode cX8_isTown 14 = .ok (.ireturn, 1) := by decide +kernel
theorem dX8_isUnder_0 : decode cX8_isUnder 0 = .ok (.iload_n 0, 1) := by decide +kernel
theorem dX8_isUnder_1 : decode cX8_isUnder 1 = .ok (.istore_n 2, 1) := by decide +kernel
theorem dX8_isUnder_2 : decode cX8_isUnder 2 = .ok (.iconst 0, 1) := by decide +kernel
theorem dX8_isUnder_3 : decode cX8_isUnder 3 = .ok (.istore_n 3, 1) := by decide +kernel
theorem dX8_isUnder_4 : decode cX8_isUnder 4 = .ok (.iload_n 3, 1) := by decide +kernel
theorem dX8_isUnder_5 : decode cX8_isUnder 5 = .ok (.bipush 6, 2) := by decide +kernel
theorem dX8_isUnder_7 : decode cX8_isUnder 7 = .ok (.if_icmp .ge 32, 3) := by decide +kernel
theorem dX8_isUnder_10 : decode cX8_isUnder 10 = .ok (.iload_n 2, 1) := by decide +kernel
theorem dX8_isUnder_11 : decode cX8_isUnder 11 = .ok (.ifCond .lt 28, 3) := by decide +kernel
theorem dX8_isUnder_14 : decode cX8_isUnder 14 = .ok (.iload_n 2, 1) := by decide +kernel
theorem dX8_isUnder_15 : decode cX8_isUnder 15 = .ok (.bipush 6, 2) := by decide +kernel
theorem dX8_isUnder_17 : decode cX8_isUnder 17 = .ok (.if_icmp .ge 22, 3) := by decide +kernel
theorem dX8_isUnder_20 : decode cX8_isUnder 20 = .ok (.iload_n 2, 1) := by decide +kernel
theorem dX8_isUnder_21 : decode cX8_isUnder 21 = .ok (.iload_n 1, 1) := by decide +kernel
theorem dX8_isUnder_22 : decode cX8_isUnder 22 = .ok (.if_icmp .ne 5, 3) := by decide +kernel
theorem dX8_isUnder_25 : decode cX8_isUnder 25 = .ok (.iconst 1, 1) := by decide +kernel
theorem dX8_isUnder_26 : decode cX8_isUnder 26 = .ok (.ireturn, 1) := by decide +kernel
theorem dX8_isUnder_27 : decode cX8_isUnder 27 = .ok (.getstatic 318, 3) := by decide +kernel
theorem dX8_isUnder_30 : decode cX8_isUnder 30 = .ok (.iload_n 2, 1) := by decide +kernel
theorem dX8_isUnder_31 : decode cX8_isUnder 31 = .ok (.iaload, 1) := by decide +kernel
theorem dX8_isUnder_32 : decode cX8_isUnder 32 = .ok (.istore_n 2, 1) := by decide +kernel
theorem dX8_isUnder_33 : decode cX8_isUnder 33 = .ok (.iinc 3 1, 3) := by decide +kernel
theorem dX8_isUnder_36 : decode cX8_isUnder 36 = .ok (.goto (-32), 3) := by decide +kernel
theorem dX8_isUnder_39 : decode cX8_isUnder 39 = .ok (.iconst 0, 1) := by decide +kernel
theorem dX8_isUnder_40 : decode cX8_isUnder 40 = .ok (.ireturn, 1) := by decide +kernel
theorem dX8_asks_0 : decode cX8_asks 0 = .ok (.aload_n 0, 1) := by decide +kernel
theorem dX8_asks_1 : decode cX8_asks 1 = .ok (.getfield 63, 3) := by decide +kernel
theorem dX8_asks_4 : decode cX8_asks 4 = .ok (.iconst 0, 1) := by decide +kernel
theorem dX8_asks_5 : decode cX8_asks 5 = .ok (.aload_n 0, 1) := by decide +kernel
theorem dX8_asks_6 : decode cX8_asks 6 = .ok (.getfield 10, 3) := by decide +kernel
theorem dX8_asks_9 : decode cX8_asks 9 = .ok (.iload_n 1, 1) := by decide +kernel
theorem dX8_asks_10 : decode cX8_asks 10 = .ok (.iconst 4, 1) := by decide +kernel
theorem dX8_asks_11 : decode cX8_asks 11 = .ok (.invokevirtual 140, 3) := by decide +kernel
theorem dX8_asks_14 : decode cX8_asks 14 = .ok (.iastore, 1) := by decide +kernel
theorem dX8_asks_15 : decode cX8_asks 15 = .ok (.aload_n 0, 1) := by decide +kernel
theorem dX8_asks_16 : decode cX8_asks 16 = .ok (.getfield 63, 3) := by decide +kernel
theorem dX8_asks_19 : decode cX8_asks 19 = .ok (.iconst 1, 1) := by decide +kernel
theorem dX8_asks_20 : decode cX8_asks 20 = .ok (.aload_n 0, 1) := by decide +kernel
theorem dX8_asks_21 : decode cX8_asks 21 = .ok (.getfield 10, 3) := by decide +kernel
theorem dX8_asks_24 : decode cX8_asks 24 = .ok (.iload_n 1, 1) := by decide +kernel
theorem dX8_asks_25 : decode cX8_asks 25 = .ok (.iconst 1, 1) := by decide +kernel
theorem dX8_asks_26 : decode cX8_asks 26 = .ok (.invokevirtual 140, 3) := by decide +kernel
theorem dX8_asks_29 : decode cX8_asks 29 = .ok (.iastore, 1) := by decide +kernel
theorem dX8_asks_30 : decode cX8_asks 30 = .ok (.aload_n 0, 1) := by decide +kernel
theorem dX8_asks_31 : decode cX8_asks 31 = .ok (.getfield 63, 3) := by decide +kernel
theorem dX8_asks_34 : decode cX8_asks 34 = .ok (.iconst 2, 1) := by decide +kernel
theorem dX8_asks_35 : decode cX8_asks 35 = .ok (.aload_n 0, 1) := by decide +kernel
theorem dX8_asks_36 : decode cX8_asks 36 = .ok (.getfield 10, 3) := by decide +kernel
theorem dX8_asks_39 : decode cX8_asks 39 = .ok (.iload_n 1, 1) := by decide +kernel
theorem dX8_asks_40 : decode cX8_asks 40 = .ok (.invokevirtual 321, 3) := by decide +kernel
theorem dX8_asks_43 : decode cX8_asks 43 = .ok (.iastore, 1) := by decide +kernel
theorem dX8_asks_44 : decode cX8_asks 44 = .ok (.aload_n 0, 1) := by decide +kernel
theorem dX8_asks_45 : decode cX8_asks 45 = .ok (.getfield 63, 3) := by decide +kernel
theorem dX8_asks_48 : decode cX8_asks 48 = .ok (.iconst 3, 1) := by decide +kernel
theorem dX8_asks_49 : decode cX8_asks 49 = .ok (.aload_n 0, 1) := by decide +kernel
theorem dX8_asks_50 : decode cX8_asks 50 = .ok (.getfield 26, 3) := by decide +kernel
theorem dX8_asks_53 : decode cX8_asks 53 = .ok (.aload_n 0, 1) := by decide +kernel
theorem dX8_asks_54 : decode cX8_asks 54 = .ok (.getfield 10, 3) := by decide +kernel
theorem dX8_asks_57 : decode cX8_asks 57 = .ok (.iload_n 1, 1) := by decide +kernel
theorem dX8_asks_58 : decode cX8_asks 58 = .ok (.invokevirtual 164, 3) := by decide +kernel
theorem dX8_asks_61 : decode cX8_asks 61 = .ok (.invokestatic 324, 3) := by decide +kernel
theorem dX8_asks_64 : decode cX8_asks 64 = .ok (.iastore, 1) := by decide +kernel
theorem dX8_asks_65 : decode cX8_asks 65 = .ok (.aload_n 0, 1) := by decide +kernel
theorem dX8_asks_66 : decode cX8_asks 66 = .ok (.getfield 63, 3) := by decide +kernel
theorem dX8_asks_69 : decode cX8_asks 69 = .ok (.iconst 4, 1) := by decide +kernel
theorem dX8_asks_70 : decode cX8_asks 70 = .ok (.aload_n 0, 1) := by decide +kernel
theorem dX8_asks_71 : decode cX8_asks 71 = .ok (.getfield 10, 3) := by decide +kernel
theorem dX8_asks_74 : decode cX8_asks 74 = .ok (.iload_n 1, 1) := by decide +kernel
theorem dX8_asks_75 : decode cX8_asks 75 = .ok (.iconst 3, 1) := by decide +kernel
theorem dX8_asks_76 : decode cX8_asks 76 = .ok (.invokevirtual 140, 3) := by decide +kernel
theorem dX8_asks_79 : decode cX8_asks 79 = .ok (.iastore, 1) := by decide +kernel
theorem dX8_asks_80 : decode cX8_asks 80 = .ok (.aload_n 0, 1) := by decide +kernel
theorem dX8_asks_81 : decode cX8_asks 81 = .ok (.getfield 63, 3) := by decide +kernel
theorem dX8_asks_84 : decode cX8_asks 84 = .ok (.iconst 5, 1) := by decide +kernel
theorem dX8_asks_85 : decode cX8_asks 85 = .ok (.aload_n 0, 1) := by decide +kernel
theorem dX8_asks_86 : decode cX8_asks 86 = .ok (.getfield 10, 3) := by decide +kernel
theorem dX8_asks_89 : decode cX8_asks 89 = .ok (.iload_n 1, 1) := by decide +kernel
theorem dX8_asks_90 : decode cX8_asks 90 = .ok (.iconst 0, 1) := by decide +kernel
theorem dX8_asks_91 : decode cX8_asks 91 = .ok (.invokevirtual 140, 3) := by decide +kernel
theorem dX8_asks_94 : decode cX8_asks 94 = .ok (.iastore, 1) := by decide +kernel
theorem dX8_asks_95 : decode cX8_asks 95 = .ok (.aload_n 0, 1) := by decide +kernel
theorem dX8_asks_96 : decode cX8_asks 96 = .ok (.getfield 10, 3) := by decide +kernel
theorem dX8_asks_99 : decode cX8_asks 99 = .ok (.getfield 82, 3) := by decide +kernel
theorem dX8_asks_102 : decode cX8_asks 102 = .ok (.aload_n 0, 1) := by decide +kernel
theorem dX8_asks_103 : decode cX8_asks 103 = .ok (.getfield 63, 3) := by decide +kernel
theorem dX8_asks_106 : decode cX8_asks 106 = .ok (.invokevirtual 329, 3) := by decide +kernel
theorem dX8_asks_109 : decode cX8_asks 109 = .ok (.ireturn, 1) := by decide +kernel
theorem dJ6_bitCount_0f7a4_0 : decode cJ6_bitCount_0f7a4 0 = .ok (.iload_n 0, 1) := by decide +kernel
theorem dJ6_bitCount_0f7a4_1 : decode cJ6_bitCount_0f7a4 1 = .ok (.iload_n 0, 1) := by decide +kernel
theorem dJ6_bitCount_0f7a4_2 : decode cJ6_bitCount_0f7a4 2 = .ok (.iconst 1, 1) := by decide +kernel
theorem dJ6_bitCount_0f7a4_3 : decode cJ6_bitCount_0f7a4 3 = .ok (.iushr, 1) := by decide +kernel
theorem dJ6_bitCount_0f7a4_4 : decode cJ6_bitCount_0f7a4 4 = .ok (.ldc_w 265, 3) := by decide +kernel
theorem dJ6_bitCount_0f7a4_7 : decode cJ6_bitCount_0f7a4 7 = .ok (.iand, 1) := by decide +kernel
theorem dJ6_bitCount_0f7a4_8 : decode cJ6_bitCount_0f7a4 8 = .ok (.isub, 1) := by decide +kernel
theorem dJ6_bitCount_0f7a4_9 : decode cJ6_bitCount_0f7a4 9 = .ok (.istore_n 0, 1) := by decide +kernel
theorem dJ6_bitCount_0f7a4_10 : decode cJ6_bitCount_0f7a4 10 = .ok (.iload_n 0, 1) := by decide +kernel
theorem dJ6_bitCount_0f7a4_11 : decode cJ6_bitCount_0f7a4 11 = .ok (.ldc_w 266, 3) := by decide +kernel
theorem dJ6_bitCount_0f7a4_14 : decode cJ6_bitCount_0f7a4 14 = .ok (.iand, 1) := by decide +kernel
theorem dJ6_bitCount_0f7a4_15 : decode cJ6_bitCount_0f7a4 15 = .ok (.iload_n 0, 1) := by decide +kernel
theorem dJ6_bitCount_0f7a4_16 : decode cJ6_bitCount_0f7a4 16 = .ok (.iconst 2, 1) := by decide +kernel
theorem dJ6_bitCount_0f7a4_17 : decode cJ6_bitCount_0f7a4 17 = .ok (.iushr, 1) := by decide +kernel
theorem dJ6_bitCount_0f7a4_18 : decode cJ6_bitCount_0f7a4 18 = .ok (.ldc_w 266, 3) := by decide +kernel
theorem dJ6_bitCount_0f7a4_21 : decode cJ6_bitCount_0f7a4 21 = .ok (.iand, 1) := by decide +kernel
theorem dJ6_bitCount_0f7a4_22 : decode cJ6_bitCount_0f7a4 22 = .ok (.iadd, 1) := by decide +kernel
theorem dJ6_bitCount_0f7a4_23 : decode cJ6_bitCount_0f7a4 23 = .ok (.istore_n 0, 1) := by decide +kernel
theorem dJ6_bitCount_0f7a4_24 : decode cJ6_bitCount_0f7a4 24 = .ok (.iload_n 0, 1) := by decide +kernel
theorem dJ6_bitCount_0f7a4_25 : decode cJ6_bitCount_0f7a4 25 = .ok (.iload_n 0, 1) := by decide +kernel
theorem dJ6_bitCount_0f7a4_26 : decode cJ6_bitCount_0f7a4 26 = .ok (.iconst 4, 1) := by decide +kernel
theorem dJ6_bitCount_0f7a4_27 : decode cJ6_bitCount_0f7a4 27 = .ok (.iushr, 1) := by decide +kernel
theorem dJ6_bitCount_0f7a4_28 : decode cJ6_bitCount_0f7a4 28 = .ok (.iadd, 1) := by decide +kernel
theorem dJ6_bitCount_0f7a4_29 : decode cJ6_bitCount_0f7a4 29 = .ok (.ldc_w 267, 3) := by decide +kernel
theorem dJ6_bitCount_0f7a4_32 : decode cJ6_bitCount_0f7a4 32 = .ok (.iand, 1) := by decide +kernel
theorem dJ6_bitCount_0f7a4_33 : decode cJ6_bitCount_0f7a4 33 = .ok (.istore_n 0, 1) := by decide +kernel
theorem dJ6_bitCount_0f7a4_34 : decode cJ6_bitCount_0f7a4 34 = .ok (.iload_n 0, 1) := by decide +kernel
theorem dJ6_bitCount_0f7a4_35 : decode cJ6_bitCount_0f7a4 35 = .ok (.iload_n 0, 1) := by decide +kernel
theorem dJ6_bitCount_0f7a4_36 : decode cJ6_bitCount_0f7a4 36 = .ok (.bipush 8, 2) := by decide +kernel
theorem dJ6_bitCount_0f7a4_38 : decode cJ6_bitCount_0f7a4 38 = .ok (.iushr, 1) := by decide +kernel
theorem dJ6_bitCount_0f7a4_39 : decode cJ6_bitCount_0f7a4 39 = .ok (.iadd, 1) := by decide +kernel
theorem dJ6_bitCount_0f7a4_40 : decode cJ6_bitCount_0f7a4 40 = .ok (.istore_n 0, 1) := by decide +kernel
theorem dJ6_bitCount_0f7a4_41 : decode cJ6_bitCount_0f7a4 41 = .ok (.iload_n 0, 1) := by decide +kernel
theorem dJ6_bitCount_0f7a4_42 : decode cJ6_bitCount_0f7a4 42 = .ok (.iload_n 0, 1) := by decide +kernel
theorem dJ6_bitCount_0f7a4_43 : decode cJ6_bitCount_0f7a4 43 = .ok (.bipush 16, 2) := by decide +kernel
theorem dJ6_bitCount_0f7a4_45 : decode cJ6_bitCount_0f7a4 45 = .ok (.iushr, 1) := by decide +kernel
theorem dJ6_bitCount_0f7a4_46 : decode cJ6_bitCount_0f7a4 46 = .ok (.iadd, 1) := by decide +kernel
theorem dJ6_bitCount_0f7a4_47 : decode cJ6_bitCount_0f7a4 47 = .ok (.istore_n 0, 1) := by decide +kernel
theorem dJ6_bitCount_0f7a4_48 : decode cJ6_bitCount_0f7a4 48 = .ok (.iload_n 0, 1) := by decide +kernel
theorem dJ6_bitCount_0f7a4_49 : decode cJ6_bitCount_0f7a4 49 = .ok (.bipush 63, 2) := by decide +kernel
theorem dJ6_bitCount_0f7a4_51 : decode cJ6_bitCount_0f7a4 51 = .ok (.iand, 1) := by decide +kernel
theorem dJ6_bitCount_0f7a4_52 : decode cJ6_bitCount_0f7a4 52 = .ok (.ireturn, 1) := by decide +kernel
theorem dJ9_max_7cf53_0 : decode cJ9_max_7cf53 0 = .ok (.iload_n 0, 1) := by decide +kernel
theorem dJ9_max_7cf53_1 : decode cJ9_max_7cf53 1 = .ok (.iload_n 1, 1) := by decide +kernel
theorem dJ9_max_7cf53_2 : decode cJ9_max_7cf53 2 = .ok (.if_icmp .lt 7, 3) := by decide +kernel
theorem dJ9_max_7cf53_5 : decode cJ9_max_7cf53 5 = .ok (.iload_n 0, 1) := by decide +kernel
theorem dJ9_max_7cf53_6 : decode cJ9_max_7cf53 6 = .ok (.goto 4, 3) := by decide +kernel
theorem dJ9_max_7cf53_9 : decode cJ9_max_7cf53 9 = .ok (.iload_n 1, 1) := by decide +kernel
theorem dJ9_max_7cf53_10 : decode cJ9_max_7cf53 10 = .ok (.ireturn, 1) := by decide +kernel
theorem dJ9_min_7cf53_0 : decode cJ9_min_7cf53 0 = .ok (.iload_n 0, 1) := by decide +kernel
theorem dJ9_min_7cf53_1 : decode cJ9_min_7cf53 1 = .ok (.iload_n 1, 1) := by decide +kernel
theorem dJ9_min_7cf53_2 : decode cJ9_min_7cf53 2 = .ok (.if_icmp .gt 7, 3) := by decide +kernel
theorem dJ9_min_7cf53_5 : decode cJ9_min_7cf53 5 = .ok (.iload_n 0, 1) := by decide +kernel
theorem dJ9_min_7cf53_6 : decode cJ9_min_7cf53 6 = .ok (.goto 4, 3) := by decide +kernel
theorem dJ9_min_7cf53_9 : decode cJ9_min_7cf53 9 = .ok (.iload_n 1, 1) := by decide +kernel
theorem dJ9_min_7cf53_10 : decode cJ9_min_7cf53 10 = .ok (.ireturn, 1) := by decide +kernel
theorem dJ0_length_8abf5_0 : decode cJ0_length_8abf5 0 = .ok (.aload_n 0, 1) := by decide +kernel
theorem dJ0_length_8abf5_1 : decode cJ0_length_8abf5 1 = .ok (.getfield 9, 3) := by decide +kernel
theorem dJ0_length_8abf5_4 : decode cJ0_length_8abf5 4 = .ok (.arraylength, 1) := by decide +kernel
theorem dJ0_length_8abf5_5 : decode cJ0_length_8abf5 5 = .ok (.aload_n 0, 1) := by decide +kernel
theorem dJ0_length_8abf5_6 : decode cJ0_length_8abf5 6 = .ok (.invokevirtual 335, 3) := by decide +kernel
theorem dJ0_length_8abf5_9 : decode cJ0_length_8abf5 9 = .ok (.ishr, 1) := by decide +kernel
theorem dJ0_length_8abf5_10 : decode cJ0_length_8abf5 10 = .ok (.ireturn, 1) := by decide +kernel
theorem dJ0_charAt_5068e_0 : decode cJ0_charAt_5068e 0 = .ok (.aload_n 0, 1) := by decide +kernel
theorem dJ0_charAt_5068e_1 : decode cJ0_charAt_5068e 1 = .ok (.invokevirtual 492, 3) := by decide +kernel
theorem dJ0_charAt_5068e_4 : decode cJ0_charAt_5068e 4 = .ok (.ifCond .eq 12, 3) := by decide +kernel
theorem dJ0_charAt_5068e_7 : decode cJ0_charAt_5068e 7 = .ok (.aload_n 0, 1) := by decide +kernel
theorem dJ0_charAt_5068e_8 : decode cJ0_charAt_5068e 8 = .ok (.getfield 9, 3) := by decide +kernel
theorem dJ0_charAt_5068e_11 : decode cJ0_charAt_5068e 11 = .ok (.iload_n 1, 1) := by decide +kernel
theorem dJ0_charAt_5068e_12 : decode cJ0_charAt_5068e 12 = .ok (.invokestatic 495, 3) := by decide +kernel
theorem dJ0_charAt_5068e_15 : decode cJ0_charAt_5068e 15 = .ok (.ireturn, 1) := by decide +kernel
theorem dJ0_charAt_5068e_16 : decode cJ0_charAt_5068e 16 = .ok (.aload_n 0, 1) := by decide +kernel
theorem dJ0_charAt_5068e_17 : decode cJ0_charAt_5068e 17 = .ok (.getfield 9, 3) := by decide +kernel
theorem dJ0_charAt_5068e_20 : decode cJ0_charAt_5068e 20 = .ok (.iload_n 1, 1) := by decide +kernel
theorem dJ0_charAt_5068e_21 : decode cJ0_charAt_5068e 21 = .ok (.invokestatic 498, 3) := by decide +kernel
theorem dJ0_charAt_5068e_24 : decode cJ0_charAt_5068e 24 = .ok (.ireturn, 1) := by decide +kernel
theorem dJ0_coder_7d493_0 : decode cJ0_coder_7d493 0 = .ok (.getstatic 38, 3) := by decide +kernel
theorem dJ0_coder_7d493_3 : decode cJ0_coder_7d493 3 = .ok (.ifCond .eq 10, 3) := by decide +kernel
theorem dJ0_coder_7d493_6 : decode cJ0_coder_7d493 6 = .ok (.aload_n 0, 1) := by decide +kernel
theorem dJ0_coder_7d493_7 : decode cJ0_coder_7d493 7 = .ok (.getfield 15, 3) := by decide +kernel
theorem dJ0_coder_7d493_10 : decode cJ0_coder_7d493 10 = .ok (.goto 4, 3) := by decide +kernel
theorem dJ0_coder_7d493_13 : decode cJ0_coder_7d493 13 = .ok (.iconst 1, 1) := by decide +kernel
theorem dJ0_coder_7d493_14 : decode cJ0_coder_7d493 14 = .ok (.ireturn, 1) := by decide +kernel
theorem dJ0_isLatin1_aae02_0 : decode cJ0_isLatin1_aae02 0 = .ok (.getstatic 38, 3) := by decide +kernel
theorem dJ0_isLatin1_aae02_3 : decode cJ0_isLatin1_aae02 3 = .ok (.ifCond .eq 14, 3) := by decide +kernel
theorem dJ0_isLatin1_aae02_6 : decode cJ0_isLatin1_aae02 6 = .ok (.aload_n 0, 1) := by decide +kernel
theorem dJ0_isLatin1_aae02_7 : decode cJ0_isLatin1_aae02 7 = .ok (.getfield 15, 3) := by decide +kernel
theorem dJ0_isLatin1_aae02_10 : decode cJ0_isLatin1_aae02 10 = .ok (.ifCond .ne 7, 3) := by decide +kernel
theorem dJ0_isLatin1_aae02_13 : decode cJ0_isLatin1_aae02 13 = .ok (.iconst 1, 1) := by decide +kernel
theorem dJ0_isLatin1_aae02_14 : decode cJ0_isLatin1_aae02 14 = .ok (.goto 4, 3) := by decide +kernel
theorem dJ0_isLatin1_aae02_17 : decode cJ0_isLatin1_aae02 17 = .ok (.iconst 0, 1) := by decide +kernel
theorem dJ0_isLatin1_aae02_18 : decode cJ0_isLatin1_aae02 18 = .ok (.ireturn, 1) := by decide +kernel
theorem dJ0_checkIndex_df160_0 : decode cJ0_checkIndex_df160 0 = .ok (.iload_n 0, 1) := by decide +kernel
theorem dJ0_checkIndex_df160_1 : decode cJ0_checkIndex_df160 1 = .ok (.iload_n 1, 1) := by decide +kernel
theorem dJ0_checkIndex_df160_2 : decode cJ0_checkIndex_df160 2 = .ok (.getstatic 1053, 3) := by decide +kernel
theorem dJ0_checkIndex_df160_5 : decode cJ0_checkIndex_df160 5 = .ok (.invokestatic 1059, 3) := by decide +kernel
theorem dJ0_checkIndex_df160_8 : decode cJ0_checkIndex_df160 8 = .ok (.pop, 1) := by decide +kernel
theorem dJ0_checkIndex_df160_9 : decode cJ0_checkIndex_df160 9 = .ok (.return_, 1) := by decide +kernel
theorem dJ1_charAt_3b067_0 : decode cJ1_charAt_3b067 0 = .ok (.iload_n 1, 1) := by decide +kernel
theorem dJ1_charAt_3b067_1 : decode cJ1_charAt_3b067 1 = .ok (.aload_n 0, 1) := by decide +kernel
theorem dJ1_charAt_3b067_2 : decode cJ1_charAt_3b067 2 = .ok (.arraylength, 1) := by decide +kernel
theorem dJ1_charAt_3b067_3 : decode cJ1_charAt_3b067 3 = .ok (.invokestatic 9, 3) := by decide +kernel
theorem dJ1_charAt_3b067_6 : decode cJ1_charAt_3b067 6 = .ok (.aload_n 0, 1) := by decide +kernel
theorem dJ1_charAt_3b067_7 : decode cJ1_charAt_3b067 7 = .ok (.iload_n 1, 1) := by decide +kernel
theorem dJ1_charAt_3b067_8 : decode cJ1_charAt_3b067 8 = .ok (.baload, 1) := by decide +kernel
theorem dJ1_charAt_3b067_9 : decode cJ1_charAt_3b067 9 = .ok (.sipush 255, 3) := by decide +kernel
theorem dJ1_charAt_3b067_12 : decode cJ1_charAt_3b067 12 = .ok (.iand, 1) := by decide +kernel
theorem dJ1_charAt_3b067_13 : decode cJ1_charAt_3b067 13 = .ok (.i2c, 1) := by decide +kernel
theorem dJ1_charAt_3b067_14 : decode cJ1_charAt_3b067 14 = .ok (.ireturn, 1) := by decide +kernel
theorem dJ2_getChar_3b067_0 : decode cJ2_getChar_3b067 0 = .ok (.getstatic 44, 3) := by decide +kernel
theorem dJ2_getChar_3b067_3 : decode cJ2_getChar_3b067 3 = .ok (.ifCond .ne 25, 3) := by decide +kernel
theorem dJ2_getChar_3b067_6 : decode cJ2_getChar_3b067 6 = .ok (.iload_n 1, 1) := by decide +kernel
theorem dJ2_getChar_3b067_7 : decode cJ2_getChar_3b067 7 = .ok (.ifCond .lt 11, 3) := by decide +kernel
theorem dJ2_getChar_3b067_10 : decode cJ2_getChar_3b067 10 = .ok (.iload_n 1, 1) := by decide +kernel
theorem dJ2_getChar_3b067_11 : decode cJ2_getChar_3b067 11 = .ok (.aload_n 0, 1) := by decide +kernel
theorem dJ2_getChar_3b067_12 : decode cJ2_getChar_3b067 12 = .ok (.invokestatic 48, 3) := by decide +kernel
theorem dJ2_getChar_3b067_15 : decode cJ2_getChar_3b067 15 = .ok (.if_icmp .lt 13, 3) := by decide +kernel
theorem dJ2_getChar_3b067_18 : decode cJ2_getChar_3b067 18 = .ok (.new 52, 3) := by decide +kernel
theorem dJ2_getChar_3b067_21 : decode cJ2_getChar_3b067 21 = .ok (.dup, 1) := by decide +kernel
theorem dJ2_getChar_3b067_22 : decode cJ2_getChar_3b067 22 = .ok (.ldc 54, 2) := by decide +kernel
theorem dJ2_getChar_3b067_24 : decode cJ2_getChar_3b067 24 = .ok (.invokespecial 56, 3) := by decide +kernel
theorem dJ2_getChar_3b067_27 : decode cJ2_getChar_3b067 27 = .ok (.athrow, 1) := by decide +kernel
theorem dJ2_getChar_3b067_28 : decode cJ2_getChar_3b067 28 = .ok (.iload_n 1, 1) := by decide +kernel
theorem dJ2_getChar_3b067_29 : decode cJ2_getChar_3b067 29 = .ok (.iconst 1, 1) := by decide +kernel
theorem dJ2_getChar_3b067_30 : decode cJ2_getChar_3b067 30 = .ok (.ishl, 1) := by decide +kernel
theorem dJ2_getChar_3b067_31 : decode cJ2_getChar_3b067 31 = .ok (.istore_n 1, 1) := by decide +kernel
theorem dJ2_getChar_3b067_32 : decode cJ2_getChar_3b067 32 = .ok (.aload_n 0, 1) := by decide +kernel
theorem dJ2_getChar_3b067_33 : decode cJ2_getChar_3b067 33 = .ok (.iload_n 1, 1) := by decide +kernel
theorem dJ2_getChar_3b067_34 : decode cJ2_getChar_3b067 34 = .ok (.iinc 1 1, 3) := by decide +kernel
theorem dJ2_getChar_3b067_37 : decode cJ2_getChar_3b067 37 = .ok (.baload, 1) := by decide +kernel
theorem dJ2_getChar_3b067_38 : decode cJ2_getChar_3b067 38 = .ok (.sipush 255, 3) := by decide +kernel
theorem dJ2_getChar_3b067_41 : decode cJ2_getChar_3b067 41 = .ok (.iand, 1) := by decide +kernel
theorem dJ2_getChar_3b067_42 : decode cJ2_getChar_3b067 42 = .ok (.getstatic 59, 3) := by decide +kernel
theorem dJ2_getChar_3b067_45 : decode cJ2_getChar_3b067 45 = .ok (.ishl, 1) := by decide +kernel
theorem dJ2_getChar_3b067_46 : decode cJ2_getChar_3b067 46 = .ok (.aload_n 0, 1) := by decide +kernel
theorem dJ2_getChar_3b067_47 : decode cJ2_getChar_3b067 47 = .ok (.iload_n 1, 1) := by decide +kernel
theorem dJ2_getChar_3b067_48 : decode cJ2_getChar_3b067 48 = .ok (.baload, 1) := by decide +kernel
theorem dJ2_getChar_3b067_49 : decode cJ2_getChar_3b067 49 = .ok (.sipush 255, 3) := by decide +kernel
theorem dJ2_getChar_3b067_52 : decode cJ2_getChar_3b067 52 = .ok (.iand, 1) := by decide +kernel
theorem dJ2_getChar_3b067_53 : decode cJ2_getChar_3b067 53 = .ok (.getstatic 63, 3) := by decide +kernel
theorem dJ2_getChar_3b067_56 : decode cJ2_getChar_3b067 56 = .ok (.ishl, 1) := by decide +kernel
theorem dJ2_getChar_3b067_57 : decode cJ2_getChar_3b067 57 = .ok (.ior, 1) := by decide +kernel
theorem dJ2_getChar_3b067_58 : decode cJ2_getChar_3b067 58 = .ok (.i2c, 1) := by decide +kernel
theorem dJ2_getChar_3b067_59 : decode cJ2_getChar_3b067 59 = .ok (.ireturn, 1) := by decide +kernel
theorem dJ2_length_9d52b_0 : decode cJ2_length_9d52b 0 = .ok (.aload_n 0, 1) := by decide +kernel
theorem dJ2_length_9d52b_1 : decode cJ2_length_9d52b 1 = .ok (.arraylength, 1) := by decide +kernel
theorem dJ2_length_9d52b_2 : decode cJ2_length_9d52b 2 = .ok (.iconst 1, 1) := by decide +kernel
theorem dJ2_length_9d52b_3 : decode cJ2_length_9d52b 3 = .ok (.ishr, 1) := by decide +kernel
theorem dJ2_length_9d52b_4 : decode cJ2_length_9d52b 4 = .ok (.ireturn, 1) := by decide +kernel
theorem dJ2_charAt_3b067_0 : decode cJ2_charAt_3b067 0 = .ok (.iload_n 1, 1) := by decide +kernel
theorem dJ2_charAt_3b067_1 : decode cJ2_charAt_3b067 1 = .ok (.aload_n 0, 1) := by decide +kernel
theorem dJ2_charAt_3b067_2 : decode cJ2_charAt_3b067 2 = .ok (.invokestatic 67, 3) := by decide +kernel
theorem dJ2_charAt_3b067_5 : decode cJ2_charAt_3b067 5 = .ok (.aload_n 0, 1) := by decide +kernel
theorem dJ2_charAt_3b067_6 : decode cJ2_charAt_3b067 6 = .ok (.iload_n 1, 1) := by decide +kernel
theorem dJ2_charAt_3b067_7 : decode cJ2_charAt_3b067 7 = .ok (.invokestatic 71, 3) := by decide +kernel
theorem dJ2_charAt_3b067_10 : decode cJ2_charAt_3b067 10 = .ok (.ireturn, 1) := by decide +kernel
theorem dJ2_checkIndex_2214a_0 : decode cJ2_checkIndex_2214a 0 = .ok (.iload_n 0, 1) := by decide +kernel
theorem dJ2_checkIndex_2214a_1 : decode cJ2_checkIndex_2214a 1 = .ok (.aload_n 1, 1) := by decide +kernel
theorem dJ2_checkIndex_2214a_2 : decode cJ2_checkIndex_2214a 2 = .ok (.invokestatic 48, 3) := by decide +kernel
theorem dJ2_checkIndex_2214a_5 : decode cJ2_checkIndex_2214a 5 = .ok (.invokestatic 414, 3) := by decide +kernel
theorem dJ2_checkIndex_2214a_8 : decode cJ2_checkIndex_2214a 8 = .ok (.return_, 1) := by decide +kernel
theorem dJ3_checkIndex_8e157_0 : decode cJ3_checkIndex_8e157 0 = .ok (.iload_n 0, 1) := by decide +kernel
theorem dJ3_checkIndex_8e157_1 : decode cJ3_checkIndex_8e157 1 = .ok (.ifCond .lt 8, 3) := by decide +kernel
theorem dJ3_checkIndex_8e157_4 : decode cJ3_checkIndex_8e157 4 = .ok (.iload_n 0, 1) := by decide +kernel
theorem dJ3_checkIndex_8e157_5 : decode cJ3_checkIndex_8e157 5 = .ok (.iload_n 1, 1) := by decide +kernel
theorem dJ3_checkIndex_8e157_6 : decode cJ3_checkIndex_8e157 6 = .ok (.if_icmp .lt 10, 3) := by decide +kernel
theorem dJ3_checkIndex_8e157_9 : decode cJ3_checkIndex_8e157 9 = .ok (.aload_n 2, 1) := by decide +kernel
theorem dJ3_checkIndex_8e157_10 : decode cJ3_checkIndex_8e157 10 = .ok (.iload_n 0, 1) := by decide +kernel
theorem dJ3_checkIndex_8e157_11 : decode cJ3_checkIndex_8e157 11 = .ok (.iload_n 1, 1) := by decide +kernel
theorem dJ3_checkIndex_8e157_12 : decode cJ3_checkIndex_8e157 12 = .ok (.invokestatic 95, 3) := by decide +kernel
theorem dJ3_checkIndex_8e157_15 : decode cJ3_checkIndex_8e157 15 = .ok (.athrow, 1) := by decide +kernel
theorem dJ3_checkIndex_8e157_16 : decode cJ3_checkIndex_8e157 16 = .ok (.iload_n 0, 1) := by decide +kernel
theorem dJ3_checkIndex_8e157_17 : decode cJ3_checkIndex_8e157 17 = .ok (.ireturn, 1) := by decide +kernel
