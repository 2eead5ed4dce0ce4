theorem d_MD_init_0 : decode b_MD_init 0 = .ok (.aload_n 0, 1) := by decide +kernel
theorem d_MD_init_1 : decode b_MD_init 1 = .ok (.invokespecial 1, 3) := by decide +kernel
theorem d_MD_init_4 : decode b_MD_init 4 = .ok (.aload_n 0, 1) := by decide +kernel
theorem d_MD_init_5 : decode b_MD_init 5 = .ok (.sipush 2000, 3) := by decide +kernel
theorem d_MD_init_8 : decode b_MD_init 8 = .ok (.newarray .int, 2) := by decide +kernel
theorem d_MD_init_10 : decode b_MD_init 10 = .ok (.putfield 7, 3) := by decide +kernel
theorem d_MD_init_13 : decode b_MD_init 13 = .ok (.aload_n 0, 1) := by decide +kernel
theorem d_MD_init_14 : decode b_MD_init 14 = .ok (.bipush 100, 2) := by decide +kernel
theorem d_MD_init_16 : decode b_MD_init 16 = .ok (.newarray .int, 2) := by decide +kernel
theorem d_MD_init_18 : decode b_MD_init 18 = .ok (.putfield 13, 3) := by decide +kernel
theorem d_MD_init_21 : decode b_MD_init 21 = .ok (.aload_n 0, 1) := by decide +kernel
theorem d_MD_init_22 : decode b_MD_init 22 = .ok (.bipush 100, 2) := by decide +kernel
theorem d_MD_init_24 : decode b_MD_init 24 = .ok (.newarray .int, 2) := by decide +kernel
theorem d_MD_init_26 : decode b_MD_init 26 = .ok (.putfield 16, 3) := by decide +kernel
theorem d_MD_init_29 : decode b_MD_init 29 = .ok (.aload_n 0, 1) := by decide +kernel
theorem d_MD_init_30 : decode b_MD_init 30 = .ok (.bipush 100, 2) := by decide +kernel
theorem d_MD_init_32 : decode b_MD_init 32 = .ok (.newarray .int, 2) := by decide +kernel
theorem d_MD_init_34 : decode b_MD_init 34 = .ok (.putfield 19, 3) := by decide +kernel
theorem d_MD_init_37 : decode b_MD_init 37 = .ok (.aload_n 0, 1) := by decide +kernel
theorem d_MD_init_38 : decode b_MD_init 38 = .ok (.bipush 40, 2) := by decide +kernel
theorem d_MD_init_40 : decode b_MD_init 40 = .ok (.newarray .int, 2) := by decide +kernel
theorem d_MD_init_42 : decode b_MD_init 42 = .ok (.putfield 22, 3) := by decide +kernel
theorem d_MD_init_45 : decode b_MD_init 45 = .ok (.aload_n 0, 1) := by decide +kernel
theorem d_MD_init_46 : decode b_MD_init 46 = .ok (.bipush 40, 2) := by decide +kernel
theorem d_MD_init_48 : decode b_MD_init 48 = .ok (.newarray .int, 2) := by decide +kernel
theorem d_MD_init_50 : decode b_MD_init 50 = .ok (.putfield 25, 3) := by decide +kernel
theorem d_MD_init_53 : decode b_MD_init 53 = .ok (.aload_n 0, 1) := by decide +kernel
theorem d_MD_init_54 : decode b_MD_init 54 = .ok (.bipush 40, 2) := by decide +kernel
theorem d_MD_init_56 : decode b_MD_init 56 = .ok (.newarray .int, 2) := by decide +kernel
theorem d_MD_init_58 : decode b_MD_init 58 = .ok (.putfield 28, 3) := by decide +kernel
theorem d_MD_init_61 : decode b_MD_init 61 = .ok (.aload_n 0, 1) := by decide +kernel
theorem d_MD_init_62 : decode b_MD_init 62 = .ok (.bipush 40, 2) := by decide +kernel
theorem d_MD_init_64 : decode b_MD_init 64 = .ok (.newarray .int, 2) := by decide +kernel
theorem d_MD_init_66 : decode b_MD_init 66 = .ok (.putfield 31, 3) := by decide +kernel
theorem d_MD_init_69 : decode b_MD_init 69 = .ok (.aload_n 0, 1) := by decide +kernel
theorem d_MD_init_70 : decode b_MD_init 70 = .ok (.sipush 2000, 3) := by decide +kernel
theorem d_MD_init_73 : decode b_MD_init 73 = .ok (.newarray .int, 2) := by decide +kernel
theorem d_MD_init_75 : decode b_MD_init 75 = .ok (.putfield 34, 3) := by decide +kernel
theorem d_MD_init_78 : decode b_MD_init 78 = .ok (.aload_n 0, 1) := by decide +kernel
theorem d_MD_init_79 : decode b_MD_init 79 = .ok (.sipush 2000, 3) := by decide +kernel
theorem d_MD_init_82 : decode b_MD_init 82 = .ok (.newarray .int, 2) := by decide +kernel
theorem d_MD_init_84 : decode b_MD_init 84 = .ok (.putfield 37, 3) := by decide +kernel
theorem d_MD_init_87 : decode b_MD_init 87 = .ok (.aload_n 0, 1) := by decide +kernel
theorem d_MD_init_88 : decode b_MD_init 88 = .ok (.sipush 2000, 3) := by decide +kernel
theorem d_MD_init_91 : decode b_MD_init 91 = .ok (.newarray .int, 2) := by decide +kernel
theorem d_MD_init_93 : decode b_MD_init 93 = .ok (.putfield 40, 3) := by decide +kernel
theorem d_MD_init_96 : decode b_MD_init 96 = .ok (.aload_n 0, 1) := by decide +kernel
theorem d_MD_init_97 : decode b_MD_init 97 = .ok (.sipush 2000, 3) := by decide +kernel
theorem d_MD_init_100 : decode b_MD_init 100 = .ok (.newarray .int, 2) := by decide +kernel
theorem d_MD_init_102 : decode b_MD_init 102 = .ok (.putfield 43, 3) := by decide +kernel
theorem d_MD_init_105 : decode b_MD_init 105 = .ok (.aload_n 0, 1) := by decide +kernel
theorem d_MD_init_106 : decode b_MD_init 106 = .ok (.sipush 2000, 3) := by decide +kernel
theorem d_MD_init_109 : decode b_MD_init 109 = .ok (.newarray .int, 2) := by decide +kernel
theorem d_MD_init_111 : decode b_MD_init 111 = .ok (.putfield 46, 3) := by decide +kernel
theorem d_MD_init_114 : decode b_MD_init 114 = .ok (.aload_n 0, 1) := by decide +kernel
theorem d_MD_init_115 : decode b_MD_init 115 = .ok (.sipush 8000, 3) := by decide +kernel
theorem d_MD_init_118 : decode b_MD_init 118 = .ok (.newarray .int, 2) := by decide +kernel
theorem d_MD_init_120 : decode b_MD_init 120 = .ok (.putfield 49, 3) := by decide +kernel
theorem d_MD_init_123 : decode b_MD_init 123 = .ok (.aload_n 0, 1) := by decide +kernel
theorem d_MD_init_124 : decode b_MD_init 124 = .ok (.sipush 130, 3) := by decide +kernel
theorem d_MD_init_127 : decode b_MD_init 127 = .ok (.newarray .int, 2) := by decide +kernel
theorem d_MD_init_129 : decode b_MD_init 129 = .ok (.putfield 52, 3) := by decide +kernel
theorem d_MD_init_132 : decode b_MD_init 132 = .ok (.aload_n 0, 1) := by decide +kernel
theorem d_MD_init_133 : decode b_MD_init 133 = .ok (.sipush 130, 3) := by decide +kernel
theorem d_MD_init_136 : decode b_MD_init 136 = .ok (.newarray .int, 2) := by decide +kernel
theorem d_MD_init_138 : decode b_MD_init 138 = .ok (.putfield 55, 3) := by decide +kernel
theorem d_MD_init_141 : decode b_MD_init 141 = .ok (.aload_n 0, 1) := by decide +kernel
theorem d_MD_init_142 : decode b_MD_init 142 = .ok (.sipush 130, 3) := by decide +kernel
theorem d_MD_init_145 : decode b_MD_init 145 = .ok (.newarray .boolean, 2) := by decide +kernel
theorem d_MD_init_147 : decode b_MD_init 147 = .ok (.putfield 58, 3) := by decide +kernel
theorem d_MD_init_150 : decode b_MD_init 150 = .ok (.aload_n 0, 1) := by decide +kernel
theorem d_MD_init_151 : decode b_MD_init 151 = .ok (.sipush 2000, 3) := by decide +kernel
theorem d_MD_init_154 : decode b_MD_init 154 = .ok (.newarray .int, 2) := by decide +kernel
theorem d_MD_init_156 : decode b_MD_init 156 = .ok (.putfield 62, 3) := by decide +kernel
theorem d_MD_init_159 : decode b_MD_init 159 = .ok (.aload_n 0, 1) := by decide +kernel
theorem d_MD_init_160 : decode b_MD_init 160 = .ok (.bipush 64, 2) := by decide +kernel
theorem d_MD_init_162 : decode b_MD_init 162 = .ok (.newarray .int, 2) := by decide +kernel
theorem d_MD_init_164 : decode b_MD_init 164 = .ok (.putfield 65, 3) := by decide +kernel
theorem d_MD_init_167 : decode b_MD_init 167 = .ok (.aload_n 0, 1) := by decide +kernel
theorem d_MD_init_168 : decode b_MD_init 168 = .ok (.sipush 2000, 3) := by decide +kernel
theorem d_MD_init_171 : decode b_MD_init 171 = .ok (.newarray .int, 2) := by decide +kernel
theorem d_MD_init_173 : decode b_MD_init 173 = .ok (.putfield 68, 3) := by decide +kernel
theorem d_MD_init_176 : decode b_MD_init 176 = .ok (.aload_n 0, 1) := by decide +kernel
theorem d_MD_init_177 : decode b_MD_init 177 = .ok (.sipush 2000, 3) := by decide +kernel
theorem d_MD_init_180 : decode b_MD_init 180 = .ok (.newarray .int, 2) := by decide +kernel
theorem d_MD_init_182 : decode b_MD_init 182 = .ok (.putfield 71, 3) := by decide +kernel
theorem d_MD_init_185 : decode b_MD_init 185 = .ok (.aload_n 0, 1) := by decide +kernel
theorem d_MD_init_186 : decode b_MD_init 186 = .ok (.sipush 2000, 3) := by decide +kernel
theorem d_MD_init_189 : decode b_MD_init 189 = .ok (.newarray .int, 2) := by decide +kernel
theorem d_MD_init_191 : decode b_MD_init 191 = .ok (.putfield 74, 3) := by decide +kernel
theorem d_MD_init_194 : decode b_MD_init 194 = .ok (.return_, 1) := by decide +kernel
theorem d_MD_thrown_0 : decode b_MD_thrown 0 = .ok (.aload_n 0, 1) := by decide +kernel
theorem d_MD_thrown_1 : decode b_MD_thrown 1 = .ok (.getfield 77, 3) := by decide +kernel
theorem d_MD_thrown_4 : decode b_MD_thrown 4 = .ok (.ireturn, 1) := by decide +kernel
theorem d_MD_refused_0 : decode b_MD_refused 0 = .ok (.aload_n 0, 1) := by decide +kernel
theorem d_MD_refused_1 : decode b_MD_refused 1 = .ok (.iload_n 1, 1) := by decide +kernel
theorem d_MD_refused_2 : decode b_MD_refused 2 = .ok (.putfield 77, 3) := by decide +kernel
theorem d_MD_refused_5 : decode b_MD_refused 5 = .ok (.iload_n 1, 1) := by decide +kernel
theorem d_MD_refused_6 : decode b_MD_refused 6 = .ok (.ifCond .le 7, 3) := by decide +kernel
theorem d_MD_refused_9 : decode b_MD_refused 9 = .ok (.iconst 1, 1) := by decide +kernel
theorem d_MD_refused_10 : decode b_MD_refused 10 = .ok (.goto 4, 3) := by decide +kernel
theorem d_MD_refused_13 : decode b_MD_refused 13 = .ok (.iconst 0, 1) := by decide +kernel
theorem d_MD_refused_14 : decode b_MD_refused 14 = .ok (.ireturn, 1) := by decide +kernel
theorem d_MD_isCharacter_0 : decode b_MD_isCharacter 0 = .ok (.iload_n 0, 1) := by decide +kernel
theorem d_MD_isCharacter_1 : decode b_MD_isCharacter 1 = .ok (.ifCond .lt 13, 3) := by decide +kernel
theorem d_MD_isCharacter_4 : decode b_MD_isCharacter 4 = .ok (.iload_n 0, 1) := by decide +kernel
theorem d_MD_isCharacter_5 : decode b_MD_isCharacter 5 = .ok (.ldc 81, 2) := by decide +kernel
theorem d_MD_isCharacter_7 : decode b_MD_isCharacter 7 = .ok (.if_icmp .gt 7, 3) := by decide +kernel
theorem d_MD_isCharacter_10 : decode b_MD_isCharacter 10 = .ok (.iconst 1, 1) := by decide +kernel
theorem d_MD_isCharacter_11 : decode b_MD_isCharacter 11 = .ok (.goto 4, 3) := by decide +kernel
theorem d_MD_isCharacter_14 : decode b_MD_isCharacter 14 = .ok (.iconst 0, 1) := by decide +kernel
theorem d_MD_isCharacter_15 : decode b_MD_isCharacter 15 = .ok (.ireturn, 1) := by decide +kernel
theorem d_MD_property_0 : decode b_MD_property 0 = .ok (.iload_n 1, 1) := by decide +kernel
theorem d_MD_property_1 : decode b_MD_property 1 = .ok (.invokestatic 82, 3) := by decide +kernel
theorem d_MD_property_4 : decode b_MD_property 4 = .ok (.ifCond .eq 29, 3) := by decide +kernel
theorem d_MD_property_7 : decode b_MD_property 7 = .ok (.iload_n 2, 1) := by decide +kernel
theorem d_MD_property_8 : decode b_MD_property 8 = .ok (.invokestatic 82, 3) := by decide +kernel
theorem d_MD_property_11 : decode b_MD_property 11 = .ok (.ifCond .eq 22, 3) := by decide +kernel
theorem d_MD_property_14 : decode b_MD_property 14 = .ok (.iload_n 1, 1) := by decide +kernel
theorem d_MD_property_15 : decode b_MD_property 15 = .ok (.iload_n 2, 1) := by decide +kernel
theorem d_MD_property_16 : decode b_MD_property 16 = .ok (.if_icmp .gt 17, 3) := by decide +kernel
theorem d_MD_property_19 : decode b_MD_property 19 = .ok (.iload_n 3, 1) := by decide +kernel
theorem d_MD_property_20 : decode b_MD_property 20 = .ok (.ifCond .lt 13, 3) := by decide +kernel
theorem d_MD_property_23 : decode b_MD_property 23 = .ok (.iload_n 3, 1) := by decide +kernel
theorem d_MD_property_24 : decode b_MD_property 24 = .ok (.bipush 22, 2) := by decide +kernel
theorem d_MD_property_26 : decode b_MD_property 26 = .ok (.if_icmp .gt 7, 3) := by decide +kernel
theorem d_MD_property_29 : decode b_MD_property 29 = .ok (.iconst 1, 1) := by decide +kernel
theorem d_MD_property_30 : decode b_MD_property 30 = .ok (.goto 4, 3) := by decide +kernel
theorem d_MD_property_33 : decode b_MD_property 33 = .ok (.iconst 0, 1) := by decide +kernel
theorem d_MD_property_34 : decode b_MD_property 34 = .ok (.istore 4, 2) := by decide +kernel
theorem d_MD_property_36 : decode b_MD_property 36 = .ok (.aload_n 0, 1) := by decide +kernel
theorem d_MD_property_37 : decode b_MD_property 37 = .ok (.iload 4, 2) := by decide +kernel
theorem d_MD_property_39 : decode b_MD_property 39 = .ok (.ifCond .ne 7, 3) := by decide +kernel
theorem d_MD_property_42 : decode b_MD_property 42 = .ok (.iconst 1, 1) := by decide +kernel
theorem d_MD_property_43 : decode b_MD_property 43 = .ok (.goto 17, 3) := by decide +kernel
theorem d_MD_property_46 : decode b_MD_property 46 = .ok (.aload_n 0, 1) := by decide +kernel
theorem d_MD_property_47 : decode b_MD_property 47 = .ok (.getfield 86, 3) := by decide +kernel
theorem d_MD_property_50 : decode b_MD_property 50 = .ok (.bipush 100, 2) := by decide +kernel
theorem d_MD_property_52 : decode b_MD_property 52 = .ok (.if_icmp .ne 7, 3) := by decide +kernel
theorem d_MD_property_55 : decode b_MD_property 55 = .ok (.iconst 2, 1) := by decide +kernel
theorem d_MD_property_56 : decode b_MD_property 56 = .ok (.goto 4, 3) := by decide +kernel
theorem d_MD_property_59 : decode b_MD_property 59 = .ok (.iconst 0, 1) := by decide +kernel
theorem d_MD_property_60 : decode b_MD_property 60 = .ok (.invokevirtual 89, 3) := by decide +kernel
theorem d_MD_property_63 : decode b_MD_property 63 = .ok (.ifCond .ne 48, 3) := by decide +kernel
theorem d_MD_property_66 : decode b_MD_property 66 = .ok (.aload_n 0, 1) := by decide +kernel
theorem d_MD_property_67 : decode b_MD_property 67 = .ok (.getfield 13, 3) := by decide +kernel
theorem d_MD_property_70 : decode b_MD_property 70 = .ok (.aload_n 0, 1) := by decide +kernel
theorem d_MD_property_71 : decode b_MD_property 71 = .ok (.getfield 86, 3) := by decide +kernel
theorem d_MD_property_74 : decode b_MD_property 74 = .ok (.iload_n 1, 1) := by decide +kernel
theorem d_MD_property_75 : decode b_MD_property 75 = .ok (.iastore, 1) := by decide +kernel
theorem d_MD_property_76 : decode b_MD_property 76 = .ok (.aload_n 0, 1) := by decide +kernel
theorem d_MD_property_77 : decode b_MD_property 77 = .ok (.getfield 16, 3) := by decide +kernel
theorem d_MD_property_80 : decode b_MD_property 80 = .ok (.aload_n 0, 1) := by decide +kernel
theorem d_MD_property_81 : decode b_MD_property 81 = .ok (.getfield 86, 3) := by decide +kernel
theorem d_MD_property_84 : decode b_MD_property 84 = .ok (.iload_n 2, 1) := by decide +kernel
theorem d_MD_property_85 : decode b_MD_property 85 = .ok (.iastore, 1) := by decide +kernel
theorem d_MD_property_86 : decode b_MD_property 86 = .ok (.aload_n 0, 1) := by decide +kernel
theorem d_MD_property_87 : decode b_MD_property 87 = .ok (.getfield 19, 3) := by decide +kernel
theorem d_MD_property_90 : decode b_MD_property 90 = .ok (.aload_n 0, 1) := by decide +kernel
theorem d_MD_property_91 : decode b_MD_property 91 = .ok (.getfield 86, 3) := by decide +kernel
theorem d_MD_property_94 : decode b_MD_property 94 = .ok (.iload_n 3, 1) := by decide +kernel
theorem d_MD_property_95 : decode b_MD_property 95 = .ok (.iastore, 1) := by decide +kernel
theorem d_MD_property_96 : decode b_MD_property 96 = .ok (.aload_n 0, 1) := by decide +kernel
theorem d_MD_property_97 : decode b_MD_property 97 = .ok (.dup, 1) := by decide +kernel
theorem d_MD_property_98 : decode b_MD_property 98 = .ok (.getfield 86, 3) := by decide +kernel
theorem d_MD_property_101 : decode b_MD_property 101 = .ok (.iconst 1, 1) := by decide +kernel
theorem d_MD_property_102 : decode b_MD_property 102 = .ok (.iadd, 1) := by decide +kernel
theorem d_MD_property_103 : decode b_MD_property 103 = .ok (.putfield 86, 3) := by decide +kernel
theorem d_MD_property_106 : decode b_MD_property 106 = .ok (.aload_n 0, 1) := by decide +kernel
theorem d_MD_property_107 : decode b_MD_property 107 = .ok (.iconst 0, 1) := by decide +kernel
theorem d_MD_property_108 : decode b_MD_property 108 = .ok (.putfield 92, 3) := by decide +kernel
theorem d_MD_property_111 : decode b_MD_property 111 = .ok (.return_, 1) := by decide +kernel
theorem d_MD_isBracket_0 : decode b_MD_isBracket 0 = .ok (.aload_n 0, 1) := by decide +kernel
theorem d_MD_isBracket_1 : decode b_MD_isBracket 1 = .ok (.iload_n 1, 1) := by decide +kernel
theorem d_MD_isBracket_2 : decode b_MD_isBracket 2 = .ok (.invokevirtual 96, 3) := by decide +kernel
theorem d_MD_isBracket_5 : decode b_MD_isBracket 5 = .ok (.ifCond .ge 11, 3) := by decide +kernel
theorem d_MD_isBracket_8 : decode b_MD_isBracket 8 = .ok (.aload_n 0, 1) := by decide +kernel
theorem d_MD_isBracket_9 : decode b_MD_isBracket 9 = .ok (.iload_n 1, 1) := by decide +kernel
theorem d_MD_isBracket_10 : decode b_MD_isBracket 10 = .ok (.invokevirtual 100, 3) := by decide +kernel
theorem d_MD_isBracket_13 : decode b_MD_isBracket 13 = .ok (.ifCond .eq 7, 3) := by decide +kernel
theorem d_MD_isBracket_16 : decode b_MD_isBracket 16 = .ok (.iconst 1, 1) := by decide +kernel
theorem d_MD_isBracket_17 : decode b_MD_isBracket 17 = .ok (.goto 4, 3) := by decide +kernel
theorem d_MD_isBracket_20 : decode b_MD_isBracket 20 = .ok (.iconst 0, 1) := by decide +kernel
theorem d_MD_isBracket_21 : decode b_MD_isBracket 21 = .ok (.ireturn, 1) := by decide +kernel
theorem d_MD_asked_0 : decode b_MD_asked 0 = .ok (.iconst (-1), 1) := by decide +kernel
theorem d_MD_asked_1 : decode b_MD_asked 1 = .ok (.istore_n 2, 1) := by decide +kernel
theorem d_MD_asked_2 : decode b_MD_asked 2 = .ok (.iconst 0, 1) := by decide +kernel
theorem d_MD_asked_3 : decode b_MD_asked 3 = .ok (.istore_n 3, 1) := by decide +kernel
theorem d_MD_asked_4 : decode b_MD_asked 4 = .ok (.iload_n 3, 1) := by decide +kernel
theorem d_MD_asked_5 : decode b_MD_asked 5 = .ok (.aload_n 0, 1) := by decide +kernel
theorem d_MD_asked_6 : decode b_MD_asked 6 = .ok (.getfield 103, 3) := by decide +kernel
theorem d_MD_asked_9 : decode b_MD_asked 9 = .ok (.if_icmp .ge 30, 3) := by decide +kernel
theorem d_MD_asked_12 : decode b_MD_asked 12 = .ok (.aload_n 0, 1) := by decide +kernel
theorem d_MD_asked_13 : decode b_MD_asked 13 = .ok (.getfield 22, 3) := by decide +kernel
theorem d_MD_asked_16 : decode b_MD_asked 16 = .ok (.iload_n 3, 1) := by decide +kernel
theorem d_MD_asked_17 : decode b_MD_asked 17 = .ok (.iaload, 1) := by decide +kernel
theorem d_MD_asked_18 : decode b_MD_asked 18 = .ok (.iload_n 1, 1) := by decide +kernel
theorem d_MD_asked_19 : decode b_MD_asked 19 = .ok (.if_icmp .ne 12, 3) := by decide +kernel
theorem d_MD_asked_22 : decode b_MD_asked 22 = .ok (.aload_n 0, 1) := by decide +kernel
theorem d_MD_asked_23 : decode b_MD_asked 23 = .ok (.getfield 25, 3) := by decide +kernel
theorem d_MD_asked_26 : decode b_MD_asked 26 = .ok (.iload_n 3, 1) := by decide +kernel
theorem d_MD_asked_27 : decode b_MD_asked 27 = .ok (.iaload, 1) := by decide +kernel
theorem d_MD_asked_28 : decode b_MD_asked 28 = .ok (.goto 4, 3) := by decide +kernel
theorem d_MD_asked_31 : decode b_MD_asked 31 = .ok (.iload_n 2, 1) := by decide +kernel
theorem d_MD_asked_32 : decode b_MD_asked 32 = .ok (.istore_n 2, 1) := by decide +kernel
theorem d_MD_asked_33 : decode b_MD_asked 33 = .ok (.iinc 3 1, 3) := by decide +kernel
theorem d_MD_asked_36 : decode b_MD_asked 36 = .ok (.goto (-32), 3) := by decide +kernel
theorem d_MD_asked_39 : decode b_MD_asked 39 = .ok (.iload_n 2, 1) := by decide +kernel
theorem d_MD_asked_40 : decode b_MD_asked 40 = .ok (.ireturn, 1) := by decide +kernel
theorem d_MD_closes_0 : decode b_MD_closes 0 = .ok (.iconst 0, 1) := by decide +kernel
theorem d_MD_closes_1 : decode b_MD_closes 1 = .ok (.istore_n 2, 1) := by decide +kernel
theorem d_MD_closes_2 : decode b_MD_closes 2 = .ok (.iconst 0, 1) := by decide +kernel
theorem d_MD_closes_3 : decode b_MD_closes 3 = .ok (.istore_n 3, 1) := by decide +kernel
theorem d_MD_closes_4 : decode b_MD_closes 4 = .ok (.iload_n 3, 1) := by decide +kernel
theorem d_MD_closes_5 : decode b_MD_closes 5 = .ok (.aload_n 0, 1) := by decide +kernel
theorem d_MD_closes_6 : decode b_MD_closes 6 = .ok (.getfield 103, 3) := by decide +kernel
theorem d_MD_closes_9 : decode b_MD_closes 9 = .ok (.if_icmp .ge 29, 3) := by decide +kernel
theorem d_MD_closes_12 : decode b_MD_closes 12 = .ok (.iload_n 2, 1) := by decide +kernel
theorem d_MD_closes_13 : decode b_MD_closes 13 = .ok (.ifCond .ne 13, 3) := by decide +kernel
theorem d_MD_closes_16 : decode b_MD_closes 16 = .ok (.aload_n 0, 1) := by decide +kernel
theorem d_MD_closes_17 : decode b_MD_closes 17 = .ok (.getfield 25, 3) := by decide +kernel
theorem d_MD_closes_20 : decode b_MD_closes 20 = .ok (.iload_n 3, 1) := by decide +kernel
theorem d_MD_closes_21 : decode b_MD_closes 21 = .ok (.iaload, 1) := by decide +kernel
theorem d_MD_closes_22 : decode b_MD_closes 22 = .ok (.iload_n 1, 1) := by decide +kernel
theorem d_MD_closes_23 : decode b_MD_closes 23 = .ok (.if_icmp .ne 7, 3) := by decide +kernel
theorem d_MD_closes_26 : decode b_MD_closes 26 = .ok (.iconst 1, 1) := by decide +kernel
theorem d_MD_closes_27 : decode b_MD_closes 27 = .ok (.goto 4, 3) := by decide +kernel
theorem d_MD_closes_30 : decode b_MD_closes 30 = .ok (.iconst 0, 1) := by decide +kernel
theorem d_MD_closes_31 : decode b_MD_closes 31 = .ok (.istore_n 2, 1) := by decide +kernel
theorem d_MD_closes_32 : decode b_MD_closes 32 = .ok (.iinc 3 1, 3) := by decide +kernel
theorem d_MD_closes_35 : decode b_MD_closes 35 = .ok (.goto (-31), 3) := by decide +kernel
theorem d_MD_closes_38 : decode b_MD_closes 38 = .ok (.iload_n 2, 1) := by decide +kernel
theorem d_MD_closes_39 : decode b_MD_closes 39 = .ok (.ireturn, 1) := by decide +kernel
theorem d_MD_bracket_0 : decode b_MD_bracket 0 = .ok (.iload_n 1, 1) := by decide +kernel
theorem d_MD_bracket_1 : decode b_MD_bracket 1 = .ok (.invokestatic 82, 3) := by decide +kernel
theorem d_MD_bracket_4 : decode b_MD_bracket 4 = .ok (.ifCond .eq 35, 3) := by decide +kernel
theorem d_MD_bracket_7 : decode b_MD_bracket 7 = .ok (.iload_n 2, 1) := by decide +kernel
theorem d_MD_bracket_8 : decode b_MD_bracket 8 = .ok (.invokestatic 82, 3) := by decide +kernel
theorem d_MD_bracket_11 : decode b_MD_bracket 11 = .ok (.ifCond .eq 28, 3) := by decide +kernel
theorem d_MD_bracket_14 : decode b_MD_bracket 14 = .ok (.iload_n 1, 1) := by decide +kernel
theorem d_MD_bracket_15 : decode b_MD_bracket 15 = .ok (.iload_n 2, 1) := by decide +kernel
theorem d_MD_bracket_16 : decode b_MD_bracket 16 = .ok (.if_icmp .eq 23, 3) := by decide +kernel
theorem d_MD_bracket_19 : decode b_MD_bracket 19 = .ok (.aload_n 0, 1) := by decide +kernel
theorem d_MD_bracket_20 : decode b_MD_bracket 20 = .ok (.iload_n 1, 1) := by decide +kernel
theorem d_MD_bracket_21 : decode b_MD_bracket 21 = .ok (.invokevirtual 106, 3) := by decide +kernel
theorem d_MD_bracket_24 : decode b_MD_bracket 24 = .ok (.ifCond .ne 15, 3) := by decide +kernel
theorem d_MD_bracket_27 : decode b_MD_bracket 27 = .ok (.aload_n 0, 1) := by decide +kernel
theorem d_MD_bracket_28 : decode b_MD_bracket 28 = .ok (.iload_n 2, 1) := by decide +kernel
theorem d_MD_bracket_29 : decode b_MD_bracket 29 = .ok (.invokevirtual 106, 3) := by decide +kernel
theorem d_MD_bracket_32 : decode b_MD_bracket 32 = .ok (.ifCond .ne 7, 3) := by decide +kernel
theorem d_MD_bracket_35 : decode b_MD_bracket 35 = .ok (.iconst 1, 1) := by decide +kernel
theorem d_MD_bracket_36 : decode b_MD_bracket 36 = .ok (.goto 4, 3) := by decide +kernel
theorem d_MD_bracket_39 : decode b_MD_bracket 39 = .ok (.iconst 0, 1) := by decide +kernel
theorem d_MD_bracket_40 : decode b_MD_bracket 40 = .ok (.istore_n 3, 1) := by decide +kernel
theorem d_MD_bracket_41 : decode b_MD_bracket 41 = .ok (.aload_n 0, 1) := by decide +kernel
theorem d_MD_bracket_42 : decode b_MD_bracket 42 = .ok (.iload_n 3, 1) := by decide +kernel
theorem d_MD_bracket_43 : decode b_MD_bracket 43 = .ok (.ifCond .ne 7, 3) := by decide +kernel
theorem d_MD_bracket_46 : decode b_MD_bracket 46 = .ok (.iconst 1, 1) := by decide +kernel
theorem d_MD_bracket_47 : decode b_MD_bracket 47 = .ok (.goto 17, 3) := by decide +kernel
theorem d_MD_bracket_50 : decode b_MD_bracket 50 = .ok (.aload_n 0, 1) := by decide +kernel
theorem d_MD_bracket_51 : decode b_MD_bracket 51 = .ok (.getfield 103, 3) := by decide +kernel
theorem d_MD_bracket_54 : decode b_MD_bracket 54 = .ok (.bipush 40, 2) := by decide +kernel
theorem d_MD_bracket_56 : decode b_MD_bracket 56 = .ok (.if_icmp .ne 7, 3) := by decide +kernel
theorem d_MD_bracket_59 : decode b_MD_bracket 59 = .ok (.iconst 2, 1) := by decide +kernel
theorem d_MD_bracket_60 : decode b_MD_bracket 60 = .ok (.goto 4, 3) := by decide +kernel
theorem d_MD_bracket_63 : decode b_MD_bracket 63 = .ok (.iconst 0, 1) := by decide +kernel
theorem d_MD_bracket_64 : decode b_MD_bracket 64 = .ok (.invokevirtual 89, 3) := by decide +kernel
theorem d_MD_bracket_67 : decode b_MD_bracket 67 = .ok (.ifCond .ne 38, 3) := by decide +kernel
theorem d_MD_bracket_70 : decode b_MD_bracket 70 = .ok (.aload_n 0, 1) := by decide +kernel
theorem d_MD_bracket_71 : decode b_MD_bracket 71 = .ok (.getfield 22, 3) := by decide +kernel
theorem d_MD_bracket_74 : decode b_MD_bracket 74 = .ok (.aload_n 0, 1) := by decide +kernel
theorem d_MD_bracket_75 : decode b_MD_bracket 75 = .ok (.getfield 103, 3) := by decide +kernel
theorem d_MD_bracket_78 : decode b_MD_bracket 78 = .ok (.iload_n 1, 1) := by decide +kernel
theorem d_MD_bracket_79 : decode b_MD_bracket 79 = .ok (.iastore, 1) := by decide +kernel
theorem d_MD_bracket_80 : decode b_MD_bracket 80 = .ok (.aload_n 0, 1) := by decide +kernel
theorem d_MD_bracket_81 : decode b_MD_bracket 81 = .ok (.getfield 25, 3) := by decide +kernel
theorem d_MD_bracket_84 : decode b_MD_bracket 84 = .ok (.aload_n 0, 1) := by decide +kernel
theorem d_MD_bracket_85 : decode b_MD_bracket 85 = .ok (.getfield 103, 3) := by decide +kernel
theorem d_MD_bracket_88 : decode b_MD_bracket 88 = .ok (.iload_n 2, 1) := by decide +kernel
theorem d_MD_bracket_89 : decode b_MD_bracket 89 = .ok (.iastore, 1) := by decide +kernel
theorem d_MD_bracket_90 : decode b_MD_bracket 90 = .ok (.aload_n 0, 1) := by decide +kernel
theorem d_MD_bracket_91 : decode b_MD_bracket 91 = .ok (.dup, 1) := by decide +kernel
theorem d_MD_bracket_92 : decode b_MD_bracket 92 = .ok (.getfield 103, 3) := by decide +kernel
theorem d_MD_bracket_95 : decode b_MD_bracket 95 = .ok (.iconst 1, 1) := by decide +kernel
theorem d_MD_bracket_96 : decode b_MD_bracket 96 = .ok (.iadd, 1) := by decide +kernel
theorem d_MD_bracket_97 : decode b_MD_bracket 97 = .ok (.putfield 103, 3) := by decide +kernel
theorem d_MD_bracket_100 : decode b_MD_bracket 100 = .ok (.aload_n 0, 1) := by decide +kernel
theorem d_MD_bracket_101 : decode b_MD_bracket 101 = .ok (.iconst 0, 1) := by decide +kernel
theorem d_MD_bracket_102 : decode b_MD_bracket 102 = .ok (.putfield 92, 3) := by decide +kernel
theorem d_MD_bracket_105 : decode b_MD_bracket 105 = .ok (.return_, 1) := by decide +kernel
theorem d_MD_mirrorOf_0 : decode b_MD_mirrorOf 0 = .ok (.iconst (-1), 1) := by decide +kernel
theorem d_MD_mirrorOf_1 : decode b_MD_mirrorOf 1 = .ok (.istore_n 2, 1) := by decide +kernel
theorem d_MD_mirrorOf_2 : decode b_MD_mirrorOf 2 = .ok (.iconst 0, 1) := by decide +kernel
theorem d_MD_mirrorOf_3 : decode b_MD_mirrorOf 3 = .ok (.istore_n 3, 1) := by decide +kernel
theorem d_MD_mirrorOf_4 : decode b_MD_mirrorOf 4 = .ok (.iload_n 3, 1) := by decide +kernel
theorem d_MD_mirrorOf_5 : decode b_MD_mirrorOf 5 = .ok (.aload_n 0, 1) := by decide +kernel
theorem d_MD_mirrorOf_6 : decode b_MD_mirrorOf 6 = .ok (.getfield 109, 3) := by decide +kernel
theorem d_MD_mirrorOf_9 : decode b_MD_mirrorOf 9 = .ok (.if_icmp .ge 49, 3) := by decide +kernel
theorem d_MD_mirrorOf_12 : decode b_MD_mirrorOf 12 = .ok (.aload_n 0, 1) := by decide +kernel
theorem d_MD_mirrorOf_13 : decode b_MD_mirrorOf 13 = .ok (.getfield 28, 3) := by decide +kernel
theorem d_MD_mirrorOf_16 : decode b_MD_mirrorOf 16 = .ok (.iload_n 3, 1) := by decide +kernel
theorem d_MD_mirrorOf_17 : decode b_MD_mirrorOf 17 = .ok (.iaload, 1) := by decide +kernel
theorem d_MD_mirrorOf_18 : decode b_MD_mirrorOf 18 = .ok (.iload_n 1, 1) := by decide +kernel
theorem d_MD_mirrorOf_19 : decode b_MD_mirrorOf 19 = .ok (.if_icmp .ne 12, 3) := by decide +kernel
theorem d_MD_mirrorOf_22 : decode b_MD_mirrorOf 22 = .ok (.aload_n 0, 1) := by decide +kernel
theorem d_MD_mirrorOf_23 : decode b_MD_mirrorOf 23 = .ok (.getfield 31, 3) := by decide +kernel
theorem d_MD_mirrorOf_26 : decode b_MD_mirrorOf 26 = .ok (.iload_n 3, 1) := by decide +kernel
theorem d_MD_mirrorOf_27 : decode b_MD_mirrorOf 27 = .ok (.iaload, 1) := by decide +kernel
theorem d_MD_mirrorOf_28 : decode b_MD_mirrorOf 28 = .ok (.goto 23, 3) := by decide +kernel
theorem d_MD_mirrorOf_31 : decode b_MD_mirrorOf 31 = .ok (.aload_n 0, 1) := by decide +kernel
theorem d_MD_mirrorOf_32 : decode b_MD_mirrorOf 32 = .ok (.getfield 31, 3) := by decide +kernel
theorem d_MD_mirrorOf_35 : decode b_MD_mirrorOf 35 = .ok (.iload_n 3, 1) := by decide +kernel
theorem d_MD_mirrorOf_36 : decode b_MD_mirrorOf 36 = .ok (.iaload, 1) := by decide +kernel
theorem d_MD_mirrorOf_37 : decode b_MD_mirrorOf 37 = .ok (.iload_n 1, 1) := by decide +kernel
theorem d_MD_mirrorOf_38 : decode b_MD_mirrorOf 38 = .ok (.if_icmp .ne 12, 3) := by decide +kernel
theorem d_MD_mirrorOf_41 : decode b_MD_mirrorOf 41 = .ok (.aload_n 0, 1) := by decide +kernel
theorem d_MD_mirrorOf_42 : decode b_MD_mirrorOf 42 = .ok (.getfield 28, 3) := by decide +kernel
theorem d_MD_mirrorOf_45 : decode b_MD_mirrorOf 45 = .ok (.iload_n 3, 1) := by decide +kernel
theorem d_MD_mirrorOf_46 : decode b_MD_mirrorOf 46 = .ok (.iaload, 1) := by decide +kernel
theorem d_MD_mirrorOf_47 : decode b_MD_mirrorOf 47 = .ok (.goto 4, 3) := by decide +kernel
theorem d_MD_mirrorOf_50 : decode b_MD_mirrorOf 50 = .ok (.iload_n 2, 1) := by decide +kernel
theorem d_MD_mirrorOf_51 : decode b_MD_mirrorOf 51 = .ok (.istore_n 2, 1) := by decide +kernel
theorem d_MD_mirrorOf_52 : decode b_MD_mirrorOf 52 = .ok (.iinc 3 1, 3) := by decide +kernel
theorem d_MD_mirrorOf_55 : decode b_MD_mirrorOf 55 = .ok (.goto (-51), 3) := by decide +kernel
theorem d_MD_mirrorOf_58 : decode b_MD_mirrorOf 58 = .ok (.iload_n 2, 1) := by decide +kernel
theorem d_MD_mirrorOf_59 : decode b_MD_mirrorOf 59 = .ok (.ireturn, 1) := by decide +kernel
theorem d_MD_mirror_0 : decode b_MD_mirror 0 = .ok (.iload_n 1, 1) := by decide +kernel
theorem d_MD_mirror_1 : decode b_MD_mirror 1 = .ok (.invokestatic 82, 3) := by decide +kernel
theorem d_MD_mirror_4 : decode b_MD_mirror 4 = .ok (.ifCond .eq 35, 3) := by decide +kernel
theorem d_MD_mirror_7 : decode b_MD_mirror 7 = .ok (.iload_n 2, 1) := by decide +kernel
theorem d_MD_mirror_8 : decode b_MD_mirror 8 = .ok (.invokestatic 82, 3) := by decide +kernel
theorem d_MD_mirror_11 : decode b_MD_mirror 11 = .ok (.ifCond .eq 28, 3) := by decide +kernel
theorem d_MD_mirror_14 : decode b_MD_mirror 14 = .ok (.iload_n 1, 1) := by decide +kernel
theorem d_MD_mirror_15 : decode b_MD_mirror 15 = .ok (.iload_n 2, 1) := by decide +kernel
theorem d_MD_mirror_16 : decode b_MD_mirror 16 = .ok (.if_icmp .eq 23, 3) := by decide +kernel
theorem d_MD_mirror_19 : decode b_MD_mirror 19 = .ok (.aload_n 0, 1) := by decide +kernel
theorem d_MD_mirror_20 : decode b_MD_mirror 20 = .ok (.iload_n 1, 1) := by decide +kernel
theorem d_MD_mirror_21 : decode b_MD_mirror 21 = .ok (.invokevirtual 112, 3) := by decide +kernel
theorem d_MD_mirror_24 : decode b_MD_mirror 24 = .ok (.ifCond .ge 15, 3) := by decide +kernel
theorem d_MD_mirror_27 : decode b_MD_mirror 27 = .ok (.aload_n 0, 1) := by decide +kernel
theorem d_MD_mirror_28 : decode b_MD_mirror 28 = .ok (.iload_n 2, 1) := by decide +kernel
theorem d_MD_mirror_29 : decode b_MD_mirror 29 = .ok (.invokevirtual 112, 3) := by decide +kernel
theorem d_MD_mirror_32 : decode b_MD_mirror 32 = .ok (.ifCond .ge 7, 3) := by decide +kernel
theorem d_MD_mirror_35 : decode b_MD_mirror 35 = .ok (.iconst 1, 1) := by decide +kernel
theorem d_MD_mirror_36 : decode b_MD_mirror 36 = .ok (.goto 4, 3) := by decide +kernel
theorem d_MD_mirror_39 : decode b_MD_mirror 39 = .ok (.iconst 0, 1) := by decide +kernel
theorem d_MD_mirror_40 : decode b_MD_mirror 40 = .ok (.istore_n 3, 1) := by decide +kernel
theorem d_MD_mirror_41 : decode b_MD_mirror 41 = .ok (.aload_n 0, 1) := by decide +kernel
theorem d_MD_mirror_42 : decode b_MD_mirror 42 = .ok (.iload_n 3, 1) := by decide +kernel
theorem d_MD_mirror_43 : decode b_MD_mirror 43 = .ok (.ifCond .ne 7, 3) := by decide +kernel
theorem d_MD_mirror_46 : decode b_MD_mirror 46 = .ok (.iconst 1, 1) := by decide +kernel
theorem d_MD_mirror_47 : decode b_MD_mirror 47 = .ok (.goto 17, 3) := by decide +kernel
theorem d_MD_mirror_50 : decode b_MD_mirror 50 = .ok (.aload_n 0, 1) := by decide +kernel
theorem d_MD_mirror_51 : decode b_MD_mirror 51 = .ok (.getfield 109, 3) := by decide +kernel
theorem d_MD_mirror_54 : decode b_MD_mirror 54 = .ok (.bipush 40, 2) := by decide +kernel
theorem d_MD_mirror_56 : decode b_MD_mirror 56 = .ok (.if_icmp .ne 7, 3) := by decide +kernel
theorem d_MD_mirror_59 : decode b_MD_mirror 59 = .ok (.iconst 2, 1) := by decide +kernel
theorem d_MD_mirror_60 : decode b_MD_mirror 60 = .ok (.goto 4, 3) := by decide +kernel
theorem d_MD_mirror_63 : decode b_MD_mirror 63 = .ok (.iconst 0, 1) := by decide +kernel
theorem d_MD_mirror_64 : decode b_MD_mirror 64 = .ok (.invokevirtual 89, 3) := by decide +kernel
theorem d_MD_mirror_67 : decode b_MD_mirror 67 = .ok (.ifCond .ne 38, 3) := by decide +kernel
theorem d_MD_mirror_70 : decode b_MD_mirror 70 = .ok (.aload_n 0, 1) := by decide +kernel
theorem d_MD_mirror_71 : decode b_MD_mirror 71 = .ok (.getfield 28, 3) := by decide +kernel
theorem d_MD_mirror_74 : decode b_MD_mirror 74 = .ok (.aload_n 0, 1) := by decide +kernel
theorem d_MD_mirror_75 : decode b_MD_mirror 75 = .ok (.getfield 109, 3) := by decide +kernel
theorem d_MD_mirror_78 : decode b_MD_mirror 78 = .ok (.iload_n 1, 1) := by decide +kernel
theorem d_MD_mirror_79 : decode b_MD_mirror 79 = .ok (.iastore, 1) := by decide +kernel
theorem d_MD_mirror_80 : decode b_MD_mirror 80 = .ok (.aload_n 0, 1) := by decide +kernel
theorem d_MD_mirror_81 : decode b_MD_mirror 81 = .ok (.getfield 31, 3) := by decide +kernel
theorem d_MD_mirror_84 : decode b_MD_mirror 84 = .ok (.aload_n 0, 1) := by decide +kernel
theorem d_MD_mirror_85 : decode b_MD_mirror 85 = .ok (.getfield 109, 3) := by decide +kernel
theorem d_MD_mirror_88 : decode b_MD_mirror 88 = .ok (.iload_n 2, 1) := by decide +kernel
theorem d_MD_mirror_89 : decode b_MD_mirror 89 = .ok (.iastore, 1) := by decide +kernel
theorem d_MD_mirror_90 : decode b_MD_mirror 90 = .ok (.aload_n 0, 1) := by decide +kernel
theorem d_MD_mirror_91 : decode b_MD_mirror 91 = .ok (.dup, 1) := by decide +kernel
theorem d_MD_mirror_92 : decode b_MD_mirror 92 = .ok (.getfield 109, 3) := by decide +kernel
theorem d_MD_mirror_95 : decode b_MD_mirror 95 = .ok (.iconst 1, 1) := by decide +kernel
theorem d_MD_mirror_96 : decode b_MD_mirror 96 = .ok (.iadd, 1) := by decide +kernel
theorem d_MD_mirror_97 : decode b_MD_mirror 97 = .ok (.putfield 109, 3) := by decide +kernel
theorem d_MD_mirror_100 : decode b_MD_mirror 100 = .ok (.aload_n 0, 1) := by decide +kernel
theorem d_MD_mirror_101 : decode b_MD_mirror 101 = .ok (.iconst 0, 1) := by decide +kernel
theorem d_MD_mirror_102 : decode b_MD_mirror 102 = .ok (.putfield 92, 3) := by decide +kernel
theorem d_MD_mirror_105 : decode b_MD_mirror 105 = .ok (.return_, 1) := by decide +kernel
theorem d_MD_fifth_0 : decode b_MD_fifth 0 = .ok (.iload_n 0, 1) := by decide +kernel
theorem d_MD_fifth_1 : decode b_MD_fifth 1 = .ok (.ifCond .ne 7, 3) := by decide +kernel
theorem d_MD_fifth_4 : decode b_MD_fifth 4 = .ok (.iload_n 1, 1) := by decide +kernel
theorem d_MD_fifth_5 : decode b_MD_fifth 5 = .ok (.goto 33, 3) := by decide +kernel
theorem d_MD_fifth_8 : decode b_MD_fifth 8 = .ok (.iload_n 0, 1) := by decide +kernel
theorem d_MD_fifth_9 : decode b_MD_fifth 9 = .ok (.iconst 1, 1) := by decide +kernel
theorem d_MD_fifth_10 : decode b_MD_fifth 10 = .ok (.if_icmp .ne 7, 3) := by decide +kernel
theorem d_MD_fifth_13 : decode b_MD_fifth 13 = .ok (.iload_n 2, 1) := by decide +kernel
theorem d_MD_fifth_14 : decode b_MD_fifth 14 = .ok (.goto 24, 3) := by decide +kernel
theorem d_MD_fifth_17 : decode b_MD_fifth 17 = .ok (.iload_n 0, 1) := by decide +kernel
theorem d_MD_fifth_18 : decode b_MD_fifth 18 = .ok (.iconst 2, 1) := by decide +kernel
theorem d_MD_fifth_19 : decode b_MD_fifth 19 = .ok (.if_icmp .ne 7, 3) := by decide +kernel
theorem d_MD_fifth_22 : decode b_MD_fifth 22 = .ok (.iload_n 3, 1) := by decide +kernel
theorem d_MD_fifth_23 : decode b_MD_fifth 23 = .ok (.goto 15, 3) := by decide +kernel
theorem d_MD_fifth_26 : decode b_MD_fifth 26 = .ok (.iload_n 0, 1) := by decide +kernel
theorem d_MD_fifth_27 : decode b_MD_fifth 27 = .ok (.iconst 3, 1) := by decide +kernel
theorem d_MD_fifth_28 : decode b_MD_fifth 28 = .ok (.if_icmp .ne 8, 3) := by decide +kernel
theorem d_MD_fifth_31 : decode b_MD_fifth 31 = .ok (.iload 4, 2) := by decide +kernel
theorem d_MD_fifth_33 : decode b_MD_fifth 33 = .ok (.goto 5, 3) := by decide +kernel
theorem d_MD_fifth_36 : decode b_MD_fifth 36 = .ok (.iload 5, 2) := by decide +kernel
theorem d_MD_fifth_38 : decode b_MD_fifth 38 = .ok (.ireturn, 1) := by decide +kernel
theorem d_MD_add_0 : decode b_MD_add 0 = .ok (.iconst 0, 1) := by decide +kernel
theorem d_MD_add_1 : decode b_MD_add 1 = .ok (.istore 6, 2) := by decide +kernel
theorem d_MD_add_3 : decode b_MD_add 3 = .ok (.iload 6, 2) := by decide +kernel
theorem d_MD_add_5 : decode b_MD_add 5 = .ok (.iconst 5, 1) := by decide +kernel
theorem d_MD_add_6 : decode b_MD_add 6 = .ok (.if_icmp .ge 25, 3) := by decide +kernel
theorem d_MD_add_9 : decode b_MD_add 9 = .ok (.iload 6, 2) := by decide +kernel
theorem d_MD_add_11 : decode b_MD_add 11 = .ok (.iload_n 1, 1) := by decide +kernel
theorem d_MD_add_12 : decode b_MD_add 12 = .ok (.iload_n 2, 1) := by decide +kernel
theorem d_MD_add_13 : decode b_MD_add 13 = .ok (.iload_n 3, 1) := by decide +kernel
theorem d_MD_add_14 : decode b_MD_add 14 = .ok (.iload 4, 2) := by decide +kernel
theorem d_MD_add_16 : decode b_MD_add 16 = .ok (.iload 5, 2) := by decide +kernel
theorem d_MD_add_18 : decode b_MD_add 18 = .ok (.invokestatic 115, 3) := by decide +kernel
theorem d_MD_add_21 : decode b_MD_add 21 = .ok (.iconst (-1), 1) := by decide +kernel
theorem d_MD_add_22 : decode b_MD_add 22 = .ok (.if_icmp .eq 9, 3) := by decide +kernel
theorem d_MD_add_25 : decode b_MD_add 25 = .ok (.iinc 6 1, 3) := by decide +kernel
theorem d_MD_add_28 : decode b_MD_add 28 = .ok (.goto (-25), 3) := by decide +kernel
theorem d_MD_add_31 : decode b_MD_add 31 = .ok (.iconst 1, 1) := by decide +kernel
theorem d_MD_add_32 : decode b_MD_add 32 = .ok (.istore 7, 2) := by decide +kernel
theorem d_MD_add_34 : decode b_MD_add 34 = .ok (.iconst 0, 1) := by decide +kernel
theorem d_MD_add_35 : decode b_MD_add 35 = .ok (.istore 8, 2) := by decide +kernel
theorem d_MD_add_37 : decode b_MD_add 37 = .ok (.iload 8, 2) := by decide +kernel
theorem d_MD_add_39 : decode b_MD_add 39 = .ok (.iload 6, 2) := by decide +kernel
theorem d_MD_add_41 : decode b_MD_add 41 = .ok (.if_icmp .ge 39, 3) := by decide +kernel
theorem d_MD_add_44 : decode b_MD_add 44 = .ok (.iload 7, 2) := by decide +kernel
theorem d_MD_add_46 : decode b_MD_add 46 = .ok (.ifCond .eq 25, 3) := by decide +kernel
theorem d_MD_add_49 : decode b_MD_add 49 = .ok (.iload 8, 2) := by decide +kernel
theorem d_MD_add_51 : decode b_MD_add 51 = .ok (.iload_n 1, 1) := by decide +kernel
theorem d_MD_add_52 : decode b_MD_add 52 = .ok (.iload_n 2, 1) := by decide +kernel
theorem d_MD_add_53 : decode b_MD_add 53 = .ok (.iload_n 3, 1) := by decide +kernel
theorem d_MD_add_54 : decode b_MD_add 54 = .ok (.iload 4, 2) := by decide +kernel
theorem d_MD_add_56 : decode b_MD_add 56 = .ok (.iload 5, 2) := by decide +kernel
theorem d_MD_add_58 : decode b_MD_add 58 = .ok (.invokestatic 115, 3) := by decide +kernel
theorem d_MD_add_61 : decode b_MD_add 61 = .ok (.invokestatic 82, 3) := by decide +kernel
theorem d_MD_add_64 : decode b_MD_add 64 = .ok (.ifCond .eq 7, 3) := by decide +kernel
theorem d_MD_add_67 : decode b_MD_add 67 = .ok (.iconst 1, 1) := by decide +kernel
theorem d_MD_add_68 : decode b_MD_add 68 = .ok (.goto 4, 3) := by decide +kernel
theorem d_MD_add_71 : decode b_MD_add 71 = .ok (.iconst 0, 1) := by decide +kernel
theorem d_MD_add_72 : decode b_MD_add 72 = .ok (.istore 7, 2) := by decide +kernel
theorem d_MD_add_74 : decode b_MD_add 74 = .ok (.iinc 8 1, 3) := by decide +kernel
theorem d_MD_add_77 : decode b_MD_add 77 = .ok (.goto (-40), 3) := by decide +kernel
theorem d_MD_add_80 : decode b_MD_add 80 = .ok (.aload_n 0, 1) := by decide +kernel
theorem d_MD_add_81 : decode b_MD_add 81 = .ok (.iload 7, 2) := by decide +kernel
theorem d_MD_add_83 : decode b_MD_add 83 = .ok (.ifCond .ne 7, 3) := by decide +kernel
theorem d_MD_add_86 : decode b_MD_add 86 = .ok (.iconst 1, 1) := by decide +kernel
theorem d_MD_add_87 : decode b_MD_add 87 = .ok (.goto 21, 3) := by decide +kernel
theorem d_MD_add_90 : decode b_MD_add 90 = .ok (.aload_n 0, 1) := by decide +kernel
theorem d_MD_add_91 : decode b_MD_add 91 = .ok (.getfield 119, 3) := by decide +kernel
theorem d_MD_add_94 : decode b_MD_add 94 = .ok (.iload 6, 2) := by decide +kernel
theorem d_MD_add_96 : decode b_MD_add 96 = .ok (.iadd, 1) := by decide +kernel
theorem d_MD_add_97 : decode b_MD_add 97 = .ok (.sipush 2000, 3) := by decide +kernel
theorem d_MD_add_100 : decode b_MD_add 100 = .ok (.if_icmp .le 7, 3) := by decide +kernel
theorem d_MD_add_103 : decode b_MD_add 103 = .ok (.iconst 2, 1) := by decide +kernel
theorem d_MD_add_104 : decode b_MD_add 104 = .ok (.goto 4, 3) := by decide +kernel
theorem d_MD_add_107 : decode b_MD_add 107 = .ok (.iconst 0, 1) := by decide +kernel
theorem d_MD_add_108 : decode b_MD_add 108 = .ok (.invokevirtual 89, 3) := by decide +kernel
theorem d_MD_add_111 : decode b_MD_add 111 = .ok (.ifCond .eq 5, 3) := by decide +kernel
theorem d_MD_add_114 : decode b_MD_add 114 = .ok (.iconst 0, 1) := by decide +kernel
theorem d_MD_add_115 : decode b_MD_add 115 = .ok (.ireturn, 1) := by decide +kernel
theorem d_MD_add_116 : decode b_MD_add 116 = .ok (.iconst 0, 1) := by decide +kernel
theorem d_MD_add_117 : decode b_MD_add 117 = .ok (.istore 8, 2) := by decide +kernel
theorem d_MD_add_119 : decode b_MD_add 119 = .ok (.iload 8, 2) := by decide +kernel
theorem d_MD_add_121 : decode b_MD_add 121 = .ok (.iload 6, 2) := by decide +kernel
theorem d_MD_add_123 : decode b_MD_add 123 = .ok (.if_icmp .ge 40, 3) := by decide +kernel
theorem d_MD_add_126 : decode b_MD_add 126 = .ok (.aload_n 0, 1) := by decide +kernel
theorem d_MD_add_127 : decode b_MD_add 127 = .ok (.getfield 7, 3) := by decide +kernel
theorem d_MD_add_130 : decode b_MD_add 130 = .ok (.aload_n 0, 1) := by decide +kernel
theorem d_MD_add_131 : decode b_MD_add 131 = .ok (.getfield 119, 3) := by decide +kernel
theorem d_MD_add_134 : decode b_MD_add 134 = .ok (.iload 8, 2) := by decide +kernel
theorem d_MD_add_136 : decode b_MD_add 136 = .ok (.iload_n 1, 1) := by decide +kernel
theorem d_MD_add_137 : decode b_MD_add 137 = .ok (.iload_n 2, 1) := by decide +kernel
theorem d_MD_add_138 : decode b_MD_add 138 = .ok (.iload_n 3, 1) := by decide +kernel
theorem d_MD_add_139 : decode b_MD_add 139 = .ok (.iload 4, 2) := by decide +kernel
theorem d_MD_add_141 : decode b_MD_add 141 = .ok (.iload 5, 2) := by decide +kernel
theorem d_MD_add_143 : decode b_MD_add 143 = .ok (.invokestatic 115, 3) := by decide +kernel
theorem d_MD_add_146 : decode b_MD_add 146 = .ok (.iastore, 1) := by decide +kernel
theorem d_MD_add_147 : decode b_MD_add 147 = .ok (.aload_n 0, 1) := by decide +kernel
theorem d_MD_add_148 : decode b_MD_add 148 = .ok (.dup, 1) := by decide +kernel
theorem d_MD_add_149 : decode b_MD_add 149 = .ok (.getfield 119, 3) := by decide +kernel
theorem d_MD_add_152 : decode b_MD_add 152 = .ok (.iconst 1, 1) := by decide +kernel
theorem d_MD_add_153 : decode b_MD_add 153 = .ok (.iadd, 1) := by decide +kernel
theorem d_MD_add_154 : decode b_MD_add 154 = .ok (.putfield 119, 3) := by decide +kernel
theorem d_MD_add_157 : decode b_MD_add 157 = .ok (.iinc 8 1, 3) := by decide +kernel
theorem d_MD_add_160 : decode b_MD_add 160 = .ok (.goto (-41), 3) := by decide +kernel
theorem d_MD_add_163 : decode b_MD_add 163 = .ok (.aload_n 0, 1) := by decide +kernel
theorem d_MD_add_164 : decode b_MD_add 164 = .ok (.iconst 0, 1) := by decide +kernel
theorem d_MD_add_165 : decode b_MD_add 165 = .ok (.putfield 92, 3) := by decide +kernel
theorem d_MD_add_168 : decode b_MD_add 168 = .ok (.aload_n 0, 1) := by decide +kernel
theorem d_MD_add_169 : decode b_MD_add 169 = .ok (.getfield 119, 3) := by decide +kernel
theorem d_MD_add_172 : decode b_MD_add 172 = .ok (.ireturn, 1) := by decide +kernel
theorem d_MD_clear_0 : decode b_MD_clear 0 = .ok (.aload_n 0, 1) := by decide +kernel
theorem d_MD_clear_1 : decode b_MD_clear 1 = .ok (.iconst 0, 1) := by decide +kernel
theorem d_MD_clear_2 : decode b_MD_clear 2 = .ok (.putfield 77, 3) := by decide +kernel
theorem d_MD_clear_5 : decode b_MD_clear 5 = .ok (.aload_n 0, 1) := by decide +kernel
theorem d_MD_clear_6 : decode b_MD_clear 6 = .ok (.getfield 119, 3) := by decide +kernel
theorem d_MD_clear_9 : decode b_MD_clear 9 = .ok (.istore_n 1, 1) := by decide +kernel
theorem d_MD_clear_10 : decode b_MD_clear 10 = .ok (.aload_n 0, 1) := by decide +kernel
theorem d_MD_clear_11 : decode b_MD_clear 11 = .ok (.iconst 0, 1) := by decide +kernel
theorem d_MD_clear_12 : decode b_MD_clear 12 = .ok (.putfield 119, 3) := by decide +kernel
theorem d_MD_clear_15 : decode b_MD_clear 15 = .ok (.aload_n 0, 1) := by decide +kernel
theorem d_MD_clear_16 : decode b_MD_clear 16 = .ok (.iconst 0, 1) := by decide +kernel
theorem d_MD_clear_17 : decode b_MD_clear 17 = .ok (.putfield 92, 3) := by decide +kernel
theorem d_MD_clear_20 : decode b_MD_clear 20 = .ok (.iload_n 1, 1) := by decide +kernel
theorem d_MD_clear_21 : decode b_MD_clear 21 = .ok (.ireturn, 1) := by decide +kernel
theorem d_MD_classOf_0 : decode b_MD_classOf 0 = .ok (.iconst 0, 1) := by decide +kernel
theorem d_MD_classOf_1 : decode b_MD_classOf 1 = .ok (.istore_n 2, 1) := by decide +kernel
theorem d_MD_classOf_2 : decode b_MD_classOf 2 = .ok (.iconst 0, 1) := by decide +kernel
theorem d_MD_classOf_3 : decode b_MD_classOf 3 = .ok (.istore_n 3, 1) := by decide +kernel
theorem d_MD_classOf_4 : decode b_MD_classOf 4 = .ok (.iload_n 3, 1) := by decide +kernel
theorem d_MD_classOf_5 : decode b_MD_classOf 5 = .ok (.aload_n 0, 1) := by decide +kernel
theorem d_MD_classOf_6 : decode b_MD_classOf 6 = .ok (.getfield 86, 3) := by decide +kernel
theorem d_MD_classOf_9 : decode b_MD_classOf 9 = .ok (.if_icmp .ge 40, 3) := by decide +kernel
theorem d_MD_classOf_12 : decode b_MD_classOf 12 = .ok (.iload_n 1, 1) := by decide +kernel
theorem d_MD_classOf_13 : decode b_MD_classOf 13 = .ok (.aload_n 0, 1) := by decide +kernel
theorem d_MD_classOf_14 : decode b_MD_classOf 14 = .ok (.getfield 13, 3) := by decide +kernel
theorem d_MD_classOf_17 : decode b_MD_classOf 17 = .ok (.iload_n 3, 1) := by decide +kernel
theorem d_MD_classOf_18 : decode b_MD_classOf 18 = .ok (.iaload, 1) := by decide +kernel
theorem d_MD_classOf_19 : decode b_MD_classOf 19 = .ok (.if_icmp .lt 22, 3) := by decide +kernel
theorem d_MD_classOf_22 : decode b_MD_classOf 22 = .ok (.iload_n 1, 1) := by decide +kernel
theorem d_MD_classOf_23 : decode b_MD_classOf 23 = .ok (.aload_n 0, 1) := by decide +kernel
theorem d_MD_classOf_24 : decode b_MD_classOf 24 = .ok (.getfield 16, 3) := by decide +kernel
theorem d_MD_classOf_27 : decode b_MD_classOf 27 = .ok (.iload_n 3, 1) := by decide +kernel
theorem d_MD_classOf_28 : decode b_MD_classOf 28 = .ok (.iaload, 1) := by decide +kernel
theorem d_MD_classOf_29 : decode b_MD_classOf 29 = .ok (.if_icmp .gt 12, 3) := by decide +kernel
theorem d_MD_classOf_32 : decode b_MD_classOf 32 = .ok (.aload_n 0, 1) := by decide +kernel
theorem d_MD_classOf_33 : decode b_MD_classOf 33 = .ok (.getfield 19, 3) := by decide +kernel
theorem d_MD_classOf_36 : decode b_MD_classOf 36 = .ok (.iload_n 3, 1) := by decide +kernel
theorem d_MD_classOf_37 : decode b_MD_classOf 37 = .ok (.iaload, 1) := by decide +kernel
theorem d_MD_classOf_38 : decode b_MD_classOf 38 = .ok (.goto 4, 3) := by decide +kernel
theorem d_MD_classOf_41 : decode b_MD_classOf 41 = .ok (.iload_n 2, 1) := by decide +kernel
theorem d_MD_classOf_42 : decode b_MD_classOf 42 = .ok (.istore_n 2, 1) := by decide +kernel
theorem d_MD_classOf_43 : decode b_MD_classOf 43 = .ok (.iinc 3 1, 3) := by decide +kernel
theorem d_MD_classOf_46 : decode b_MD_classOf 46 = .ok (.goto (-42), 3) := by decide +kernel
theorem d_MD_classOf_49 : decode b_MD_classOf 49 = .ok (.iload_n 2, 1) := by decide +kernel
theorem d_MD_classOf_50 : decode b_MD_classOf 50 = .ok (.ireturn, 1) := by decide +kernel
theorem d_MD_isIsolate_0 : decode b_MD_isIsolate 0 = .ok (.iload_n 0, 1) := by decide +kernel
theorem d_MD_isIsolate_1 : decode b_MD_isIsolate 1 = .ok (.bipush 19, 2) := by decide +kernel
theorem d_MD_isIsolate_3 : decode b_MD_isIsolate 3 = .ok (.if_icmp .lt 13, 3) := by decide +kernel
theorem d_MD_isIsolate_6 : decode b_MD_isIsolate 6 = .ok (.iload_n 0, 1) := by decide +kernel
theorem d_MD_isIsolate_7 : decode b_MD_isIsolate 7 = .ok (.bipush 21, 2) := by decide +kernel
theorem d_MD_isIsolate_9 : decode b_MD_isIsolate 9 = .ok (.if_icmp .gt 7, 3) := by decide +kernel
theorem d_MD_isIsolate_12 : decode b_MD_isIsolate 12 = .ok (.iconst 1, 1) := by decide +kernel
theorem d_MD_isIsolate_13 : decode b_MD_isIsolate 13 = .ok (.goto 4, 3) := by decide +kernel
theorem d_MD_isIsolate_16 : decode b_MD_isIsolate 16 = .ok (.iconst 0, 1) := by decide +kernel
theorem d_MD_isIsolate_17 : decode b_MD_isIsolate 17 = .ok (.ireturn, 1) := by decide +kernel
theorem d_MD_matchOf_0 : decode b_MD_matchOf 0 = .ok (.iconst 1, 1) := by decide +kernel
theorem d_MD_matchOf_1 : decode b_MD_matchOf 1 = .ok (.istore_n 3, 1) := by decide +kernel
theorem d_MD_matchOf_2 : decode b_MD_matchOf 2 = .ok (.iload_n 1, 1) := by decide +kernel
theorem d_MD_matchOf_3 : decode b_MD_matchOf 3 = .ok (.iconst 1, 1) := by decide +kernel
theorem d_MD_matchOf_4 : decode b_MD_matchOf 4 = .ok (.iadd, 1) := by decide +kernel
theorem d_MD_matchOf_5 : decode b_MD_matchOf 5 = .ok (.istore 4, 2) := by decide +kernel
theorem d_MD_matchOf_7 : decode b_MD_matchOf 7 = .ok (.iload 4, 2) := by decide +kernel
theorem d_MD_matchOf_9 : decode b_MD_matchOf 9 = .ok (.iload_n 2, 1) := by decide +kernel
theorem d_MD_matchOf_10 : decode b_MD_matchOf 10 = .ok (.if_icmp .ge 55, 3) := by decide +kernel
theorem d_MD_matchOf_13 : decode b_MD_matchOf 13 = .ok (.aload_n 0, 1) := by decide +kernel
theorem d_MD_matchOf_14 : decode b_MD_matchOf 14 = .ok (.getfield 34, 3) := by decide +kernel
theorem d_MD_matchOf_17 : decode b_MD_matchOf 17 = .ok (.iload 4, 2) := by decide +kernel
theorem d_MD_matchOf_19 : decode b_MD_matchOf 19 = .ok (.iaload, 1) := by decide +kernel
theorem d_MD_matchOf_20 : decode b_MD_matchOf 20 = .ok (.invokestatic 122, 3) := by decide +kernel
theorem d_MD_matchOf_23 : decode b_MD_matchOf 23 = .ok (.ifCond .eq 9, 3) := by decide +kernel
theorem d_MD_matchOf_26 : decode b_MD_matchOf 26 = .ok (.iload_n 3, 1) := by decide +kernel
theorem d_MD_matchOf_27 : decode b_MD_matchOf 27 = .ok (.iconst 1, 1) := by decide +kernel
theorem d_MD_matchOf_28 : decode b_MD_matchOf 28 = .ok (.iadd, 1) := by decide +kernel
theorem d_MD_matchOf_29 : decode b_MD_matchOf 29 = .ok (.goto 22, 3) := by decide +kernel
theorem d_MD_matchOf_32 : decode b_MD_matchOf 32 = .ok (.aload_n 0, 1) := by decide +kernel
theorem d_MD_matchOf_33 : decode b_MD_matchOf 33 = .ok (.getfield 34, 3) := by decide +kernel
theorem d_MD_matchOf_36 : decode b_MD_matchOf 36 = .ok (.iload 4, 2) := by decide +kernel
theorem d_MD_matchOf_38 : decode b_MD_matchOf 38 = .ok (.iaload, 1) := by decide +kernel
theorem d_MD_matchOf_39 : decode b_MD_matchOf 39 = .ok (.bipush 22, 2) := by decide +kernel
theorem d_MD_matchOf_41 : decode b_MD_matchOf 41 = .ok (.if_icmp .ne 9, 3) := by decide +kernel
theorem d_MD_matchOf_44 : decode b_MD_matchOf 44 = .ok (.iload_n 3, 1) := by decide +kernel
theorem d_MD_matchOf_45 : decode b_MD_matchOf 45 = .ok (.iconst 1, 1) := by decide +kernel
theorem d_MD_matchOf_46 : decode b_MD_matchOf 46 = .ok (.isub, 1) := by decide +kernel
theorem d_MD_matchOf_47 : decode b_MD_matchOf 47 = .ok (.goto 4, 3) := by decide +kernel
theorem d_MD_matchOf_50 : decode b_MD_matchOf 50 = .ok (.iload_n 3, 1) := by decide +kernel
theorem d_MD_matchOf_51 : decode b_MD_matchOf 51 = .ok (.istore_n 3, 1) := by decide +kernel
theorem d_MD_matchOf_52 : decode b_MD_matchOf 52 = .ok (.iload_n 3, 1) := by decide +kernel
theorem d_MD_matchOf_53 : decode b_MD_matchOf 53 = .ok (.ifCond .ne 6, 3) := by decide +kernel
theorem d_MD_matchOf_56 : decode b_MD_matchOf 56 = .ok (.iload 4, 2) := by decide +kernel
theorem d_MD_matchOf_58 : decode b_MD_matchOf 58 = .ok (.ireturn, 1) := by decide +kernel
theorem d_MD_matchOf_59 : decode b_MD_matchOf 59 = .ok (.iinc 4 1, 3) := by decide +kernel
theorem d_MD_matchOf_62 : decode b_MD_matchOf 62 = .ok (.goto (-55), 3) := by decide +kernel
theorem d_MD_matchOf_65 : decode b_MD_matchOf 65 = .ok (.iconst (-1), 1) := by decide +kernel
theorem d_MD_matchOf_66 : decode b_MD_matchOf 66 = .ok (.ireturn, 1) := by decide +kernel
theorem d_MD_isRight_0 : decode b_MD_isRight 0 = .ok (.iload_n 1, 1) := by decide +kernel
theorem d_MD_isRight_1 : decode b_MD_isRight 1 = .ok (.istore_n 3, 1) := by decide +kernel
theorem d_MD_isRight_2 : decode b_MD_isRight 2 = .ok (.iload_n 3, 1) := by decide +kernel
theorem d_MD_isRight_3 : decode b_MD_isRight 3 = .ok (.iload_n 2, 1) := by decide +kernel
theorem d_MD_isRight_4 : decode b_MD_isRight 4 = .ok (.if_icmp .ge 76, 3) := by decide +kernel
theorem d_MD_isRight_7 : decode b_MD_isRight 7 = .ok (.aload_n 0, 1) := by decide +kernel
theorem d_MD_isRight_8 : decode b_MD_isRight 8 = .ok (.getfield 34, 3) := by decide +kernel
theorem d_MD_isRight_11 : decode b_MD_isRight 11 = .ok (.iload_n 3, 1) := by decide +kernel
theorem d_MD_isRight_12 : decode b_MD_isRight 12 = .ok (.iaload, 1) := by decide +kernel
theorem d_MD_isRight_13 : decode b_MD_isRight 13 = .ok (.istore 4, 2) := by decide +kernel
theorem d_MD_isRight_15 : decode b_MD_isRight 15 = .ok (.iload 4, 2) := by decide +kernel
theorem d_MD_isRight_17 : decode b_MD_isRight 17 = .ok (.ifCond .eq 15, 3) := by decide +kernel
theorem d_MD_isRight_20 : decode b_MD_isRight 20 = .ok (.iload 4, 2) := by decide +kernel
theorem d_MD_isRight_22 : decode b_MD_isRight 22 = .ok (.iconst 1, 1) := by decide +kernel
theorem d_MD_isRight_23 : decode b_MD_isRight 23 = .ok (.if_icmp .eq 9, 3) := by decide +kernel
theorem d_MD_isRight_26 : decode b_MD_isRight 26 = .ok (.iload 4, 2) := by decide +kernel
theorem d_MD_isRight_28 : decode b_MD_isRight 28 = .ok (.iconst 2, 1) := by decide +kernel
theorem d_MD_isRight_29 : decode b_MD_isRight 29 = .ok (.if_icmp .ne 14, 3) := by decide +kernel
theorem d_MD_isRight_32 : decode b_MD_isRight 32 = .ok (.iload 4, 2) := by decide +kernel
theorem d_MD_isRight_34 : decode b_MD_isRight 34 = .ok (.ifCond .eq 7, 3) := by decide +kernel
theorem d_MD_isRight_37 : decode b_MD_isRight 37 = .ok (.iconst 1, 1) := by decide +kernel
theorem d_MD_isRight_38 : decode b_MD_isRight 38 = .ok (.goto 4, 3) := by decide +kernel
theorem d_MD_isRight_41 : decode b_MD_isRight 41 = .ok (.iconst 0, 1) := by decide +kernel
theorem d_MD_isRight_42 : decode b_MD_isRight 42 = .ok (.ireturn, 1) := by decide +kernel
theorem d_MD_isRight_43 : decode b_MD_isRight 43 = .ok (.iload 4, 2) := by decide +kernel
theorem d_MD_isRight_45 : decode b_MD_isRight 45 = .ok (.invokestatic 122, 3) := by decide +kernel
theorem d_MD_isRight_48 : decode b_MD_isRight 48 = .ok (.ifCond .eq 12, 3) := by decide +kernel
theorem d_MD_isRight_51 : decode b_MD_isRight 51 = .ok (.aload_n 0, 1) := by decide +kernel
theorem d_MD_isRight_52 : decode b_MD_isRight 52 = .ok (.iload_n 3, 1) := by decide +kernel
theorem d_MD_isRight_53 : decode b_MD_isRight 53 = .ok (.iload_n 2, 1) := by decide +kernel
theorem d_MD_isRight_54 : decode b_MD_isRight 54 = .ok (.invokevirtual 125, 3) := by decide +kernel
theorem d_MD_isRight_57 : decode b_MD_isRight 57 = .ok (.goto 4, 3) := by decide +kernel
theorem d_MD_isRight_60 : decode b_MD_isRight 60 = .ok (.iload_n 3, 1) := by decide +kernel
theorem d_MD_isRight_61 : decode b_MD_isRight 61 = .ok (.istore 5, 2) := by decide +kernel
theorem d_MD_isRight_63 : decode b_MD_isRight 63 = .ok (.iload 5, 2) := by decide +kernel
theorem d_MD_isRight_65 : decode b_MD_isRight 65 = .ok (.ifCond .ge 7, 3) := by decide +kernel
theorem d_MD_isRight_68 : decode b_MD_isRight 68 = .ok (.iload_n 2, 1) := by decide +kernel
theorem d_MD_isRight_69 : decode b_MD_isRight 69 = .ok (.goto 7, 3) := by decide +kernel
theorem d_MD_isRight_72 : decode b_MD_isRight 72 = .ok (.iload 5, 2) := by decide +kernel
theorem d_MD_isRight_74 : decode b_MD_isRight 74 = .ok (.iconst 1, 1) := by decide +kernel
theorem d_MD_isRight_75 : decode b_MD_isRight 75 = .ok (.iadd, 1) := by decide +kernel
theorem d_MD_isRight_76 : decode b_MD_isRight 76 = .ok (.istore_n 3, 1) := by decide +kernel
theorem d_MD_isRight_77 : decode b_MD_isRight 77 = .ok (.goto (-75), 3) := by decide +kernel
theorem d_MD_isRight_80 : decode b_MD_isRight 80 = .ok (.iconst 0, 1) := by decide +kernel
theorem d_MD_isRight_81 : decode b_MD_isRight 81 = .ok (.ireturn, 1) := by decide +kernel
theorem d_MD_push_0 : decode b_MD_push 0 = .ok (.aload_n 0, 1) := by decide +kernel
theorem d_MD_push_1 : decode b_MD_push 1 = .ok (.getfield 52, 3) := by decide +kernel
theorem d_MD_push_4 : decode b_MD_push 4 = .ok (.aload_n 0, 1) := by decide +kernel
theorem d_MD_push_5 : decode b_MD_push 5 = .ok (.getfield 129, 3) := by decide +kernel
theorem d_MD_push_8 : decode b_MD_push 8 = .ok (.iload_n 1, 1) := by decide +kernel
theorem d_MD_push_9 : decode b_MD_push 9 = .ok (.iastore, 1) := by decide +kernel
theorem d_MD_push_10 : decode b_MD_push 10 = .ok (.aload_n 0, 1) := by decide +kernel
theorem d_MD_push_11 : decode b_MD_push 11 = .ok (.getfield 55, 3) := by decide +kernel
theorem d_MD_push_14 : decode b_MD_push 14 = .ok (.aload_n 0, 1) := by decide +kernel
theorem d_MD_push_15 : decode b_MD_push 15 = .ok (.getfield 129, 3) := by decide +kernel
theorem d_MD_push_18 : decode b_MD_push 18 = .ok (.iload_n 2, 1) := by decide +kernel
theorem d_MD_push_19 : decode b_MD_push 19 = .ok (.iastore, 1) := by decide +kernel
theorem d_MD_push_20 : decode b_MD_push 20 = .ok (.aload_n 0, 1) := by decide +kernel
theorem d_MD_push_21 : decode b_MD_push 21 = .ok (.getfield 58, 3) := by decide +kernel
theorem d_MD_push_24 : decode b_MD_push 24 = .ok (.aload_n 0, 1) := by decide +kernel
theorem d_MD_push_25 : decode b_MD_push 25 = .ok (.getfield 129, 3) := by decide +kernel
theorem d_MD_push_28 : decode b_MD_push 28 = .ok (.iload_n 3, 1) := by decide +kernel
theorem d_MD_push_29 : decode b_MD_push 29 = .ok (.bastore, 1) := by decide +kernel
theorem d_MD_push_30 : decode b_MD_push 30 = .ok (.aload_n 0, 1) := by decide +kernel
theorem d_MD_push_31 : decode b_MD_push 31 = .ok (.dup, 1) := by decide +kernel
theorem d_MD_push_32 : decode b_MD_push 32 = .ok (.getfield 129, 3) := by decide +kernel
theorem d_MD_push_35 : decode b_MD_push 35 = .ok (.iconst 1, 1) := by decide +kernel
theorem d_MD_push_36 : decode b_MD_push 36 = .ok (.iadd, 1) := by decide +kernel
theorem d_MD_push_37 : decode b_MD_push 37 = .ok (.putfield 129, 3) := by decide +kernel
theorem d_MD_push_40 : decode b_MD_push 40 = .ok (.return_, 1) := by decide +kernel
theorem d_MD_topLevel_0 : decode b_MD_topLevel 0 = .ok (.aload_n 0, 1) := by decide +kernel
theorem d_MD_topLevel_1 : decode b_MD_topLevel 1 = .ok (.getfield 52, 3) := by decide +kernel
theorem d_MD_topLevel_4 : decode b_MD_topLevel 4 = .ok (.aload_n 0, 1) := by decide +kernel
theorem d_MD_topLevel_5 : decode b_MD_topLevel 5 = .ok (.getfield 129, 3) := by decide +kernel
theorem d_MD_topLevel_8 : decode b_MD_topLevel 8 = .ok (.iconst 1, 1) := by decide +kernel
theorem d_MD_topLevel_9 : decode b_MD_topLevel 9 = .ok (.isub, 1) := by decide +kernel
theorem d_MD_topLevel_10 : decode b_MD_topLevel 10 = .ok (.iaload, 1) := by decide +kernel
theorem d_MD_topLevel_11 : decode b_MD_topLevel 11 = .ok (.ireturn, 1) := by decide +kernel
theorem d_MD_next_0 : decode b_MD_next 0 = .ok (.aload_n 0, 1) := by decide +kernel
theorem d_MD_next_1 : decode b_MD_next 1 = .ok (.invokevirtual 132, 3) := by decide +kernel
theorem d_MD_next_4 : decode b_MD_next 4 = .ok (.iconst 1, 1) := by decide +kernel
theorem d_MD_next_5 : decode b_MD_next 5 = .ok (.iadd, 1) := by decide +kernel
theorem d_MD_next_6 : decode b_MD_next 6 = .ok (.istore_n 2, 1) := by decide +kernel
theorem d_MD_next_7 : decode b_MD_next 7 = .ok (.iload_n 2, 1) := by decide +kernel
theorem d_MD_next_8 : decode b_MD_next 8 = .ok (.iconst 2, 1) := by decide +kernel
theorem d_MD_next_9 : decode b_MD_next 9 = .ok (.irem, 1) := by decide +kernel
theorem d_MD_next_10 : decode b_MD_next 10 = .ok (.iload_n 1, 1) := by decide +kernel
theorem d_MD_next_11 : decode b_MD_next 11 = .ok (.ifCond .eq 7, 3) := by decide +kernel
theorem d_MD_next_14 : decode b_MD_next 14 = .ok (.iconst 1, 1) := by decide +kernel
theorem d_MD_next_15 : decode b_MD_next 15 = .ok (.goto 4, 3) := by decide +kernel
theorem d_MD_next_18 : decode b_MD_next 18 = .ok (.iconst 0, 1) := by decide +kernel
theorem d_MD_next_19 : decode b_MD_next 19 = .ok (.if_icmp .ne 7, 3) := by decide +kernel
theorem d_MD_next_22 : decode b_MD_next 22 = .ok (.iload_n 2, 1) := by decide +kernel
theorem d_MD_next_23 : decode b_MD_next 23 = .ok (.goto 6, 3) := by decide +kernel
theorem d_MD_next_26 : decode b_MD_next 26 = .ok (.iload_n 2, 1) := by decide +kernel
theorem d_MD_next_27 : decode b_MD_next 27 = .ok (.iconst 1, 1) := by decide +kernel
theorem d_MD_next_28 : decode b_MD_next 28 = .ok (.iadd, 1) := by decide +kernel
theorem d_MD_next_29 : decode b_MD_next 29 = .ok (.ireturn, 1) := by decide +kernel
theorem d_MD_settle_0 : decode b_MD_settle 0 = .ok (.aload_n 0, 1) := by decide +kernel
theorem d_MD_settle_1 : decode b_MD_settle 1 = .ok (.getfield 43, 3) := by decide +kernel
theorem d_MD_settle_4 : decode b_MD_settle 4 = .ok (.iload_n 1, 1) := by decide +kernel
theorem d_MD_settle_5 : decode b_MD_settle 5 = .ok (.aload_n 0, 1) := by decide +kernel
theorem d_MD_settle_6 : decode b_MD_settle 6 = .ok (.invokevirtual 132, 3) := by decide +kernel
theorem d_MD_settle_9 : decode b_MD_settle 9 = .ok (.iastore, 1) := by decide +kernel
theorem d_MD_settle_10 : decode b_MD_settle 10 = .ok (.aload_n 0, 1) := by decide +kernel
theorem d_MD_settle_11 : decode b_MD_settle 11 = .ok (.getfield 55, 3) := by decide +kernel
theorem d_MD_settle_14 : decode b_MD_settle 14 = .ok (.aload_n 0, 1) := by decide +kernel
theorem d_MD_settle_15 : decode b_MD_settle 15 = .ok (.getfield 129, 3) := by decide +kernel
theorem d_MD_settle_18 : decode b_MD_settle 18 = .ok (.iconst 1, 1) := by decide +kernel
theorem d_MD_settle_19 : decode b_MD_settle 19 = .ok (.isub, 1) := by decide +kernel
theorem d_MD_settle_20 : decode b_MD_settle 20 = .ok (.iaload, 1) := by decide +kernel
theorem d_MD_settle_21 : decode b_MD_settle 21 = .ok (.istore_n 2, 1) := by decide +kernel
theorem d_MD_settle_22 : decode b_MD_settle 22 = .ok (.aload_n 0, 1) := by decide +kernel
theorem d_MD_settle_23 : decode b_MD_settle 23 = .ok (.getfield 37, 3) := by decide +kernel
theorem d_MD_settle_26 : decode b_MD_settle 26 = .ok (.iload_n 1, 1) := by decide +kernel
theorem d_MD_settle_27 : decode b_MD_settle 27 = .ok (.iload_n 2, 1) := by decide +kernel
theorem d_MD_settle_28 : decode b_MD_settle 28 = .ok (.ifCond .lt 7, 3) := by decide +kernel
theorem d_MD_settle_31 : decode b_MD_settle 31 = .ok (.iload_n 2, 1) := by decide +kernel
theorem d_MD_settle_32 : decode b_MD_settle 32 = .ok (.goto 9, 3) := by decide +kernel
theorem d_MD_settle_35 : decode b_MD_settle 35 = .ok (.aload_n 0, 1) := by decide +kernel
theorem d_MD_settle_36 : decode b_MD_settle 36 = .ok (.getfield 37, 3) := by decide +kernel
theorem d_MD_settle_39 : decode b_MD_settle 39 = .ok (.iload_n 1, 1) := by decide +kernel
theorem d_MD_settle_40 : decode b_MD_settle 40 = .ok (.iaload, 1) := by decide +kernel
theorem d_MD_settle_41 : decode b_MD_settle 41 = .ok (.iastore, 1) := by decide +kernel
theorem d_MD_settle_42 : decode b_MD_settle 42 = .ok (.return_, 1) := by decide +kernel
theorem d_MD_explicit_0 : decode b_MD_explicit 0 = .ok (.aload_n 0, 1) := by decide +kernel
theorem d_MD_explicit_1 : decode b_MD_explicit 1 = .ok (.iconst 0, 1) := by decide +kernel
theorem d_MD_explicit_2 : decode b_MD_explicit 2 = .ok (.putfield 129, 3) := by decide +kernel
theorem d_MD_explicit_5 : decode b_MD_explicit 5 = .ok (.aload_n 0, 1) := by decide +kernel
theorem d_MD_explicit_6 : decode b_MD_explicit 6 = .ok (.iload_n 3, 1) := by decide +kernel
theorem d_MD_explicit_7 : decode b_MD_explicit 7 = .ok (.iconst (-1), 1) := by decide +kernel
theorem d_MD_explicit_8 : decode b_MD_explicit 8 = .ok (.iconst 0, 1) := by decide +kernel
theorem d_MD_explicit_9 : decode b_MD_explicit 9 = .ok (.invokevirtual 136, 3) := by decide +kernel
theorem d_MD_explicit_12 : decode b_MD_explicit 12 = .ok (.iconst 0, 1) := by decide +kernel
theorem d_MD_explicit_13 : decode b_MD_explicit 13 = .ok (.istore 4, 2) := by decide +kernel
theorem d_MD_explicit_15 : decode b_MD_explicit 15 = .ok (.iconst 0, 1) := by decide +kernel
theorem d_MD_explicit_16 : decode b_MD_explicit 16 = .ok (.istore 5, 2) := by decide +kernel
theorem d_MD_explicit_18 : decode b_MD_explicit 18 = .ok (.iconst 0, 1) := by decide +kernel
theorem d_MD_explicit_19 : decode b_MD_explicit 19 = .ok (.istore 6, 2) := by decide +kernel
theorem d_MD_explicit_21 : decode b_MD_explicit 21 = .ok (.iload_n 1, 1) := by decide +kernel
theorem d_MD_explicit_22 : decode b_MD_explicit 22 = .ok (.istore 7, 2) := by decide +kernel
theorem d_MD_explicit_24 : decode b_MD_explicit 24 = .ok (.iload 7, 2) := by decide +kernel
theorem d_MD_explicit_26 : decode b_MD_explicit 26 = .ok (.iload_n 2, 1) := by decide +kernel
theorem d_MD_explicit_27 : decode b_MD_explicit 27 = .ok (.if_icmp .ge 420, 3) := by decide +kernel
theorem d_MD_explicit_30 : decode b_MD_explicit 30 = .ok (.aload_n 0, 1) := by decide +kernel
theorem d_MD_explicit_31 : decode b_MD_explicit 31 = .ok (.getfield 34, 3) := by decide +kernel
theorem d_MD_explicit_34 : decode b_MD_explicit 34 = .ok (.iload 7, 2) := by decide +kernel
theorem d_MD_explicit_36 : decode b_MD_explicit 36 = .ok (.iaload, 1) := by decide +kernel
theorem d_MD_explicit_37 : decode b_MD_explicit 37 = .ok (.istore 8, 2) := by decide +kernel
theorem d_MD_explicit_39 : decode b_MD_explicit 39 = .ok (.aload_n 0, 1) := by decide +kernel
theorem d_MD_explicit_40 : decode b_MD_explicit 40 = .ok (.getfield 37, 3) := by decide +kernel
theorem d_MD_explicit_43 : decode b_MD_explicit 43 = .ok (.iload 7, 2) := by decide +kernel
theorem d_MD_explicit_45 : decode b_MD_explicit 45 = .ok (.iload 8, 2) := by decide +kernel
theorem d_MD_explicit_47 : decode b_MD_explicit 47 = .ok (.iastore, 1) := by decide +kernel
theorem d_MD_explicit_48 : decode b_MD_explicit 48 = .ok (.aload_n 0, 1) := by decide +kernel
theorem d_MD_explicit_49 : decode b_MD_explicit 49 = .ok (.getfield 43, 3) := by decide +kernel
theorem d_MD_explicit_52 : decode b_MD_explicit 52 = .ok (.iload 7, 2) := by decide +kernel
theorem d_MD_explicit_54 : decode b_MD_explicit 54 = .ok (.iconst (-1), 1) := by decide +kernel
theorem d_MD_explicit_55 : decode b_MD_explicit 55 = .ok (.iastore, 1) := by decide +kernel
theorem d_MD_explicit_56 : decode b_MD_explicit 56 = .ok (.iload 8, 2) := by decide +kernel
theorem d_MD_explicit_58 : decode b_MD_explicit 58 = .ok (.bipush 14, 2) := by decide +kernel
theorem d_MD_explicit_60 : decode b_MD_explicit 60 = .ok (.if_icmp .lt 96, 3) := by decide +kernel
theorem d_MD_explicit_63 : decode b_MD_explicit 63 = .ok (.iload 8, 2) := by decide +kernel
theorem d_MD_explicit_65 : decode b_MD_explicit 65 = .ok (.bipush 17, 2) := by decide +kernel
theorem d_MD_explicit_67 : decode b_MD_explicit 67 = .ok (.if_icmp .gt 89, 3) := by decide +kernel
theorem d_MD_explicit_70 : decode b_MD_explicit 70 = .ok (.aload_n 0, 1) := by decide +kernel
theorem d_MD_explicit_71 : decode b_MD_explicit 71 = .ok (.iload 8, 2) := by decide +kernel
theorem d_MD_explicit_73 : decode b_MD_explicit 73 = .ok (.bipush 16, 2) := by decide +kernel
theorem d_MD_explicit_75 : decode b_MD_explicit 75 = .ok (.if_icmp .eq 10, 3) := by decide +kernel
theorem d_MD_explicit_78 : decode b_MD_explicit 78 = .ok (.iload 8, 2) := by decide +kernel
theorem d_MD_explicit_80 : decode b_MD_explicit 80 = .ok (.bipush 17, 2) := by decide +kernel
theorem d_MD_explicit_82 : decode b_MD_explicit 82 = .ok (.if_icmp .ne 7, 3) := by decide +kernel
theorem d_MD_explicit_85 : decode b_MD_explicit 85 = .ok (.iconst 1, 1) := by decide +kernel
theorem d_MD_explicit_86 : decode b_MD_explicit 86 = .ok (.goto 4, 3) := by decide +kernel
theorem d_MD_explicit_89 : decode b_MD_explicit 89 = .ok (.iconst 0, 1) := by decide +kernel
theorem d_MD_explicit_90 : decode b_MD_explicit 90 = .ok (.invokevirtual 140, 3) := by decide +kernel
theorem d_MD_explicit_93 : decode b_MD_explicit 93 = .ok (.istore 9, 2) := by decide +kernel
theorem d_MD_explicit_95 : decode b_MD_explicit 95 = .ok (.iload 9, 2) := by decide +kernel
theorem d_MD_explicit_97 : decode b_MD_explicit 97 = .ok (.bipush 125, 2) := by decide +kernel
theorem d_MD_explicit_99 : decode b_MD_explicit 99 = .ok (.if_icmp .gt 46, 3) := by decide +kernel
theorem d_MD_explicit_102 : decode b_MD_explicit 102 = .ok (.iload 4, 2) := by decide +kernel
theorem d_MD_explicit_104 : decode b_MD_explicit 104 = .ok (.ifCond .ne 41, 3) := by decide +kernel
theorem d_MD_explicit_107 : decode b_MD_explicit 107 = .ok (.iload 5, 2) := by decide +kernel
theorem d_MD_explicit_109 : decode b_MD_explicit 109 = .ok (.ifCond .ne 36, 3) := by decide +kernel
theorem d_MD_explicit_112 : decode b_MD_explicit 112 = .ok (.aload_n 0, 1) := by decide +kernel
theorem d_MD_explicit_113 : decode b_MD_explicit 113 = .ok (.iload 9, 2) := by decide +kernel
theorem d_MD_explicit_115 : decode b_MD_explicit 115 = .ok (.iload 8, 2) := by decide +kernel
theorem d_MD_explicit_117 : decode b_MD_explicit 117 = .ok (.bipush 17, 2) := by decide +kernel
theorem d_MD_explicit_119 : decode b_MD_explicit 119 = .ok (.if_icmp .ne 7, 3) := by decide +kernel
theorem d_MD_explicit_122 : decode b_MD_explicit 122 = .ok (.iconst 1, 1) := by decide +kernel
theorem d_MD_explicit_123 : decode b_MD_explicit 123 = .ok (.goto 15, 3) := by decide +kernel
theorem d_MD_explicit_126 : decode b_MD_explicit 126 = .ok (.iload 8, 2) := by decide +kernel
theorem d_MD_explicit_128 : decode b_MD_explicit 128 = .ok (.bipush 15, 2) := by decide +kernel
theorem d_MD_explicit_130 : decode b_MD_explicit 130 = .ok (.if_icmp .ne 7, 3) := by decide +kernel
theorem d_MD_explicit_133 : decode b_MD_explicit 133 = .ok (.iconst 0, 1) := by decide +kernel
theorem d_MD_explicit_134 : decode b_MD_explicit 134 = .ok (.goto 4, 3) := by decide +kernel
theorem d_MD_explicit_137 : decode b_MD_explicit 137 = .ok (.iconst (-1), 1) := by decide +kernel
theorem d_MD_explicit_138 : decode b_MD_explicit 138 = .ok (.iconst 0, 1) := by decide +kernel
theorem d_MD_explicit_139 : decode b_MD_explicit 139 = .ok (.invokevirtual 136, 3) := by decide +kernel
theorem d_MD_explicit_142 : decode b_MD_explicit 142 = .ok (.goto 11, 3) := by decide +kernel
theorem d_MD_explicit_145 : decode b_MD_explicit 145 = .ok (.iload 4, 2) := by decide +kernel
theorem d_MD_explicit_147 : decode b_MD_explicit 147 = .ok (.ifCond .ne 6, 3) := by decide +kernel
theorem d_MD_explicit_150 : decode b_MD_explicit 150 = .ok (.iinc 5 1, 3) := by decide +kernel
theorem d_MD_explicit_153 : decode b_MD_explicit 153 = .ok (.goto 288, 3) := by decide +kernel
theorem d_MD_explicit_156 : decode b_MD_explicit 156 = .ok (.iload 8, 2) := by decide +kernel
theorem d_MD_explicit_158 : decode b_MD_explicit 158 = .ok (.invokestatic 122, 3) := by decide +kernel
theorem d_MD_explicit_161 : decode b_MD_explicit 161 = .ok (.ifCond .eq 111, 3) := by decide +kernel
theorem d_MD_explicit_164 : decode b_MD_explicit 164 = .ok (.aload_n 0, 1) := by decide +kernel
theorem d_MD_explicit_165 : decode b_MD_explicit 165 = .ok (.getfield 46, 3) := by decide +kernel
theorem d_MD_explicit_168 : decode b_MD_explicit 168 = .ok (.iload 7, 2) := by decide +kernel
theorem d_MD_explicit_170 : decode b_MD_explicit 170 = .ok (.iaload, 1) := by decide +kernel
theorem d_MD_explicit_171 : decode b_MD_explicit 171 = .ok (.ifCond .ge 7, 3) := by decide +kernel
theorem d_MD_explicit_174 : decode b_MD_explicit 174 = .ok (.iload_n 2, 1) := by decide +kernel
theorem d_MD_explicit_175 : decode b_MD_explicit 175 = .ok (.goto 10, 3) := by decide +kernel
theorem d_MD_explicit_178 : decode b_MD_explicit 178 = .ok (.aload_n 0, 1) := by decide +kernel
theorem d_MD_explicit_179 : decode b_MD_explicit 179 = .ok (.getfield 46, 3) := by decide +kernel
theorem d_MD_explicit_182 : decode b_MD_explicit 182 = .ok (.iload 7, 2) := by decide +kernel
theorem d_MD_explicit_184 : decode b_MD_explicit 184 = .ok (.iaload, 1) := by decide +kernel
theorem d_MD_explicit_185 : decode b_MD_explicit 185 = .ok (.istore 9, 2) := by decide +kernel
theorem d_MD_explicit_187 : decode b_MD_explicit 187 = .ok (.iload 8, 2) := by decide +kernel
theorem d_MD_explicit_189 : decode b_MD_explicit 189 = .ok (.bipush 20, 2) := by decide +kernel
theorem d_MD_explicit_191 : decode b_MD_explicit 191 = .ok (.if_icmp .eq 23, 3) := by decide +kernel
theorem d_MD_explicit_194 : decode b_MD_explicit 194 = .ok (.iload 8, 2) := by decide +kernel
theorem d_MD_explicit_196 : decode b_MD_explicit 196 = .ok (.bipush 21, 2) := by decide +kernel
theorem d_MD_explicit_198 : decode b_MD_explicit 198 = .ok (.if_icmp .ne 20, 3) := by decide +kernel
theorem d_MD_explicit_201 : decode b_MD_explicit 201 = .ok (.aload_n 0, 1) := by decide +kernel
theorem d_MD_explicit_202 : decode b_MD_explicit 202 = .ok (.iload 7, 2) := by decide +kernel
theorem d_MD_explicit_204 : decode b_MD_explicit 204 = .ok (.iconst 1, 1) := by decide +kernel
theorem d_MD_explicit_205 : decode b_MD_explicit 205 = .ok (.iadd, 1) := by decide +kernel
theorem d_MD_explicit_206 : decode b_MD_explicit 206 = .ok (.iload 9, 2) := by decide +kernel
theorem d_MD_explicit_208 : decode b_MD_explicit 208 = .ok (.invokevirtual 144, 3) := by decide +kernel
theorem d_MD_explicit_211 : decode b_MD_explicit 211 = .ok (.ifCond .eq 7, 3) := by decide +kernel
theorem d_MD_explicit_214 : decode b_MD_explicit 214 = .ok (.iconst 1, 1) := by decide +kernel
theorem d_MD_explicit_215 : decode b_MD_explicit 215 = .ok (.goto 4, 3) := by decide +kernel
theorem d_MD_explicit_218 : decode b_MD_explicit 218 = .ok (.iconst 0, 1) := by decide +kernel
theorem d_MD_explicit_219 : decode b_MD_explicit 219 = .ok (.istore 10, 2) := by decide +kernel
theorem d_MD_explicit_221 : decode b_MD_explicit 221 = .ok (.aload_n 0, 1) := by decide +kernel
theorem d_MD_explicit_222 : decode b_MD_explicit 222 = .ok (.iload 7, 2) := by decide +kernel
theorem d_MD_explicit_224 : decode b_MD_explicit 224 = .ok (.invokevirtual 148, 3) := by decide +kernel
theorem d_MD_explicit_227 : decode b_MD_explicit 227 = .ok (.aload_n 0, 1) := by decide +kernel
theorem d_MD_explicit_228 : decode b_MD_explicit 228 = .ok (.iload 10, 2) := by decide +kernel
theorem d_MD_explicit_230 : decode b_MD_explicit 230 = .ok (.invokevirtual 140, 3) := by decide +kernel
theorem d_MD_explicit_233 : decode b_MD_explicit 233 = .ok (.istore 11, 2) := by decide +kernel
theorem d_MD_explicit_235 : decode b_MD_explicit 235 = .ok (.iload 11, 2) := by decide +kernel
theorem d_MD_explicit_237 : decode b_MD_explicit 237 = .ok (.bipush 125, 2) := by decide +kernel
theorem d_MD_explicit_239 : decode b_MD_explicit 239 = .ok (.if_icmp .gt 27, 3) := by decide +kernel
theorem d_MD_explicit_242 : decode b_MD_explicit 242 = .ok (.iload 4, 2) := by decide +kernel
theorem d_MD_explicit_244 : decode b_MD_explicit 244 = .ok (.ifCond .ne 22, 3) := by decide +kernel
theorem d_MD_explicit_247 : decode b_MD_explicit 247 = .ok (.iload 5, 2) := by decide +kernel
theorem d_MD_explicit_249 : decode b_MD_explicit 249 = .ok (.ifCond .ne 17, 3) := by decide +kernel
theorem d_MD_explicit_252 : decode b_MD_explicit 252 = .ok (.iinc 6 1, 3) := by decide +kernel
theorem d_MD_explicit_255 : decode b_MD_explicit 255 = .ok (.aload_n 0, 1) := by decide +kernel
theorem d_MD_explicit_256 : decode b_MD_explicit 256 = .ok (.iload 11, 2) := by decide +kernel
theorem d_MD_explicit_258 : decode b_MD_explicit 258 = .ok (.iconst (-1), 1) := by decide +kernel
theorem d_MD_explicit_259 : decode b_MD_explicit 259 = .ok (.iconst 1, 1) := by decide +kernel
theorem d_MD_explicit_260 : decode b_MD_explicit 260 = .ok (.invokevirtual 136, 3) := by decide +kernel
theorem d_MD_explicit_263 : decode b_MD_explicit 263 = .ok (.goto 6, 3) := by decide +kernel
theorem d_MD_explicit_266 : decode b_MD_explicit 266 = .ok (.iinc 4 1, 3) := by decide +kernel
theorem d_MD_explicit_269 : decode b_MD_explicit 269 = .ok (.goto 172, 3) := by decide +kernel
theorem d_MD_explicit_272 : decode b_MD_explicit 272 = .ok (.iload 8, 2) := by decide +kernel
theorem d_MD_explicit_274 : decode b_MD_explicit 274 = .ok (.bipush 22, 2) := by decide +kernel
theorem d_MD_explicit_276 : decode b_MD_explicit 276 = .ok (.if_icmp .ne 71, 3) := by decide +kernel
theorem d_MD_explicit_279 : decode b_MD_explicit 279 = .ok (.iload 4, 2) := by decide +kernel
theorem d_MD_explicit_281 : decode b_MD_explicit 281 = .ok (.ifCond .le 9, 3) := by decide +kernel
theorem d_MD_explicit_284 : decode b_MD_explicit 284 = .ok (.iinc 4 (-1), 3) := by decide +kernel
theorem d_MD_explicit_287 : decode b_MD_explicit 287 = .ok (.goto 51, 3) := by decide +kernel
theorem d_MD_explicit_290 : decode b_MD_explicit 290 = .ok (.iload 6, 2) := by decide +kernel
theorem d_MD_explicit_292 : decode b_MD_explicit 292 = .ok (.ifCond .le 46, 3) := by decide +kernel
theorem d_MD_explicit_295 : decode b_MD_explicit 295 = .ok (.iconst 0, 1) := by decide +kernel
theorem d_MD_explicit_296 : decode b_MD_explicit 296 = .ok (.istore 5, 2) := by decide +kernel
theorem d_MD_explicit_298 : decode b_MD_explicit 298 = .ok (.aload_n 0, 1) := by decide +kernel
theorem d_MD_explicit_299 : decode b_MD_explicit 299 = .ok (.getfield 58, 3) := by decide +kernel
theorem d_MD_explicit_302 : decode b_MD_explicit 302 = .ok (.aload_n 0, 1) := by decide +kernel
theorem d_MD_explicit_303 : decode b_MD_explicit 303 = .ok (.getfield 129, 3) := by decide +kernel
theorem d_MD_explicit_306 : decode b_MD_explicit 306 = .ok (.iconst 1, 1) := by decide +kernel
theorem d_MD_explicit_307 : decode b_MD_explicit 307 = .ok (.isub, 1) := by decide +kernel
theorem d_MD_explicit_308 : decode b_MD_explicit 308 = .ok (.baload, 1) := by decide +kernel
theorem d_MD_explicit_309 : decode b_MD_explicit 309 = .ok (.ifCond .ne 16, 3) := by decide +kernel
theorem d_MD_explicit_312 : decode b_MD_explicit 312 = .ok (.aload_n 0, 1) := by decide +kernel
theorem d_MD_explicit_313 : decode b_MD_explicit 313 = .ok (.dup, 1) := by decide +kernel
theorem d_MD_explicit_314 : decode b_MD_explicit 314 = .ok (.getfield 129, 3) := by decide +kernel
theorem d_MD_explicit_317 : decode b_MD_explicit 317 = .ok (.iconst 1, 1) := by decide +kernel
theorem d_MD_explicit_318 : decode b_MD_explicit 318 = .ok (.isub, 1) := by decide +kernel
theorem d_MD_explicit_319 : decode b_MD_explicit 319 = .ok (.putfield 129, 3) := by decide +kernel
theorem d_MD_explicit_322 : decode b_MD_explicit 322 = .ok (.goto (-24), 3) := by decide +kernel
theorem d_MD_explicit_325 : decode b_MD_explicit 325 = .ok (.aload_n 0, 1) := by decide +kernel
theorem d_MD_explicit_326 : decode b_MD_explicit 326 = .ok (.dup, 1) := by decide +kernel
theorem d_MD_explicit_327 : decode b_MD_explicit 327 = .ok (.getfield 129, 3) := by decide +kernel
theorem d_MD_explicit_330 : decode b_MD_explicit 330 = .ok (.iconst 1, 1) := by decide +kernel
theorem d_MD_explicit_331 : decode b_MD_explicit 331 = .ok (.isub, 1) := by decide +kernel
theorem d_MD_explicit_332 : decode b_MD_explicit 332 = .ok (.putfield 129, 3) := by decide +kernel
theorem d_MD_explicit_335 : decode b_MD_explicit 335 = .ok (.iinc 6 (-1), 3) := by decide +kernel
theorem d_MD_explicit_338 : decode b_MD_explicit 338 = .ok (.aload_n 0, 1) := by decide +kernel
theorem d_MD_explicit_339 : decode b_MD_explicit 339 = .ok (.iload 7, 2) := by decide +kernel
theorem d_MD_explicit_341 : decode b_MD_explicit 341 = .ok (.invokevirtual 148, 3) := by decide +kernel
theorem d_MD_explicit_344 : decode b_MD_explicit 344 = .ok (.goto 97, 3) := by decide +kernel
theorem d_MD_explicit_347 : decode b_MD_explicit 347 = .ok (.iload 8, 2) := by decide +kernel
theorem d_MD_explicit_349 : decode b_MD_explicit 349 = .ok (.bipush 18, 2) := by decide +kernel
theorem d_MD_explicit_351 : decode b_MD_explicit 351 = .ok (.if_icmp .ne 59, 3) := by decide +kernel
theorem d_MD_explicit_354 : decode b_MD_explicit 354 = .ok (.iload 4, 2) := by decide +kernel
theorem d_MD_explicit_356 : decode b_MD_explicit 356 = .ok (.ifCond .ne 14, 3) := by decide +kernel
theorem d_MD_explicit_359 : decode b_MD_explicit 359 = .ok (.iload 5, 2) := by decide +kernel
theorem d_MD_explicit_361 : decode b_MD_explicit 361 = .ok (.ifCond .le 9, 3) := by decide +kernel
theorem d_MD_explicit_364 : decode b_MD_explicit 364 = .ok (.iinc 5 (-1), 3) := by decide +kernel
theorem d_MD_explicit_367 : decode b_MD_explicit 367 = .ok (.goto 74, 3) := by decide +kernel
theorem d_MD_explicit_370 : decode b_MD_explicit 370 = .ok (.iload 4, 2) := by decide +kernel
theorem d_MD_explicit_372 : decode b_MD_explicit 372 = .ok (.ifCond .ne 69, 3) := by decide +kernel
theorem d_MD_explicit_375 : decode b_MD_explicit 375 = .ok (.aload_n 0, 1) := by decide +kernel
theorem d_MD_explicit_376 : decode b_MD_explicit 376 = .ok (.getfield 129, 3) := by decide +kernel
theorem d_MD_explicit_379 : decode b_MD_explicit 379 = .ok (.iconst 1, 1) := by decide +kernel
theorem d_MD_explicit_380 : decode b_MD_explicit 380 = .ok (.if_icmp .le 61, 3) := by decide +kernel
theorem d_MD_explicit_383 : decode b_MD_explicit 383 = .ok (.aload_n 0, 1) := by decide +kernel
theorem d_MD_explicit_384 : decode b_MD_explicit 384 = .ok (.getfield 58, 3) := by decide +kernel
theorem d_MD_explicit_387 : decode b_MD_explicit 387 = .ok (.aload_n 0, 1) := by decide +kernel
theorem d_MD_explicit_388 : decode b_MD_explicit 388 = .ok (.getfield 129, 3) := by decide +kernel
theorem d_MD_explicit_391 : decode b_MD_explicit 391 = .ok (.iconst 1, 1) := by decide +kernel
theorem d_MD_explicit_392 : decode b_MD_explicit 392 = .ok (.isub, 1) := by decide +kernel
theorem d_MD_explicit_393 : decode b_MD_explicit 393 = .ok (.baload, 1) := by decide +kernel
theorem d_MD_explicit_394 : decode b_MD_explicit 394 = .ok (.ifCond .ne 47, 3) := by decide +kernel
theorem d_MD_explicit_397 : decode b_MD_explicit 397 = .ok (.aload_n 0, 1) := by decide +kernel
theorem d_MD_explicit_398 : decode b_MD_explicit 398 = .ok (.dup, 1) := by decide +kernel
theorem d_MD_explicit_399 : decode b_MD_explicit 399 = .ok (.getfield 129, 3) := by decide +kernel
theorem d_MD_explicit_402 : decode b_MD_explicit 402 = .ok (.iconst 1, 1) := by decide +kernel
theorem d_MD_explicit_403 : decode b_MD_explicit 403 = .ok (.isub, 1) := by decide +kernel
theorem d_MD_explicit_404 : decode b_MD_explicit 404 = .ok (.putfield 129, 3) := by decide +kernel
theorem d_MD_explicit_407 : decode b_MD_explicit 407 = .ok (.goto 34, 3) := by decide +kernel
theorem d_MD_explicit_410 : decode b_MD_explicit 410 = .ok (.iload 8, 2) := by decide +kernel
theorem d_MD_explicit_412 : decode b_MD_explicit 412 = .ok (.bipush 10, 2) := by decide +kernel
theorem d_MD_explicit_414 : decode b_MD_explicit 414 = .ok (.if_icmp .ne 14, 3) := by decide +kernel
theorem d_MD_explicit_417 : decode b_MD_explicit 417 = .ok (.aload_n 0, 1) := by decide +kernel
theorem d_MD_explicit_418 : decode b_MD_explicit 418 = .ok (.getfield 43, 3) := by decide +kernel
theorem d_MD_explicit_421 : decode b_MD_explicit 421 = .ok (.iload 7, 2) := by decide +kernel
theorem d_MD_explicit_423 : decode b_MD_explicit 423 = .ok (.iload_n 3, 1) := by decide +kernel
theorem d_MD_explicit_424 : decode b_MD_explicit 424 = .ok (.iastore, 1) := by decide +kernel
theorem d_MD_explicit_425 : decode b_MD_explicit 425 = .ok (.goto 16, 3) := by decide +kernel
theorem d_MD_explicit_428 : decode b_MD_explicit 428 = .ok (.iload 8, 2) := by decide +kernel
theorem d_MD_explicit_430 : decode b_MD_explicit 430 = .ok (.bipush 9, 2) := by decide +kernel
theorem d_MD_explicit_432 : decode b_MD_explicit 432 = .ok (.if_icmp .eq 9, 3) := by decide +kernel
theorem d_MD_explicit_435 : decode b_MD_explicit 435 = .ok (.aload_n 0, 1) := by decide +kernel
theorem d_MD_explicit_436 : decode b_MD_explicit 436 = .ok (.iload 7, 2) := by decide +kernel
theorem d_MD_explicit_438 : decode b_MD_explicit 438 = .ok (.invokevirtual 148, 3) := by decide +kernel
theorem d_MD_explicit_441 : decode b_MD_explicit 441 = .ok (.iinc 7 1, 3) := by decide +kernel
theorem d_MD_explicit_444 : decode b_MD_explicit 444 = .ok (.goto (-420), 3) := by decide +kernel
theorem d_MD_explicit_447 : decode b_MD_explicit 447 = .ok (.return_, 1) := by decide +kernel
theorem d_MD_leftFrom_0 : decode b_MD_leftFrom 0 = .ok (.iload_n 1, 1) := by decide +kernel
theorem d_MD_leftFrom_1 : decode b_MD_leftFrom 1 = .ok (.istore_n 3, 1) := by decide +kernel
theorem d_MD_leftFrom_2 : decode b_MD_leftFrom 2 = .ok (.iload_n 3, 1) := by decide +kernel
theorem d_MD_leftFrom_3 : decode b_MD_leftFrom 3 = .ok (.iload_n 2, 1) := by decide +kernel
theorem d_MD_leftFrom_4 : decode b_MD_leftFrom 4 = .ok (.if_icmp .ge 18, 3) := by decide +kernel
theorem d_MD_leftFrom_7 : decode b_MD_leftFrom 7 = .ok (.aload_n 0, 1) := by decide +kernel
theorem d_MD_leftFrom_8 : decode b_MD_leftFrom 8 = .ok (.getfield 43, 3) := by decide +kernel
theorem d_MD_leftFrom_11 : decode b_MD_leftFrom 11 = .ok (.iload_n 3, 1) := by decide +kernel
theorem d_MD_leftFrom_12 : decode b_MD_leftFrom 12 = .ok (.iaload, 1) := by decide +kernel
theorem d_MD_leftFrom_13 : decode b_MD_leftFrom 13 = .ok (.ifCond .ge 9, 3) := by decide +kernel
theorem d_MD_leftFrom_16 : decode b_MD_leftFrom 16 = .ok (.iinc 3 1, 3) := by decide +kernel
theorem d_MD_leftFrom_19 : decode b_MD_leftFrom 19 = .ok (.goto (-17), 3) := by decide +kernel
theorem d_MD_leftFrom_22 : decode b_MD_leftFrom 22 = .ok (.iload_n 3, 1) := by decide +kernel
theorem d_MD_leftFrom_23 : decode b_MD_leftFrom 23 = .ok (.ireturn, 1) := by decide +kernel
theorem d_MD_leftBefore_0 : decode b_MD_leftBefore 0 = .ok (.iload_n 1, 1) := by decide +kernel
theorem d_MD_leftBefore_1 : decode b_MD_leftBefore 1 = .ok (.iconst 1, 1) := by decide +kernel
theorem d_MD_leftBefore_2 : decode b_MD_leftBefore 2 = .ok (.isub, 1) := by decide +kernel
theorem d_MD_leftBefore_3 : decode b_MD_leftBefore 3 = .ok (.istore_n 3, 1) := by decide +kernel
theorem d_MD_leftBefore_4 : decode b_MD_leftBefore 4 = .ok (.iload_n 3, 1) := by decide +kernel
theorem d_MD_leftBefore_5 : decode b_MD_leftBefore 5 = .ok (.iload_n 2, 1) := by decide +kernel
theorem d_MD_leftBefore_6 : decode b_MD_leftBefore 6 = .ok (.if_icmp .lt 18, 3) := by decide +kernel
theorem d_MD_leftBefore_9 : decode b_MD_leftBefore 9 = .ok (.aload_n 0, 1) := by decide +kernel
theorem d_MD_leftBefore_10 : decode b_MD_leftBefore 10 = .ok (.getfield 43, 3) := by decide +kernel
theorem d_MD_leftBefore_13 : decode b_MD_leftBefore 13 = .ok (.iload_n 3, 1) := by decide +kernel
theorem d_MD_leftBefore_14 : decode b_MD_leftBefore 14 = .ok (.iaload, 1) := by decide +kernel
theorem d_MD_leftBefore_15 : decode b_MD_leftBefore 15 = .ok (.ifCond .ge 9, 3) := by decide +kernel
theorem d_MD_leftBefore_18 : decode b_MD_leftBefore 18 = .ok (.iinc 3 (-1), 3) := by decide +kernel
theorem d_MD_leftBefore_21 : decode b_MD_leftBefore 21 = .ok (.goto (-17), 3) := by decide +kernel
theorem d_MD_leftBefore_24 : decode b_MD_leftBefore 24 = .ok (.iload_n 3, 1) := by decide +kernel
theorem d_MD_leftBefore_25 : decode b_MD_leftBefore 25 = .ok (.ireturn, 1) := by decide +kernel
theorem d_MD_addRun_0 : decode b_MD_addRun 0 = .ok (.iload_n 1, 1) := by decide +kernel
theorem d_MD_addRun_1 : decode b_MD_addRun 1 = .ok (.istore 4, 2) := by decide +kernel
theorem d_MD_addRun_3 : decode b_MD_addRun 3 = .ok (.aload_n 0, 1) := by decide +kernel
theorem d_MD_addRun_4 : decode b_MD_addRun 4 = .ok (.iload 4, 2) := by decide +kernel
theorem d_MD_addRun_6 : decode b_MD_addRun 6 = .ok (.iload_n 2, 1) := by decide +kernel
theorem d_MD_addRun_7 : decode b_MD_addRun 7 = .ok (.invokevirtual 152, 3) := by decide +kernel
theorem d_MD_addRun_10 : decode b_MD_addRun 10 = .ok (.istore 5, 2) := by decide +kernel
theorem d_MD_addRun_12 : decode b_MD_addRun 12 = .ok (.iload 5, 2) := by decide +kernel
theorem d_MD_addRun_14 : decode b_MD_addRun 14 = .ok (.iload_n 2, 1) := by decide +kernel
theorem d_MD_addRun_15 : decode b_MD_addRun 15 = .ok (.if_icmp .lt 35, 3) := by decide +kernel
theorem d_MD_addRun_18 : decode b_MD_addRun 18 = .ok (.aload_n 0, 1) := by decide +kernel
theorem d_MD_addRun_19 : decode b_MD_addRun 19 = .ok (.getfield 43, 3) := by decide +kernel
theorem d_MD_addRun_22 : decode b_MD_addRun 22 = .ok (.iload 5, 2) := by decide +kernel
theorem d_MD_addRun_24 : decode b_MD_addRun 24 = .ok (.iaload, 1) := by decide +kernel
theorem d_MD_addRun_25 : decode b_MD_addRun 25 = .ok (.aload_n 0, 1) := by decide +kernel
theorem d_MD_addRun_26 : decode b_MD_addRun 26 = .ok (.getfield 43, 3) := by decide +kernel
theorem d_MD_addRun_29 : decode b_MD_addRun 29 = .ok (.iload_n 1, 1) := by decide +kernel
theorem d_MD_addRun_30 : decode b_MD_addRun 30 = .ok (.iaload, 1) := by decide +kernel
theorem d_MD_addRun_31 : decode b_MD_addRun 31 = .ok (.if_icmp .ne 19, 3) := by decide +kernel
theorem d_MD_addRun_34 : decode b_MD_addRun 34 = .ok (.iload 5, 2) := by decide +kernel
theorem d_MD_addRun_36 : decode b_MD_addRun 36 = .ok (.istore 4, 2) := by decide +kernel
theorem d_MD_addRun_38 : decode b_MD_addRun 38 = .ok (.aload_n 0, 1) := by decide +kernel
theorem d_MD_addRun_39 : decode b_MD_addRun 39 = .ok (.iload 4, 2) := by decide +kernel
theorem d_MD_addRun_41 : decode b_MD_addRun 41 = .ok (.iload_n 2, 1) := by decide +kernel
theorem d_MD_addRun_42 : decode b_MD_addRun 42 = .ok (.invokevirtual 152, 3) := by decide +kernel
theorem d_MD_addRun_45 : decode b_MD_addRun 45 = .ok (.istore 5, 2) := by decide +kernel
theorem d_MD_addRun_47 : decode b_MD_addRun 47 = .ok (.goto (-35), 3) := by decide +kernel
theorem d_MD_addRun_50 : decode b_MD_addRun 50 = .ok (.iload 4, 2) := by decide +kernel
theorem d_MD_addRun_52 : decode b_MD_addRun 52 = .ok (.istore 6, 2) := by decide +kernel
theorem d_MD_addRun_54 : decode b_MD_addRun 54 = .ok (.iload 6, 2) := by decide +kernel
theorem d_MD_addRun_56 : decode b_MD_addRun 56 = .ok (.iload_n 3, 1) := by decide +kernel
theorem d_MD_addRun_57 : decode b_MD_addRun 57 = .ok (.if_icmp .ge 54, 3) := by decide +kernel
theorem d_MD_addRun_60 : decode b_MD_addRun 60 = .ok (.aload_n 0, 1) := by decide +kernel
theorem d_MD_addRun_61 : decode b_MD_addRun 61 = .ok (.getfield 43, 3) := by decide +kernel
theorem d_MD_addRun_64 : decode b_MD_addRun 64 = .ok (.iload 6, 2) := by decide +kernel
theorem d_MD_addRun_66 : decode b_MD_addRun 66 = .ok (.iaload, 1) := by decide +kernel
theorem d_MD_addRun_67 : decode b_MD_addRun 67 = .ok (.aload_n 0, 1) := by decide +kernel
theorem d_MD_addRun_68 : decode b_MD_addRun 68 = .ok (.getfield 43, 3) := by decide +kernel
theorem d_MD_addRun_71 : decode b_MD_addRun 71 = .ok (.iload_n 1, 1) := by decide +kernel
theorem d_MD_addRun_72 : decode b_MD_addRun 72 = .ok (.iaload, 1) := by decide +kernel
theorem d_MD_addRun_73 : decode b_MD_addRun 73 = .ok (.if_icmp .ne 38, 3) := by decide +kernel
theorem d_MD_addRun_76 : decode b_MD_addRun 76 = .ok (.aload_n 0, 1) := by decide +kernel
theorem d_MD_addRun_77 : decode b_MD_addRun 77 = .ok (.getfield 62, 3) := by decide +kernel
theorem d_MD_addRun_80 : decode b_MD_addRun 80 = .ok (.aload_n 0, 1) := by decide +kernel
theorem d_MD_addRun_81 : decode b_MD_addRun 81 = .ok (.getfield 155, 3) := by decide +kernel
theorem d_MD_addRun_84 : decode b_MD_addRun 84 = .ok (.iload 6, 2) := by decide +kernel
theorem d_MD_addRun_86 : decode b_MD_addRun 86 = .ok (.iastore, 1) := by decide +kernel
theorem d_MD_addRun_87 : decode b_MD_addRun 87 = .ok (.aload_n 0, 1) := by decide +kernel
theorem d_MD_addRun_88 : decode b_MD_addRun 88 = .ok (.dup, 1) := by decide +kernel
theorem d_MD_addRun_89 : decode b_MD_addRun 89 = .ok (.getfield 155, 3) := by decide +kernel
theorem d_MD_addRun_92 : decode b_MD_addRun 92 = .ok (.iconst 1, 1) := by decide +kernel
theorem d_MD_addRun_93 : decode b_MD_addRun 93 = .ok (.iadd, 1) := by decide +kernel
theorem d_MD_addRun_94 : decode b_MD_addRun 94 = .ok (.putfield 155, 3) := by decide +kernel
theorem d_MD_addRun_97 : decode b_MD_addRun 97 = .ok (.aload_n 0, 1) := by decide +kernel
theorem d_MD_addRun_98 : decode b_MD_addRun 98 = .ok (.iload 6, 2) := by decide +kernel
theorem d_MD_addRun_100 : decode b_MD_addRun 100 = .ok (.iconst 1, 1) := by decide +kernel
theorem d_MD_addRun_101 : decode b_MD_addRun 101 = .ok (.iadd, 1) := by decide +kernel
theorem d_MD_addRun_102 : decode b_MD_addRun 102 = .ok (.iload_n 3, 1) := by decide +kernel
theorem d_MD_addRun_103 : decode b_MD_addRun 103 = .ok (.invokevirtual 158, 3) := by decide +kernel
theorem d_MD_addRun_106 : decode b_MD_addRun 106 = .ok (.istore 6, 2) := by decide +kernel
theorem d_MD_addRun_108 : decode b_MD_addRun 108 = .ok (.goto (-54), 3) := by decide +kernel
theorem d_MD_addRun_111 : decode b_MD_addRun 111 = .ok (.return_, 1) := by decide +kernel
theorem d_MD_directionOf_0 : decode b_MD_directionOf 0 = .ok (.iload_n 0, 1) := by decide +kernel
theorem d_MD_directionOf_1 : decode b_MD_directionOf 1 = .ok (.iconst 2, 1) := by decide +kernel
theorem d_MD_directionOf_2 : decode b_MD_directionOf 2 = .ok (.irem, 1) := by decide +kernel
theorem d_MD_directionOf_3 : decode b_MD_directionOf 3 = .ok (.iconst 1, 1) := by decide +kernel
theorem d_MD_directionOf_4 : decode b_MD_directionOf 4 = .ok (.if_icmp .ne 7, 3) := by decide +kernel
theorem d_MD_directionOf_7 : decode b_MD_directionOf 7 = .ok (.iconst 1, 1) := by decide +kernel
theorem d_MD_directionOf_8 : decode b_MD_directionOf 8 = .ok (.goto 4, 3) := by decide +kernel
theorem d_MD_directionOf_11 : decode b_MD_directionOf 11 = .ok (.iconst 0, 1) := by decide +kernel
theorem d_MD_directionOf_12 : decode b_MD_directionOf 12 = .ok (.ireturn, 1) := by decide +kernel
theorem d_MD_makeSequence_0 : decode b_MD_makeSequence 0 = .ok (.aload_n 0, 1) := by decide +kernel
theorem d_MD_makeSequence_1 : decode b_MD_makeSequence 1 = .ok (.iconst 0, 1) := by decide +kernel
theorem d_MD_makeSequence_2 : decode b_MD_makeSequence 2 = .ok (.putfield 155, 3) := by decide +kernel
theorem d_MD_makeSequence_5 : decode b_MD_makeSequence 5 = .ok (.aload_n 0, 1) := by decide +kernel
theorem d_MD_makeSequence_6 : decode b_MD_makeSequence 6 = .ok (.iload_n 1, 1) := by decide +kernel
theorem d_MD_makeSequence_7 : decode b_MD_makeSequence 7 = .ok (.iload_n 2, 1) := by decide +kernel
theorem d_MD_makeSequence_8 : decode b_MD_makeSequence 8 = .ok (.iload_n 3, 1) := by decide +kernel
theorem d_MD_makeSequence_9 : decode b_MD_makeSequence 9 = .ok (.invokevirtual 161, 3) := by decide +kernel
theorem d_MD_makeSequence_12 : decode b_MD_makeSequence 12 = .ok (.aload_n 0, 1) := by decide +kernel
theorem d_MD_makeSequence_13 : decode b_MD_makeSequence 13 = .ok (.getfield 62, 3) := by decide +kernel
theorem d_MD_makeSequence_16 : decode b_MD_makeSequence 16 = .ok (.aload_n 0, 1) := by decide +kernel
theorem d_MD_makeSequence_17 : decode b_MD_makeSequence 17 = .ok (.getfield 155, 3) := by decide +kernel
theorem d_MD_makeSequence_20 : decode b_MD_makeSequence 20 = .ok (.iconst 1, 1) := by decide +kernel
theorem d_MD_makeSequence_21 : decode b_MD_makeSequence 21 = .ok (.isub, 1) := by decide +kernel
theorem d_MD_makeSequence_22 : decode b_MD_makeSequence 22 = .ok (.iaload, 1) := by decide +kernel
theorem d_MD_makeSequence_23 : decode b_MD_makeSequence 23 = .ok (.istore 5, 2) := by decide +kernel
theorem d_MD_makeSequence_25 : decode b_MD_makeSequence 25 = .ok (.aload_n 0, 1) := by decide +kernel
theorem d_MD_makeSequence_26 : decode b_MD_makeSequence 26 = .ok (.getfield 34, 3) := by decide +kernel
theorem d_MD_makeSequence_29 : decode b_MD_makeSequence 29 = .ok (.iload 5, 2) := by decide +kernel
theorem d_MD_makeSequence_31 : decode b_MD_makeSequence 31 = .ok (.iaload, 1) := by decide +kernel
theorem d_MD_makeSequence_32 : decode b_MD_makeSequence 32 = .ok (.invokestatic 122, 3) := by decide +kernel
theorem d_MD_makeSequence_35 : decode b_MD_makeSequence 35 = .ok (.ifCond .eq 42, 3) := by decide +kernel
theorem d_MD_makeSequence_38 : decode b_MD_makeSequence 38 = .ok (.aload_n 0, 1) := by decide +kernel
theorem d_MD_makeSequence_39 : decode b_MD_makeSequence 39 = .ok (.getfield 46, 3) := by decide +kernel
theorem d_MD_makeSequence_42 : decode b_MD_makeSequence 42 = .ok (.iload 5, 2) := by decide +kernel
theorem d_MD_makeSequence_44 : decode b_MD_makeSequence 44 = .ok (.iaload, 1) := by decide +kernel
theorem d_MD_makeSequence_45 : decode b_MD_makeSequence 45 = .ok (.ifCond .lt 32, 3) := by decide +kernel
theorem d_MD_makeSequence_48 : decode b_MD_makeSequence 48 = .ok (.aload_n 0, 1) := by decide +kernel
theorem d_MD_makeSequence_49 : decode b_MD_makeSequence 49 = .ok (.aload_n 0, 1) := by decide +kernel
theorem d_MD_makeSequence_50 : decode b_MD_makeSequence 50 = .ok (.getfield 46, 3) := by decide +kernel
theorem d_MD_makeSequence_53 : decode b_MD_makeSequence 53 = .ok (.iload 5, 2) := by decide +kernel
theorem d_MD_makeSequence_55 : decode b_MD_makeSequence 55 = .ok (.iaload, 1) := by decide +kernel
theorem d_MD_makeSequence_56 : decode b_MD_makeSequence 56 = .ok (.iload_n 2, 1) := by decide +kernel
theorem d_MD_makeSequence_57 : decode b_MD_makeSequence 57 = .ok (.iload_n 3, 1) := by decide +kernel
theorem d_MD_makeSequence_58 : decode b_MD_makeSequence 58 = .ok (.invokevirtual 161, 3) := by decide +kernel
theorem d_MD_makeSequence_61 : decode b_MD_makeSequence 61 = .ok (.aload_n 0, 1) := by decide +kernel
theorem d_MD_makeSequence_62 : decode b_MD_makeSequence 62 = .ok (.getfield 62, 3) := by decide +kernel
theorem d_MD_makeSequence_65 : decode b_MD_makeSequence 65 = .ok (.aload_n 0, 1) := by decide +kernel
theorem d_MD_makeSequence_66 : decode b_MD_makeSequence 66 = .ok (.getfield 155, 3) := by decide +kernel
theorem d_MD_makeSequence_69 : decode b_MD_makeSequence 69 = .ok (.iconst 1, 1) := by decide +kernel
theorem d_MD_makeSequence_70 : decode b_MD_makeSequence 70 = .ok (.isub, 1) := by decide +kernel
theorem d_MD_makeSequence_71 : decode b_MD_makeSequence 71 = .ok (.iaload, 1) := by decide +kernel
theorem d_MD_makeSequence_72 : decode b_MD_makeSequence 72 = .ok (.istore 5, 2) := by decide +kernel
theorem d_MD_makeSequence_74 : decode b_MD_makeSequence 74 = .ok (.goto (-49), 3) := by decide +kernel
theorem d_MD_makeSequence_77 : decode b_MD_makeSequence 77 = .ok (.aload_n 0, 1) := by decide +kernel
theorem d_MD_makeSequence_78 : decode b_MD_makeSequence 78 = .ok (.aload_n 0, 1) := by decide +kernel
theorem d_MD_makeSequence_79 : decode b_MD_makeSequence 79 = .ok (.getfield 43, 3) := by decide +kernel
theorem d_MD_makeSequence_82 : decode b_MD_makeSequence 82 = .ok (.iload_n 1, 1) := by decide +kernel
theorem d_MD_makeSequence_83 : decode b_MD_makeSequence 83 = .ok (.iaload, 1) := by decide +kernel
theorem d_MD_makeSequence_84 : decode b_MD_makeSequence 84 = .ok (.putfield 165, 3) := by decide +kernel
theorem d_MD_makeSequence_87 : decode b_MD_makeSequence 87 = .ok (.aload_n 0, 1) := by decide +kernel
theorem d_MD_makeSequence_88 : decode b_MD_makeSequence 88 = .ok (.aload_n 0, 1) := by decide +kernel
theorem d_MD_makeSequence_89 : decode b_MD_makeSequence 89 = .ok (.getfield 62, 3) := by decide +kernel
theorem d_MD_makeSequence_92 : decode b_MD_makeSequence 92 = .ok (.iconst 0, 1) := by decide +kernel
theorem d_MD_makeSequence_93 : decode b_MD_makeSequence 93 = .ok (.iaload, 1) := by decide +kernel
theorem d_MD_makeSequence_94 : decode b_MD_makeSequence 94 = .ok (.iload_n 2, 1) := by decide +kernel
theorem d_MD_makeSequence_95 : decode b_MD_makeSequence 95 = .ok (.invokevirtual 152, 3) := by decide +kernel
theorem d_MD_makeSequence_98 : decode b_MD_makeSequence 98 = .ok (.istore 6, 2) := by decide +kernel
theorem d_MD_makeSequence_100 : decode b_MD_makeSequence 100 = .ok (.iload 6, 2) := by decide +kernel
theorem d_MD_makeSequence_102 : decode b_MD_makeSequence 102 = .ok (.iload_n 2, 1) := by decide +kernel
theorem d_MD_makeSequence_103 : decode b_MD_makeSequence 103 = .ok (.if_icmp .ge 8, 3) := by decide +kernel
theorem d_MD_makeSequence_106 : decode b_MD_makeSequence 106 = .ok (.iload 4, 2) := by decide +kernel
theorem d_MD_makeSequence_108 : decode b_MD_makeSequence 108 = .ok (.goto 10, 3) := by decide +kernel
theorem d_MD_makeSequence_111 : decode b_MD_makeSequence 111 = .ok (.aload_n 0, 1) := by decide +kernel
theorem d_MD_makeSequence_112 : decode b_MD_makeSequence 112 = .ok (.getfield 43, 3) := by decide +kernel
theorem d_MD_makeSequence_115 : decode b_MD_makeSequence 115 = .ok (.iload 6, 2) := by decide +kernel
theorem d_MD_makeSequence_117 : decode b_MD_makeSequence 117 = .ok (.iaload, 1) := by decide +kernel
theorem d_MD_makeSequence_118 : decode b_MD_makeSequence 118 = .ok (.istore 7, 2) := by decide +kernel
theorem d_MD_makeSequence_120 : decode b_MD_makeSequence 120 = .ok (.aload_n 0, 1) := by decide +kernel
theorem d_MD_makeSequence_121 : decode b_MD_makeSequence 121 = .ok (.iload 7, 2) := by decide +kernel
theorem d_MD_makeSequence_123 : decode b_MD_makeSequence 123 = .ok (.aload_n 0, 1) := by decide +kernel
theorem d_MD_makeSequence_124 : decode b_MD_makeSequence 124 = .ok (.getfield 165, 3) := by decide +kernel
theorem d_MD_makeSequence_127 : decode b_MD_makeSequence 127 = .ok (.if_icmp .le 8, 3) := by decide +kernel
theorem d_MD_makeSequence_130 : decode b_MD_makeSequence 130 = .ok (.iload 7, 2) := by decide +kernel
theorem d_MD_makeSequence_132 : decode b_MD_makeSequence 132 = .ok (.goto 7, 3) := by decide +kernel
theorem d_MD_makeSequence_135 : decode b_MD_makeSequence 135 = .ok (.aload_n 0, 1) := by decide +kernel
theorem d_MD_makeSequence_136 : decode b_MD_makeSequence 136 = .ok (.getfield 165, 3) := by decide +kernel
theorem d_MD_makeSequence_139 : decode b_MD_makeSequence 139 = .ok (.invokestatic 168, 3) := by decide +kernel
theorem d_MD_makeSequence_142 : decode b_MD_makeSequence 142 = .ok (.putfield 171, 3) := by decide +kernel
theorem d_MD_makeSequence_145 : decode b_MD_makeSequence 145 = .ok (.aload_n 0, 1) := by decide +kernel
theorem d_MD_makeSequence_146 : decode b_MD_makeSequence 146 = .ok (.iload 5, 2) := by decide +kernel
theorem d_MD_makeSequence_148 : decode b_MD_makeSequence 148 = .ok (.iconst 1, 1) := by decide +kernel
theorem d_MD_makeSequence_149 : decode b_MD_makeSequence 149 = .ok (.iadd, 1) := by decide +kernel
theorem d_MD_makeSequence_150 : decode b_MD_makeSequence 150 = .ok (.iload_n 3, 1) := by decide +kernel
theorem d_MD_makeSequence_151 : decode b_MD_makeSequence 151 = .ok (.invokevirtual 158, 3) := by decide +kernel
theorem d_MD_makeSequence_154 : decode b_MD_makeSequence 154 = .ok (.istore 8, 2) := by decide +kernel
theorem d_MD_makeSequence_156 : decode b_MD_makeSequence 156 = .ok (.aload_n 0, 1) := by decide +kernel
theorem d_MD_makeSequence_157 : decode b_MD_makeSequence 157 = .ok (.getfield 34, 3) := by decide +kernel
theorem d_MD_makeSequence_160 : decode b_MD_makeSequence 160 = .ok (.iload 5, 2) := by decide +kernel
theorem d_MD_makeSequence_162 : decode b_MD_makeSequence 162 = .ok (.iaload, 1) := by decide +kernel
theorem d_MD_makeSequence_163 : decode b_MD_makeSequence 163 = .ok (.invokestatic 122, 3) := by decide +kernel
theorem d_MD_makeSequence_166 : decode b_MD_makeSequence 166 = .ok (.istore 9, 2) := by decide +kernel
theorem d_MD_makeSequence_168 : decode b_MD_makeSequence 168 = .ok (.iload 8, 2) := by decide +kernel
theorem d_MD_makeSequence_170 : decode b_MD_makeSequence 170 = .ok (.iload_n 3, 1) := by decide +kernel
theorem d_MD_makeSequence_171 : decode b_MD_makeSequence 171 = .ok (.if_icmp .ge 8, 3) := by decide +kernel
theorem d_MD_makeSequence_174 : decode b_MD_makeSequence 174 = .ok (.iload 9, 2) := by decide +kernel
theorem d_MD_makeSequence_176 : decode b_MD_makeSequence 176 = .ok (.ifCond .eq 8, 3) := by decide +kernel
theorem d_MD_makeSequence_179 : decode b_MD_makeSequence 179 = .ok (.iload 4, 2) := by decide +kernel
theorem d_MD_makeSequence_181 : decode b_MD_makeSequence 181 = .ok (.goto 10, 3) := by decide +kernel
theorem d_MD_makeSequence_184 : decode b_MD_makeSequence 184 = .ok (.aload_n 0, 1) := by decide +kernel
theorem d_MD_makeSequence_185 : decode b_MD_makeSequence 185 = .ok (.getfield 43, 3) := by decide +kernel
theorem d_MD_makeSequence_188 : decode b_MD_makeSequence 188 = .ok (.iload 8, 2) := by decide +kernel
theorem d_MD_makeSequence_190 : decode b_MD_makeSequence 190 = .ok (.iaload, 1) := by decide +kernel
theorem d_MD_makeSequence_191 : decode b_MD_makeSequence 191 = .ok (.istore 7, 2) := by decide +kernel
theorem d_MD_makeSequence_193 : decode b_MD_makeSequence 193 = .ok (.aload_n 0, 1) := by decide +kernel
theorem d_MD_makeSequence_194 : decode b_MD_makeSequence 194 = .ok (.iload 7, 2) := by decide +kernel
theorem d_MD_makeSequence_196 : decode b_MD_makeSequence 196 = .ok (.aload_n 0, 1) := by decide +kernel
theorem d_MD_makeSequence_197 : decode b_MD_makeSequence 197 = .ok (.getfield 165, 3) := by decide +kernel
theorem d_MD_makeSequence_200 : decode b_MD_makeSequence 200 = .ok (.if_icmp .le 8, 3) := by decide +kernel
theorem d_MD_makeSequence_203 : decode b_MD_makeSequence 203 = .ok (.iload 7, 2) := by decide +kernel
theorem d_MD_makeSequence_205 : decode b_MD_makeSequence 205 = .ok (.goto 7, 3) := by decide +kernel
theorem d_MD_makeSequence_208 : decode b_MD_makeSequence 208 = .ok (.aload_n 0, 1) := by decide +kernel
theorem d_MD_makeSequence_209 : decode b_MD_makeSequence 209 = .ok (.getfield 165, 3) := by decide +kernel
theorem d_MD_makeSequence_212 : decode b_MD_makeSequence 212 = .ok (.invokestatic 168, 3) := by decide +kernel
theorem d_MD_makeSequence_215 : decode b_MD_makeSequence 215 = .ok (.putfield 174, 3) := by decide +kernel
theorem d_MD_makeSequence_218 : decode b_MD_makeSequence 218 = .ok (.return_, 1) := by decide +kernel
theorem d_MD_kindAt_0 : decode b_MD_kindAt 0 = .ok (.iload_n 1, 1) := by decide +kernel
theorem d_MD_kindAt_1 : decode b_MD_kindAt 1 = .ok (.ifCond .ge 10, 3) := by decide +kernel
theorem d_MD_kindAt_4 : decode b_MD_kindAt 4 = .ok (.aload_n 0, 1) := by decide +kernel
theorem d_MD_kindAt_5 : decode b_MD_kindAt 5 = .ok (.getfield 171, 3) := by decide +kernel
theorem d_MD_kindAt_8 : decode b_MD_kindAt 8 = .ok (.goto 29, 3) := by decide +kernel
theorem d_MD_kindAt_11 : decode b_MD_kindAt 11 = .ok (.iload_n 1, 1) := by decide +kernel
theorem d_MD_kindAt_12 : decode b_MD_kindAt 12 = .ok (.aload_n 0, 1) := by decide +kernel
theorem d_MD_kindAt_13 : decode b_MD_kindAt 13 = .ok (.getfield 155, 3) := by decide +kernel
theorem d_MD_kindAt_16 : decode b_MD_kindAt 16 = .ok (.if_icmp .lt 10, 3) := by decide +kernel
theorem d_MD_kindAt_19 : decode b_MD_kindAt 19 = .ok (.aload_n 0, 1) := by decide +kernel
theorem d_MD_kindAt_20 : decode b_MD_kindAt 20 = .ok (.getfield 174, 3) := by decide +kernel
theorem d_MD_kindAt_23 : decode b_MD_kindAt 23 = .ok (.goto 14, 3) := by decide +kernel
theorem d_MD_kindAt_26 : decode b_MD_kindAt 26 = .ok (.aload_n 0, 1) := by decide +kernel
theorem d_MD_kindAt_27 : decode b_MD_kindAt 27 = .ok (.getfield 37, 3) := by decide +kernel
theorem d_MD_kindAt_30 : decode b_MD_kindAt 30 = .ok (.aload_n 0, 1) := by decide +kernel
theorem d_MD_kindAt_31 : decode b_MD_kindAt 31 = .ok (.getfield 62, 3) := by decide +kernel
theorem d_MD_kindAt_34 : decode b_MD_kindAt 34 = .ok (.iload_n 1, 1) := by decide +kernel
theorem d_MD_kindAt_35 : decode b_MD_kindAt 35 = .ok (.iaload, 1) := by decide +kernel
theorem d_MD_kindAt_36 : decode b_MD_kindAt 36 = .ok (.iaload, 1) := by decide +kernel
theorem d_MD_kindAt_37 : decode b_MD_kindAt 37 = .ok (.ireturn, 1) := by decide +kernel
theorem d_MD_put_0 : decode b_MD_put 0 = .ok (.aload_n 0, 1) := by decide +kernel
theorem d_MD_put_1 : decode b_MD_put 1 = .ok (.getfield 37, 3) := by decide +kernel
theorem d_MD_put_4 : decode b_MD_put 4 = .ok (.aload_n 0, 1) := by decide +kernel
theorem d_MD_put_5 : decode b_MD_put 5 = .ok (.getfield 62, 3) := by decide +kernel
theorem d_MD_put_8 : decode b_MD_put 8 = .ok (.iload_n 1, 1) := by decide +kernel
theorem d_MD_put_9 : decode b_MD_put 9 = .ok (.iaload, 1) := by decide +kernel
theorem d_MD_put_10 : decode b_MD_put 10 = .ok (.iload_n 2, 1) := by decide +kernel
theorem d_MD_put_11 : decode b_MD_put 11 = .ok (.iastore, 1) := by decide +kernel
theorem d_MD_put_12 : decode b_MD_put 12 = .ok (.return_, 1) := by decide +kernel
theorem d_MD_strongBefore_0 : decode b_MD_strongBefore 0 = .ok (.iload_n 1, 1) := by decide +kernel
theorem d_MD_strongBefore_1 : decode b_MD_strongBefore 1 = .ok (.iconst 1, 1) := by decide +kernel
theorem d_MD_strongBefore_2 : decode b_MD_strongBefore 2 = .ok (.isub, 1) := by decide +kernel
theorem d_MD_strongBefore_3 : decode b_MD_strongBefore 3 = .ok (.istore_n 2, 1) := by decide +kernel
theorem d_MD_strongBefore_4 : decode b_MD_strongBefore 4 = .ok (.iload_n 2, 1) := by decide +kernel
theorem d_MD_strongBefore_5 : decode b_MD_strongBefore 5 = .ok (.ifCond .lt 35, 3) := by decide +kernel
theorem d_MD_strongBefore_8 : decode b_MD_strongBefore 8 = .ok (.aload_n 0, 1) := by decide +kernel
theorem d_MD_strongBefore_9 : decode b_MD_strongBefore 9 = .ok (.iload_n 2, 1) := by decide +kernel
theorem d_MD_strongBefore_10 : decode b_MD_strongBefore 10 = .ok (.invokevirtual 177, 3) := by decide +kernel
theorem d_MD_strongBefore_13 : decode b_MD_strongBefore 13 = .ok (.ifCond .eq 27, 3) := by decide +kernel
theorem d_MD_strongBefore_16 : decode b_MD_strongBefore 16 = .ok (.aload_n 0, 1) := by decide +kernel
theorem d_MD_strongBefore_17 : decode b_MD_strongBefore 17 = .ok (.iload_n 2, 1) := by decide +kernel
theorem d_MD_strongBefore_18 : decode b_MD_strongBefore 18 = .ok (.invokevirtual 177, 3) := by decide +kernel
theorem d_MD_strongBefore_21 : decode b_MD_strongBefore 21 = .ok (.iconst 1, 1) := by decide +kernel
theorem d_MD_strongBefore_22 : decode b_MD_strongBefore 22 = .ok (.if_icmp .eq 18, 3) := by decide +kernel
theorem d_MD_strongBefore_25 : decode b_MD_strongBefore 25 = .ok (.aload_n 0, 1) := by decide +kernel
theorem d_MD_strongBefore_26 : decode b_MD_strongBefore 26 = .ok (.iload_n 2, 1) := by decide +kernel
theorem d_MD_strongBefore_27 : decode b_MD_strongBefore 27 = .ok (.invokevirtual 177, 3) := by decide +kernel
theorem d_MD_strongBefore_30 : decode b_MD_strongBefore 30 = .ok (.iconst 2, 1) := by decide +kernel
theorem d_MD_strongBefore_31 : decode b_MD_strongBefore 31 = .ok (.if_icmp .eq 9, 3) := by decide +kernel
theorem d_MD_strongBefore_34 : decode b_MD_strongBefore 34 = .ok (.iinc 2 (-1), 3) := by decide +kernel
theorem d_MD_strongBefore_37 : decode b_MD_strongBefore 37 = .ok (.goto (-33), 3) := by decide +kernel
theorem d_MD_strongBefore_40 : decode b_MD_strongBefore 40 = .ok (.aload_n 0, 1) := by decide +kernel
theorem d_MD_strongBefore_41 : decode b_MD_strongBefore 41 = .ok (.iload_n 2, 1) := by decide +kernel
theorem d_MD_strongBefore_42 : decode b_MD_strongBefore 42 = .ok (.invokevirtual 177, 3) := by decide +kernel
theorem d_MD_strongBefore_45 : decode b_MD_strongBefore 45 = .ok (.ireturn, 1) := by decide +kernel
theorem d_MD_isBesideNumber_0 : decode b_MD_isBesideNumber 0 = .ok (.iload_n 1, 1) := by decide +kernel
theorem d_MD_isBesideNumber_1 : decode b_MD_isBesideNumber 1 = .ok (.istore_n 2, 1) := by decide +kernel
theorem d_MD_isBesideNumber_2 : decode b_MD_isBesideNumber 2 = .ok (.iload_n 2, 1) := by decide +kernel
theorem d_MD_isBesideNumber_3 : decode b_MD_isBesideNumber 3 = .ok (.ifCond .lt 18, 3) := by decide +kernel
theorem d_MD_isBesideNumber_6 : decode b_MD_isBesideNumber 6 = .ok (.aload_n 0, 1) := by decide +kernel
theorem d_MD_isBesideNumber_7 : decode b_MD_isBesideNumber 7 = .ok (.iload_n 2, 1) := by decide +kernel
theorem d_MD_isBesideNumber_8 : decode b_MD_isBesideNumber 8 = .ok (.invokevirtual 177, 3) := by decide +kernel
theorem d_MD_isBesideNumber_11 : decode b_MD_isBesideNumber 11 = .ok (.iconst 5, 1) := by decide +kernel
theorem d_MD_isBesideNumber_12 : decode b_MD_isBesideNumber 12 = .ok (.if_icmp .ne 9, 3) := by decide +kernel
theorem d_MD_isBesideNumber_15 : decode b_MD_isBesideNumber 15 = .ok (.iinc 2 (-1), 3) := by decide +kernel
theorem d_MD_isBesideNumber_18 : decode b_MD_isBesideNumber 18 = .ok (.goto (-16), 3) := by decide +kernel
theorem d_MD_isBesideNumber_21 : decode b_MD_isBesideNumber 21 = .ok (.iload_n 1, 1) := by decide +kernel
theorem d_MD_isBesideNumber_22 : decode b_MD_isBesideNumber 22 = .ok (.istore_n 3, 1) := by decide +kernel
theorem d_MD_isBesideNumber_23 : decode b_MD_isBesideNumber 23 = .ok (.iload_n 3, 1) := by decide +kernel
theorem d_MD_isBesideNumber_24 : decode b_MD_isBesideNumber 24 = .ok (.aload_n 0, 1) := by decide +kernel
theorem d_MD_isBesideNumber_25 : decode b_MD_isBesideNumber 25 = .ok (.getfield 155, 3) := by decide +kernel
theorem d_MD_isBesideNumber_28 : decode b_MD_isBesideNumber 28 = .ok (.if_icmp .ge 18, 3) := by decide +kernel
theorem d_MD_isBesideNumber_31 : decode b_MD_isBesideNumber 31 = .ok (.aload_n 0, 1) := by decide +kernel
theorem d_MD_isBesideNumber_32 : decode b_MD_isBesideNumber 32 = .ok (.iload_n 3, 1) := by decide +kernel
theorem d_MD_isBesideNumber_33 : decode b_MD_isBesideNumber 33 = .ok (.invokevirtual 177, 3) := by decide +kernel
theorem d_MD_isBesideNumber_36 : decode b_MD_isBesideNumber 36 = .ok (.iconst 5, 1) := by decide +kernel
theorem d_MD_isBesideNumber_37 : decode b_MD_isBesideNumber 37 = .ok (.if_icmp .ne 9, 3) := by decide +kernel
theorem d_MD_isBesideNumber_40 : decode b_MD_isBesideNumber 40 = .ok (.iinc 3 1, 3) := by decide +kernel
theorem d_MD_isBesideNumber_43 : decode b_MD_isBesideNumber 43 = .ok (.goto (-20), 3) := by decide +kernel
theorem d_MD_isBesideNumber_46 : decode b_MD_isBesideNumber 46 = .ok (.iload_n 2, 1) := by decide +kernel
theorem d_MD_isBesideNumber_47 : decode b_MD_isBesideNumber 47 = .ok (.ifCond .lt 12, 3) := by decide +kernel
theorem d_MD_isBesideNumber_50 : decode b_MD_isBesideNumber 50 = .ok (.aload_n 0, 1) := by decide +kernel
theorem d_MD_isBesideNumber_51 : decode b_MD_isBesideNumber 51 = .ok (.iload_n 2, 1) := by decide +kernel
theorem d_MD_isBesideNumber_52 : decode b_MD_isBesideNumber 52 = .ok (.invokevirtual 177, 3) := by decide +kernel
theorem d_MD_isBesideNumber_55 : decode b_MD_isBesideNumber 55 = .ok (.iconst 3, 1) := by decide +kernel
theorem d_MD_isBesideNumber_56 : decode b_MD_isBesideNumber 56 = .ok (.if_icmp .eq 20, 3) := by decide +kernel
theorem d_MD_isBesideNumber_59 : decode b_MD_isBesideNumber 59 = .ok (.iload_n 3, 1) := by decide +kernel
theorem d_MD_isBesideNumber_60 : decode b_MD_isBesideNumber 60 = .ok (.aload_n 0, 1) := by decide +kernel
theorem d_MD_isBesideNumber_61 : decode b_MD_isBesideNumber 61 = .ok (.getfield 155, 3) := by decide +kernel
theorem d_MD_isBesideNumber_64 : decode b_MD_isBesideNumber 64 = .ok (.if_icmp .ge 16, 3) := by decide +kernel
theorem d_MD_isBesideNumber_67 : decode b_MD_isBesideNumber 67 = .ok (.aload_n 0, 1) := by decide +kernel
theorem d_MD_isBesideNumber_68 : decode b_MD_isBesideNumber 68 = .ok (.iload_n 3, 1) := by decide +kernel
theorem d_MD_isBesideNumber_69 : decode b_MD_isBesideNumber 69 = .ok (.invokevirtual 177, 3) := by decide +kernel
theorem d_MD_isBesideNumber_72 : decode b_MD_isBesideNumber 72 = .ok (.iconst 3, 1) := by decide +kernel
theorem d_MD_isBesideNumber_73 : decode b_MD_isBesideNumber 73 = .ok (.if_icmp .ne 7, 3) := by decide +kernel
theorem d_MD_isBesideNumber_76 : decode b_MD_isBesideNumber 76 = .ok (.iconst 1, 1) := by decide +kernel
theorem d_MD_isBesideNumber_77 : decode b_MD_isBesideNumber 77 = .ok (.goto 4, 3) := by decide +kernel
theorem d_MD_isBesideNumber_80 : decode b_MD_isBesideNumber 80 = .ok (.iconst 0, 1) := by decide +kernel
theorem d_MD_isBesideNumber_81 : decode b_MD_isBesideNumber 81 = .ok (.ireturn, 1) := by decide +kernel
theorem d_MD_weak_0 : decode b_MD_weak 0 = .ok (.iconst 0, 1) := by decide +kernel
theorem d_MD_weak_1 : decode b_MD_weak 1 = .ok (.istore_n 1, 1) := by decide +kernel
theorem d_MD_weak_2 : decode b_MD_weak 2 = .ok (.iload_n 1, 1) := by decide +kernel
theorem d_MD_weak_3 : decode b_MD_weak 3 = .ok (.aload_n 0, 1) := by decide +kernel
theorem d_MD_weak_4 : decode b_MD_weak 4 = .ok (.getfield 155, 3) := by decide +kernel
theorem d_MD_weak_7 : decode b_MD_weak 7 = .ok (.if_icmp .ge 31, 3) := by decide +kernel
theorem d_MD_weak_10 : decode b_MD_weak 10 = .ok (.aload_n 0, 1) := by decide +kernel
theorem d_MD_weak_11 : decode b_MD_weak 11 = .ok (.getfield 40, 3) := by decide +kernel
theorem d_MD_weak_14 : decode b_MD_weak 14 = .ok (.aload_n 0, 1) := by decide +kernel
theorem d_MD_weak_15 : decode b_MD_weak 15 = .ok (.getfield 62, 3) := by decide +kernel
theorem d_MD_weak_18 : decode b_MD_weak 18 = .ok (.iload_n 1, 1) := by decide +kernel
theorem d_MD_weak_19 : decode b_MD_weak 19 = .ok (.iaload, 1) := by decide +kernel
theorem d_MD_weak_20 : decode b_MD_weak 20 = .ok (.aload_n 0, 1) := by decide +kernel
theorem d_MD_weak_21 : decode b_MD_weak 21 = .ok (.getfield 37, 3) := by decide +kernel
theorem d_MD_weak_24 : decode b_MD_weak 24 = .ok (.aload_n 0, 1) := by decide +kernel
theorem d_MD_weak_25 : decode b_MD_weak 25 = .ok (.getfield 62, 3) := by decide +kernel
theorem d_MD_weak_28 : decode b_MD_weak 28 = .ok (.iload_n 1, 1) := by decide +kernel
theorem d_MD_weak_29 : decode b_MD_weak 29 = .ok (.iaload, 1) := by decide +kernel
theorem d_MD_weak_30 : decode b_MD_weak 30 = .ok (.iaload, 1) := by decide +kernel
theorem d_MD_weak_31 : decode b_MD_weak 31 = .ok (.iastore, 1) := by decide +kernel
theorem d_MD_weak_32 : decode b_MD_weak 32 = .ok (.iinc 1 1, 3) := by decide +kernel
theorem d_MD_weak_35 : decode b_MD_weak 35 = .ok (.goto (-33), 3) := by decide +kernel
theorem d_MD_weak_38 : decode b_MD_weak 38 = .ok (.iconst 0, 1) := by decide +kernel
theorem d_MD_weak_39 : decode b_MD_weak 39 = .ok (.istore_n 1, 1) := by decide +kernel
theorem d_MD_weak_40 : decode b_MD_weak 40 = .ok (.iload_n 1, 1) := by decide +kernel
theorem d_MD_weak_41 : decode b_MD_weak 41 = .ok (.aload_n 0, 1) := by decide +kernel
theorem d_MD_weak_42 : decode b_MD_weak 42 = .ok (.getfield 155, 3) := by decide +kernel
theorem d_MD_weak_45 : decode b_MD_weak 45 = .ok (.if_icmp .ge 85, 3) := by decide +kernel
theorem d_MD_weak_48 : decode b_MD_weak 48 = .ok (.aload_n 0, 1) := by decide +kernel
theorem d_MD_weak_49 : decode b_MD_weak 49 = .ok (.iload_n 1, 1) := by decide +kernel
theorem d_MD_weak_50 : decode b_MD_weak 50 = .ok (.invokevirtual 177, 3) := by decide +kernel
theorem d_MD_weak_53 : decode b_MD_weak 53 = .ok (.bipush 8, 2) := by decide +kernel
theorem d_MD_weak_55 : decode b_MD_weak 55 = .ok (.if_icmp .ne 69, 3) := by decide +kernel
theorem d_MD_weak_58 : decode b_MD_weak 58 = .ok (.iload_n 1, 1) := by decide +kernel
theorem d_MD_weak_59 : decode b_MD_weak 59 = .ok (.ifCond .ne 7, 3) := by decide +kernel
theorem d_MD_weak_62 : decode b_MD_weak 62 = .ok (.iconst 0, 1) := by decide +kernel
theorem d_MD_weak_63 : decode b_MD_weak 63 = .ok (.goto 16, 3) := by decide +kernel
theorem d_MD_weak_66 : decode b_MD_weak 66 = .ok (.aload_n 0, 1) := by decide +kernel
theorem d_MD_weak_67 : decode b_MD_weak 67 = .ok (.getfield 34, 3) := by decide +kernel
theorem d_MD_weak_70 : decode b_MD_weak 70 = .ok (.aload_n 0, 1) := by decide +kernel
theorem d_MD_weak_71 : decode b_MD_weak 71 = .ok (.getfield 62, 3) := by decide +kernel
theorem d_MD_weak_74 : decode b_MD_weak 74 = .ok (.iload_n 1, 1) := by decide +kernel
theorem d_MD_weak_75 : decode b_MD_weak 75 = .ok (.iconst 1, 1) := by decide +kernel
theorem d_MD_weak_76 : decode b_MD_weak 76 = .ok (.isub, 1) := by decide +kernel
theorem d_MD_weak_77 : decode b_MD_weak 77 = .ok (.iaload, 1) := by decide +kernel
theorem d_MD_weak_78 : decode b_MD_weak 78 = .ok (.iaload, 1) := by decide +kernel
theorem d_MD_weak_79 : decode b_MD_weak 79 = .ok (.istore_n 2, 1) := by decide +kernel
theorem d_MD_weak_80 : decode b_MD_weak 80 = .ok (.iload_n 1, 1) := by decide +kernel
theorem d_MD_weak_81 : decode b_MD_weak 81 = .ok (.ifCond .le 20, 3) := by decide +kernel
theorem d_MD_weak_84 : decode b_MD_weak 84 = .ok (.iload_n 2, 1) := by decide +kernel
theorem d_MD_weak_85 : decode b_MD_weak 85 = .ok (.invokestatic 122, 3) := by decide +kernel
theorem d_MD_weak_88 : decode b_MD_weak 88 = .ok (.ifCond .ne 9, 3) := by decide +kernel
theorem d_MD_weak_91 : decode b_MD_weak 91 = .ok (.iload_n 2, 1) := by decide +kernel
theorem d_MD_weak_92 : decode b_MD_weak 92 = .ok (.bipush 22, 2) := by decide +kernel
theorem d_MD_weak_94 : decode b_MD_weak 94 = .ok (.if_icmp .ne 7, 3) := by decide +kernel
theorem d_MD_weak_97 : decode b_MD_weak 97 = .ok (.iconst 1, 1) := by decide +kernel
theorem d_MD_weak_98 : decode b_MD_weak 98 = .ok (.goto 4, 3) := by decide +kernel
theorem d_MD_weak_101 : decode b_MD_weak 101 = .ok (.iconst 0, 1) := by decide +kernel
theorem d_MD_weak_102 : decode b_MD_weak 102 = .ok (.istore_n 3, 1) := by decide +kernel
theorem d_MD_weak_103 : decode b_MD_weak 103 = .ok (.aload_n 0, 1) := by decide +kernel
theorem d_MD_weak_104 : decode b_MD_weak 104 = .ok (.iload_n 1, 1) := by decide +kernel
theorem d_MD_weak_105 : decode b_MD_weak 105 = .ok (.iload_n 3, 1) := by decide +kernel
theorem d_MD_weak_106 : decode b_MD_weak 106 = .ok (.ifCond .eq 8, 3) := by decide +kernel
theorem d_MD_weak_109 : decode b_MD_weak 109 = .ok (.bipush 13, 2) := by decide +kernel
theorem d_MD_weak_111 : decode b_MD_weak 111 = .ok (.goto 10, 3) := by decide +kernel
theorem d_MD_weak_114 : decode b_MD_weak 114 = .ok (.aload_n 0, 1) := by decide +kernel
theorem d_MD_weak_115 : decode b_MD_weak 115 = .ok (.iload_n 1, 1) := by decide +kernel
theorem d_MD_weak_116 : decode b_MD_weak 116 = .ok (.iconst 1, 1) := by decide +kernel
theorem d_MD_weak_117 : decode b_MD_weak 117 = .ok (.isub, 1) := by decide +kernel
theorem d_MD_weak_118 : decode b_MD_weak 118 = .ok (.invokevirtual 177, 3) := by decide +kernel
theorem d_MD_weak_121 : decode b_MD_weak 121 = .ok (.invokevirtual 180, 3) := by decide +kernel
theorem d_MD_weak_124 : decode b_MD_weak 124 = .ok (.iinc 1 1, 3) := by decide +kernel
theorem d_MD_weak_127 : decode b_MD_weak 127 = .ok (.goto (-87), 3) := by decide +kernel
theorem d_MD_weak_130 : decode b_MD_weak 130 = .ok (.iconst 0, 1) := by decide +kernel
theorem d_MD_weak_131 : decode b_MD_weak 131 = .ok (.istore_n 1, 1) := by decide +kernel
theorem d_MD_weak_132 : decode b_MD_weak 132 = .ok (.iload_n 1, 1) := by decide +kernel
theorem d_MD_weak_133 : decode b_MD_weak 133 = .ok (.aload_n 0, 1) := by decide +kernel
theorem d_MD_weak_134 : decode b_MD_weak 134 = .ok (.getfield 155, 3) := by decide +kernel
theorem d_MD_weak_137 : decode b_MD_weak 137 = .ok (.if_icmp .ge 34, 3) := by decide +kernel
theorem d_MD_weak_140 : decode b_MD_weak 140 = .ok (.aload_n 0, 1) := by decide +kernel
theorem d_MD_weak_141 : decode b_MD_weak 141 = .ok (.iload_n 1, 1) := by decide +kernel
theorem d_MD_weak_142 : decode b_MD_weak 142 = .ok (.invokevirtual 177, 3) := by decide +kernel
theorem d_MD_weak_145 : decode b_MD_weak 145 = .ok (.iconst 3, 1) := by decide +kernel
theorem d_MD_weak_146 : decode b_MD_weak 146 = .ok (.if_icmp .ne 19, 3) := by decide +kernel
theorem d_MD_weak_149 : decode b_MD_weak 149 = .ok (.aload_n 0, 1) := by decide +kernel
theorem d_MD_weak_150 : decode b_MD_weak 150 = .ok (.iload_n 1, 1) := by decide +kernel
theorem d_MD_weak_151 : decode b_MD_weak 151 = .ok (.invokevirtual 184, 3) := by decide +kernel
theorem d_MD_weak_154 : decode b_MD_weak 154 = .ok (.iconst 2, 1) := by decide +kernel
theorem d_MD_weak_155 : decode b_MD_weak 155 = .ok (.if_icmp .ne 10, 3) := by decide +kernel
theorem d_MD_weak_158 : decode b_MD_weak 158 = .ok (.aload_n 0, 1) := by decide +kernel
theorem d_MD_weak_159 : decode b_MD_weak 159 = .ok (.iload_n 1, 1) := by decide +kernel
theorem d_MD_weak_160 : decode b_MD_weak 160 = .ok (.bipush 6, 2) := by decide +kernel
theorem d_MD_weak_162 : decode b_MD_weak 162 = .ok (.invokevirtual 180, 3) := by decide +kernel
theorem d_MD_weak_165 : decode b_MD_weak 165 = .ok (.iinc 1 1, 3) := by decide +kernel
theorem d_MD_weak_168 : decode b_MD_weak 168 = .ok (.goto (-36), 3) := by decide +kernel
theorem d_MD_weak_171 : decode b_MD_weak 171 = .ok (.iconst 0, 1) := by decide +kernel
theorem d_MD_weak_172 : decode b_MD_weak 172 = .ok (.istore_n 1, 1) := by decide +kernel
theorem d_MD_weak_173 : decode b_MD_weak 173 = .ok (.iload_n 1, 1) := by decide +kernel
theorem d_MD_weak_174 : decode b_MD_weak 174 = .ok (.aload_n 0, 1) := by decide +kernel
theorem d_MD_weak_175 : decode b_MD_weak 175 = .ok (.getfield 155, 3) := by decide +kernel
theorem d_MD_weak_178 : decode b_MD_weak 178 = .ok (.if_icmp .ge 24, 3) := by decide +kernel
theorem d_MD_weak_181 : decode b_MD_weak 181 = .ok (.aload_n 0, 1) := by decide +kernel
theorem d_MD_weak_182 : decode b_MD_weak 182 = .ok (.iload_n 1, 1) := by decide +kernel
theorem d_MD_weak_183 : decode b_MD_weak 183 = .ok (.invokevirtual 177, 3) := by decide +kernel
theorem d_MD_weak_186 : decode b_MD_weak 186 = .ok (.iconst 2, 1) := by decide +kernel
theorem d_MD_weak_187 : decode b_MD_weak 187 = .ok (.if_icmp .ne 9, 3) := by decide +kernel
theorem d_MD_weak_190 : decode b_MD_weak 190 = .ok (.aload_n 0, 1) := by decide +kernel
theorem d_MD_weak_191 : decode b_MD_weak 191 = .ok (.iload_n 1, 1) := by decide +kernel
theorem d_MD_weak_192 : decode b_MD_weak 192 = .ok (.iconst 1, 1) := by decide +kernel
theorem d_MD_weak_193 : decode b_MD_weak 193 = .ok (.invokevirtual 180, 3) := by decide +kernel
theorem d_MD_weak_196 : decode b_MD_weak 196 = .ok (.iinc 1 1, 3) := by decide +kernel
theorem d_MD_weak_199 : decode b_MD_weak 199 = .ok (.goto (-26), 3) := by decide +kernel
theorem d_MD_weak_202 : decode b_MD_weak 202 = .ok (.iconst 1, 1) := by decide +kernel
theorem d_MD_weak_203 : decode b_MD_weak 203 = .ok (.istore_n 1, 1) := by decide +kernel
theorem d_MD_weak_204 : decode b_MD_weak 204 = .ok (.iload_n 1, 1) := by decide +kernel
theorem d_MD_weak_205 : decode b_MD_weak 205 = .ok (.aload_n 0, 1) := by decide +kernel
theorem d_MD_weak_206 : decode b_MD_weak 206 = .ok (.getfield 155, 3) := by decide +kernel
theorem d_MD_weak_209 : decode b_MD_weak 209 = .ok (.iconst 1, 1) := by decide +kernel
theorem d_MD_weak_210 : decode b_MD_weak 210 = .ok (.isub, 1) := by decide +kernel
theorem d_MD_weak_211 : decode b_MD_weak 211 = .ok (.if_icmp .ge 71, 3) := by decide +kernel
theorem d_MD_weak_214 : decode b_MD_weak 214 = .ok (.aload_n 0, 1) := by decide +kernel
theorem d_MD_weak_215 : decode b_MD_weak 215 = .ok (.iload_n 1, 1) := by decide +kernel
theorem d_MD_weak_216 : decode b_MD_weak 216 = .ok (.invokevirtual 177, 3) := by decide +kernel
theorem d_MD_weak_219 : decode b_MD_weak 219 = .ok (.istore_n 2, 1) := by decide +kernel
theorem d_MD_weak_220 : decode b_MD_weak 220 = .ok (.aload_n 0, 1) := by decide +kernel
theorem d_MD_weak_221 : decode b_MD_weak 221 = .ok (.iload_n 1, 1) := by decide +kernel
theorem d_MD_weak_222 : decode b_MD_weak 222 = .ok (.iconst 1, 1) := by decide +kernel
theorem d_MD_weak_223 : decode b_MD_weak 223 = .ok (.isub, 1) := by decide +kernel
theorem d_MD_weak_224 : decode b_MD_weak 224 = .ok (.invokevirtual 177, 3) := by decide +kernel
theorem d_MD_weak_227 : decode b_MD_weak 227 = .ok (.istore_n 3, 1) := by decide +kernel
theorem d_MD_weak_228 : decode b_MD_weak 228 = .ok (.aload_n 0, 1) := by decide +kernel
theorem d_MD_weak_229 : decode b_MD_weak 229 = .ok (.iload_n 1, 1) := by decide +kernel
theorem d_MD_weak_230 : decode b_MD_weak 230 = .ok (.iconst 1, 1) := by decide +kernel
theorem d_MD_weak_231 : decode b_MD_weak 231 = .ok (.iadd, 1) := by decide +kernel
theorem d_MD_weak_232 : decode b_MD_weak 232 = .ok (.invokevirtual 177, 3) := by decide +kernel
theorem d_MD_weak_235 : decode b_MD_weak 235 = .ok (.istore 4, 2) := by decide +kernel
theorem d_MD_weak_237 : decode b_MD_weak 237 = .ok (.iload_n 3, 1) := by decide +kernel
theorem d_MD_weak_238 : decode b_MD_weak 238 = .ok (.iload 4, 2) := by decide +kernel
theorem d_MD_weak_240 : decode b_MD_weak 240 = .ok (.if_icmp .ne 36, 3) := by decide +kernel
theorem d_MD_weak_243 : decode b_MD_weak 243 = .ok (.iload_n 2, 1) := by decide +kernel
theorem d_MD_weak_244 : decode b_MD_weak 244 = .ok (.iconst 4, 1) := by decide +kernel
theorem d_MD_weak_245 : decode b_MD_weak 245 = .ok (.if_icmp .ne 8, 3) := by decide +kernel
theorem d_MD_weak_248 : decode b_MD_weak 248 = .ok (.iload_n 3, 1) := by decide +kernel
theorem d_MD_weak_249 : decode b_MD_weak 249 = .ok (.iconst 3, 1) := by decide +kernel
theorem d_MD_weak_250 : decode b_MD_weak 250 = .ok (.if_icmp .eq 20, 3) := by decide +kernel
theorem d_MD_weak_253 : decode b_MD_weak 253 = .ok (.iload_n 2, 1) := by decide +kernel
theorem d_MD_weak_254 : decode b_MD_weak 254 = .ok (.bipush 7, 2) := by decide +kernel
theorem d_MD_weak_256 : decode b_MD_weak 256 = .ok (.if_icmp .ne 20, 3) := by decide +kernel
theorem d_MD_weak_259 : decode b_MD_weak 259 = .ok (.iload_n 3, 1) := by decide +kernel
theorem d_MD_weak_260 : decode b_MD_weak 260 = .ok (.iconst 3, 1) := by decide +kernel
theorem d_MD_weak_261 : decode b_MD_weak 261 = .ok (.if_icmp .eq 9, 3) := by decide +kernel
theorem d_MD_weak_264 : decode b_MD_weak 264 = .ok (.iload_n 3, 1) := by decide +kernel
theorem d_MD_weak_265 : decode b_MD_weak 265 = .ok (.bipush 6, 2) := by decide +kernel
theorem d_MD_weak_267 : decode b_MD_weak 267 = .ok (.if_icmp .ne 9, 3) := by decide +kernel
theorem d_MD_weak_270 : decode b_MD_weak 270 = .ok (.aload_n 0, 1) := by decide +kernel
theorem d_MD_weak_271 : decode b_MD_weak 271 = .ok (.iload_n 1, 1) := by decide +kernel
theorem d_MD_weak_272 : decode b_MD_weak 272 = .ok (.iload_n 3, 1) := by decide +kernel
theorem d_MD_weak_273 : decode b_MD_weak 273 = .ok (.invokevirtual 180, 3) := by decide +kernel
theorem d_MD_weak_276 : decode b_MD_weak 276 = .ok (.iinc 1 1, 3) := by decide +kernel
theorem d_MD_weak_279 : decode b_MD_weak 279 = .ok (.goto (-75), 3) := by decide +kernel
theorem d_MD_weak_282 : decode b_MD_weak 282 = .ok (.iconst 0, 1) := by decide +kernel
theorem d_MD_weak_283 : decode b_MD_weak 283 = .ok (.istore_n 1, 1) := by decide +kernel
theorem d_MD_weak_284 : decode b_MD_weak 284 = .ok (.iload_n 1, 1) := by decide +kernel
theorem d_MD_weak_285 : decode b_MD_weak 285 = .ok (.aload_n 0, 1) := by decide +kernel
theorem d_MD_weak_286 : decode b_MD_weak 286 = .ok (.getfield 155, 3) := by decide +kernel
theorem d_MD_weak_289 : decode b_MD_weak 289 = .ok (.if_icmp .ge 32, 3) := by decide +kernel
theorem d_MD_weak_292 : decode b_MD_weak 292 = .ok (.aload_n 0, 1) := by decide +kernel
theorem d_MD_weak_293 : decode b_MD_weak 293 = .ok (.iload_n 1, 1) := by decide +kernel
theorem d_MD_weak_294 : decode b_MD_weak 294 = .ok (.invokevirtual 177, 3) := by decide +kernel
theorem d_MD_weak_297 : decode b_MD_weak 297 = .ok (.iconst 5, 1) := by decide +kernel
theorem d_MD_weak_298 : decode b_MD_weak 298 = .ok (.if_icmp .ne 17, 3) := by decide +kernel
theorem d_MD_weak_301 : decode b_MD_weak 301 = .ok (.aload_n 0, 1) := by decide +kernel
theorem d_MD_weak_302 : decode b_MD_weak 302 = .ok (.iload_n 1, 1) := by decide +kernel
theorem d_MD_weak_303 : decode b_MD_weak 303 = .ok (.invokevirtual 187, 3) := by decide +kernel
theorem d_MD_weak_306 : decode b_MD_weak 306 = .ok (.ifCond .eq 9, 3) := by decide +kernel
theorem d_MD_weak_309 : decode b_MD_weak 309 = .ok (.aload_n 0, 1) := by decide +kernel
theorem d_MD_weak_310 : decode b_MD_weak 310 = .ok (.iload_n 1, 1) := by decide +kernel
theorem d_MD_weak_311 : decode b_MD_weak 311 = .ok (.iconst 3, 1) := by decide +kernel
theorem d_MD_weak_312 : decode b_MD_weak 312 = .ok (.invokevirtual 180, 3) := by decide +kernel
theorem d_MD_weak_315 : decode b_MD_weak 315 = .ok (.iinc 1 1, 3) := by decide +kernel
theorem d_MD_weak_318 : decode b_MD_weak 318 = .ok (.goto (-34), 3) := by decide +kernel
theorem d_MD_weak_321 : decode b_MD_weak 321 = .ok (.iconst 0, 1) := by decide +kernel
theorem d_MD_weak_322 : decode b_MD_weak 322 = .ok (.istore_n 1, 1) := by decide +kernel
theorem d_MD_weak_323 : decode b_MD_weak 323 = .ok (.iload_n 1, 1) := by decide +kernel
theorem d_MD_weak_324 : decode b_MD_weak 324 = .ok (.aload_n 0, 1) := by decide +kernel
theorem d_MD_weak_325 : decode b_MD_weak 325 = .ok (.getfield 155, 3) := by decide +kernel
theorem d_MD_weak_328 : decode b_MD_weak 328 = .ok (.if_icmp .ge 38, 3) := by decide +kernel
theorem d_MD_weak_331 : decode b_MD_weak 331 = .ok (.aload_n 0, 1) := by decide +kernel
theorem d_MD_weak_332 : decode b_MD_weak 332 = .ok (.iload_n 1, 1) := by decide +kernel
theorem d_MD_weak_333 : decode b_MD_weak 333 = .ok (.invokevirtual 177, 3) := by decide +kernel
theorem d_MD_weak_336 : decode b_MD_weak 336 = .ok (.istore_n 2, 1) := by decide +kernel
theorem d_MD_weak_337 : decode b_MD_weak 337 = .ok (.iload_n 2, 1) := by decide +kernel
theorem d_MD_weak_338 : decode b_MD_weak 338 = .ok (.iconst 4, 1) := by decide +kernel
theorem d_MD_weak_339 : decode b_MD_weak 339 = .ok (.if_icmp .eq 14, 3) := by decide +kernel
theorem d_MD_weak_342 : decode b_MD_weak 342 = .ok (.iload_n 2, 1) := by decide +kernel
theorem d_MD_weak_343 : decode b_MD_weak 343 = .ok (.iconst 5, 1) := by decide +kernel
theorem d_MD_weak_344 : decode b_MD_weak 344 = .ok (.if_icmp .eq 9, 3) := by decide +kernel
theorem d_MD_weak_347 : decode b_MD_weak 347 = .ok (.iload_n 2, 1) := by decide +kernel
theorem d_MD_weak_348 : decode b_MD_weak 348 = .ok (.bipush 7, 2) := by decide +kernel
theorem d_MD_weak_350 : decode b_MD_weak 350 = .ok (.if_icmp .ne 10, 3) := by decide +kernel
theorem d_MD_weak_353 : decode b_MD_weak 353 = .ok (.aload_n 0, 1) := by decide +kernel
theorem d_MD_weak_354 : decode b_MD_weak 354 = .ok (.iload_n 1, 1) := by decide +kernel
theorem d_MD_weak_355 : decode b_MD_weak 355 = .ok (.bipush 13, 2) := by decide +kernel
theorem d_MD_weak_357 : decode b_MD_weak 357 = .ok (.invokevirtual 180, 3) := by decide +kernel
theorem d_MD_weak_360 : decode b_MD_weak 360 = .ok (.iinc 1 1, 3) := by decide +kernel
theorem d_MD_weak_363 : decode b_MD_weak 363 = .ok (.goto (-40), 3) := by decide +kernel
theorem d_MD_weak_366 : decode b_MD_weak 366 = .ok (.iconst 0, 1) := by decide +kernel
theorem d_MD_weak_367 : decode b_MD_weak 367 = .ok (.istore_n 1, 1) := by decide +kernel
theorem d_MD_weak_368 : decode b_MD_weak 368 = .ok (.iload_n 1, 1) := by decide +kernel
theorem d_MD_weak_369 : decode b_MD_weak 369 = .ok (.aload_n 0, 1) := by decide +kernel
theorem d_MD_weak_370 : decode b_MD_weak 370 = .ok (.getfield 155, 3) := by decide +kernel
theorem d_MD_weak_373 : decode b_MD_weak 373 = .ok (.if_icmp .ge 32, 3) := by decide +kernel
theorem d_MD_weak_376 : decode b_MD_weak 376 = .ok (.aload_n 0, 1) := by decide +kernel
theorem d_MD_weak_377 : decode b_MD_weak 377 = .ok (.iload_n 1, 1) := by decide +kernel
theorem d_MD_weak_378 : decode b_MD_weak 378 = .ok (.invokevirtual 177, 3) := by decide +kernel
theorem d_MD_weak_381 : decode b_MD_weak 381 = .ok (.iconst 3, 1) := by decide +kernel
theorem d_MD_weak_382 : decode b_MD_weak 382 = .ok (.if_icmp .ne 17, 3) := by decide +kernel
theorem d_MD_weak_385 : decode b_MD_weak 385 = .ok (.aload_n 0, 1) := by decide +kernel
theorem d_MD_weak_386 : decode b_MD_weak 386 = .ok (.iload_n 1, 1) := by decide +kernel
theorem d_MD_weak_387 : decode b_MD_weak 387 = .ok (.invokevirtual 184, 3) := by decide +kernel
theorem d_MD_weak_390 : decode b_MD_weak 390 = .ok (.ifCond .ne 9, 3) := by decide +kernel
theorem d_MD_weak_393 : decode b_MD_weak 393 = .ok (.aload_n 0, 1) := by decide +kernel
theorem d_MD_weak_394 : decode b_MD_weak 394 = .ok (.iload_n 1, 1) := by decide +kernel
theorem d_MD_weak_395 : decode b_MD_weak 395 = .ok (.iconst 0, 1) := by decide +kernel
theorem d_MD_weak_396 : decode b_MD_weak 396 = .ok (.invokevirtual 180, 3) := by decide +kernel
theorem d_MD_weak_399 : decode b_MD_weak 399 = .ok (.iinc 1 1, 3) := by decide +kernel
theorem d_MD_weak_402 : decode b_MD_weak 402 = .ok (.goto (-34), 3) := by decide +kernel
theorem d_MD_weak_405 : decode b_MD_weak 405 = .ok (.return_, 1) := by decide +kernel
theorem d_MD_side_0 : decode b_MD_side 0 = .ok (.iload_n 0, 1) := by decide +kernel
theorem d_MD_side_1 : decode b_MD_side 1 = .ok (.ifCond .ne 7, 3) := by decide +kernel
theorem d_MD_side_4 : decode b_MD_side 4 = .ok (.iconst 0, 1) := by decide +kernel
theorem d_MD_side_5 : decode b_MD_side 5 = .ok (.goto 24, 3) := by decide +kernel
theorem d_MD_side_8 : decode b_MD_side 8 = .ok (.iload_n 0, 1) := by decide +kernel
theorem d_MD_side_9 : decode b_MD_side 9 = .ok (.iconst 1, 1) := by decide +kernel
theorem d_MD_side_10 : decode b_MD_side 10 = .ok (.if_icmp .eq 14, 3) := by decide +kernel
theorem d_MD_side_13 : decode b_MD_side 13 = .ok (.iload_n 0, 1) := by decide +kernel
theorem d_MD_side_14 : decode b_MD_side 14 = .ok (.iconst 3, 1) := by decide +kernel
theorem d_MD_side_15 : decode b_MD_side 15 = .ok (.if_icmp .eq 9, 3) := by decide +kernel
theorem d_MD_side_18 : decode b_MD_side 18 = .ok (.iload_n 0, 1) := by decide +kernel
theorem d_MD_side_19 : decode b_MD_side 19 = .ok (.bipush 6, 2) := by decide +kernel
theorem d_MD_side_21 : decode b_MD_side 21 = .ok (.if_icmp .ne 7, 3) := by decide +kernel
theorem d_MD_side_24 : decode b_MD_side 24 = .ok (.iconst 1, 1) := by decide +kernel
theorem d_MD_side_25 : decode b_MD_side 25 = .ok (.goto 4, 3) := by decide +kernel
theorem d_MD_side_28 : decode b_MD_side 28 = .ok (.iconst (-1), 1) := by decide +kernel
theorem d_MD_side_29 : decode b_MD_side 29 = .ok (.ireturn, 1) := by decide +kernel
theorem d_MD_sideBefore_0 : decode b_MD_sideBefore 0 = .ok (.iload_n 1, 1) := by decide +kernel
theorem d_MD_sideBefore_1 : decode b_MD_sideBefore 1 = .ok (.iconst 1, 1) := by decide +kernel
theorem d_MD_sideBefore_2 : decode b_MD_sideBefore 2 = .ok (.isub, 1) := by decide +kernel
theorem d_MD_sideBefore_3 : decode b_MD_sideBefore 3 = .ok (.istore_n 2, 1) := by decide +kernel
theorem d_MD_sideBefore_4 : decode b_MD_sideBefore 4 = .ok (.iload_n 2, 1) := by decide +kernel
theorem d_MD_sideBefore_5 : decode b_MD_sideBefore 5 = .ok (.ifCond .lt 20, 3) := by decide +kernel
theorem d_MD_sideBefore_8 : decode b_MD_sideBefore 8 = .ok (.aload_n 0, 1) := by decide +kernel
theorem d_MD_sideBefore_9 : decode b_MD_sideBefore 9 = .ok (.iload_n 2, 1) := by decide +kernel
theorem d_MD_sideBefore_10 : decode b_MD_sideBefore 10 = .ok (.invokevirtual 177, 3) := by decide +kernel
theorem d_MD_sideBefore_13 : decode b_MD_sideBefore 13 = .ok (.invokestatic 190, 3) := by decide +kernel
theorem d_MD_sideBefore_16 : decode b_MD_sideBefore 16 = .ok (.ifCond .ge 9, 3) := by decide +kernel
theorem d_MD_sideBefore_19 : decode b_MD_sideBefore 19 = .ok (.iinc 2 (-1), 3) := by decide +kernel
theorem d_MD_sideBefore_22 : decode b_MD_sideBefore 22 = .ok (.goto (-18), 3) := by decide +kernel
theorem d_MD_sideBefore_25 : decode b_MD_sideBefore 25 = .ok (.aload_n 0, 1) := by decide +kernel
theorem d_MD_sideBefore_26 : decode b_MD_sideBefore 26 = .ok (.iload_n 2, 1) := by decide +kernel
theorem d_MD_sideBefore_27 : decode b_MD_sideBefore 27 = .ok (.invokevirtual 177, 3) := by decide +kernel
theorem d_MD_sideBefore_30 : decode b_MD_sideBefore 30 = .ok (.invokestatic 190, 3) := by decide +kernel
theorem d_MD_sideBefore_33 : decode b_MD_sideBefore 33 = .ok (.ireturn, 1) := by decide +kernel
theorem d_MD_findPairs_0 : decode b_MD_findPairs 0 = .ok (.aload_n 0, 1) := by decide +kernel
theorem d_MD_findPairs_1 : decode b_MD_findPairs 1 = .ok (.iconst 0, 1) := by decide +kernel
theorem d_MD_findPairs_2 : decode b_MD_findPairs 2 = .ok (.putfield 193, 3) := by decide +kernel
theorem d_MD_findPairs_5 : decode b_MD_findPairs 5 = .ok (.iconst 0, 1) := by decide +kernel
theorem d_MD_findPairs_6 : decode b_MD_findPairs 6 = .ok (.istore_n 1, 1) := by decide +kernel
theorem d_MD_findPairs_7 : decode b_MD_findPairs 7 = .ok (.iload_n 1, 1) := by decide +kernel
theorem d_MD_findPairs_8 : decode b_MD_findPairs 8 = .ok (.aload_n 0, 1) := by decide +kernel
theorem d_MD_findPairs_9 : decode b_MD_findPairs 9 = .ok (.getfield 155, 3) := by decide +kernel
theorem d_MD_findPairs_12 : decode b_MD_findPairs 12 = .ok (.if_icmp .ge 16, 3) := by decide +kernel
theorem d_MD_findPairs_15 : decode b_MD_findPairs 15 = .ok (.aload_n 0, 1) := by decide +kernel
theorem d_MD_findPairs_16 : decode b_MD_findPairs 16 = .ok (.getfield 68, 3) := by decide +kernel
theorem d_MD_findPairs_19 : decode b_MD_findPairs 19 = .ok (.iload_n 1, 1) := by decide +kernel
theorem d_MD_findPairs_20 : decode b_MD_findPairs 20 = .ok (.iconst (-1), 1) := by decide +kernel
theorem d_MD_findPairs_21 : decode b_MD_findPairs 21 = .ok (.iastore, 1) := by decide +kernel
theorem d_MD_findPairs_22 : decode b_MD_findPairs 22 = .ok (.iinc 1 1, 3) := by decide +kernel
theorem d_MD_findPairs_25 : decode b_MD_findPairs 25 = .ok (.goto (-18), 3) := by decide +kernel
theorem d_MD_findPairs_28 : decode b_MD_findPairs 28 = .ok (.iconst 0, 1) := by decide +kernel
theorem d_MD_findPairs_29 : decode b_MD_findPairs 29 = .ok (.istore_n 1, 1) := by decide +kernel
theorem d_MD_findPairs_30 : decode b_MD_findPairs 30 = .ok (.iload_n 1, 1) := by decide +kernel
theorem d_MD_findPairs_31 : decode b_MD_findPairs 31 = .ok (.aload_n 0, 1) := by decide +kernel
theorem d_MD_findPairs_32 : decode b_MD_findPairs 32 = .ok (.getfield 155, 3) := by decide +kernel
theorem d_MD_findPairs_35 : decode b_MD_findPairs 35 = .ok (.if_icmp .ge 100, 3) := by decide +kernel
theorem d_MD_findPairs_38 : decode b_MD_findPairs 38 = .ok (.aload_n 0, 1) := by decide +kernel
theorem d_MD_findPairs_39 : decode b_MD_findPairs 39 = .ok (.getfield 7, 3) := by decide +kernel
theorem d_MD_findPairs_42 : decode b_MD_findPairs 42 = .ok (.aload_n 0, 1) := by decide +kernel
theorem d_MD_findPairs_43 : decode b_MD_findPairs 43 = .ok (.getfield 62, 3) := by decide +kernel
theorem d_MD_findPairs_46 : decode b_MD_findPairs 46 = .ok (.iload_n 1, 1) := by decide +kernel
theorem d_MD_findPairs_47 : decode b_MD_findPairs 47 = .ok (.iaload, 1) := by decide +kernel
theorem d_MD_findPairs_48 : decode b_MD_findPairs 48 = .ok (.iaload, 1) := by decide +kernel
theorem d_MD_findPairs_49 : decode b_MD_findPairs 49 = .ok (.istore_n 2, 1) := by decide +kernel
theorem d_MD_findPairs_50 : decode b_MD_findPairs 50 = .ok (.aload_n 0, 1) := by decide +kernel
theorem d_MD_findPairs_51 : decode b_MD_findPairs 51 = .ok (.iload_n 1, 1) := by decide +kernel
theorem d_MD_findPairs_52 : decode b_MD_findPairs 52 = .ok (.invokevirtual 177, 3) := by decide +kernel
theorem d_MD_findPairs_55 : decode b_MD_findPairs 55 = .ok (.bipush 13, 2) := by decide +kernel
theorem d_MD_findPairs_57 : decode b_MD_findPairs 57 = .ok (.if_icmp .ne 7, 3) := by decide +kernel
theorem d_MD_findPairs_60 : decode b_MD_findPairs 60 = .ok (.iconst 1, 1) := by decide +kernel
theorem d_MD_findPairs_61 : decode b_MD_findPairs 61 = .ok (.goto 4, 3) := by decide +kernel
theorem d_MD_findPairs_64 : decode b_MD_findPairs 64 = .ok (.iconst 0, 1) := by decide +kernel
theorem d_MD_findPairs_65 : decode b_MD_findPairs 65 = .ok (.istore_n 3, 1) := by decide +kernel
theorem d_MD_findPairs_66 : decode b_MD_findPairs 66 = .ok (.iload_n 3, 1) := by decide +kernel
theorem d_MD_findPairs_67 : decode b_MD_findPairs 67 = .ok (.ifCond .eq 44, 3) := by decide +kernel
theorem d_MD_findPairs_70 : decode b_MD_findPairs 70 = .ok (.aload_n 0, 1) := by decide +kernel
theorem d_MD_findPairs_71 : decode b_MD_findPairs 71 = .ok (.iload_n 2, 1) := by decide +kernel
theorem d_MD_findPairs_72 : decode b_MD_findPairs 72 = .ok (.invokevirtual 96, 3) := by decide +kernel
theorem d_MD_findPairs_75 : decode b_MD_findPairs 75 = .ok (.ifCond .lt 36, 3) := by decide +kernel
theorem d_MD_findPairs_78 : decode b_MD_findPairs 78 = .ok (.aload_n 0, 1) := by decide +kernel
theorem d_MD_findPairs_79 : decode b_MD_findPairs 79 = .ok (.getfield 193, 3) := by decide +kernel
theorem d_MD_findPairs_82 : decode b_MD_findPairs 82 = .ok (.bipush 63, 2) := by decide +kernel
theorem d_MD_findPairs_84 : decode b_MD_findPairs 84 = .ok (.if_icmp .ne 4, 3) := by decide +kernel
theorem d_MD_findPairs_87 : decode b_MD_findPairs 87 = .ok (.return_, 1) := by decide +kernel
theorem d_MD_findPairs_88 : decode b_MD_findPairs 88 = .ok (.aload_n 0, 1) := by decide +kernel
theorem d_MD_findPairs_89 : decode b_MD_findPairs 89 = .ok (.getfield 65, 3) := by decide +kernel
theorem d_MD_findPairs_92 : decode b_MD_findPairs 92 = .ok (.aload_n 0, 1) := by decide +kernel
theorem d_MD_findPairs_93 : decode b_MD_findPairs 93 = .ok (.getfield 193, 3) := by decide +kernel
theorem d_MD_findPairs_96 : decode b_MD_findPairs 96 = .ok (.iload_n 1, 1) := by decide +kernel
theorem d_MD_findPairs_97 : decode b_MD_findPairs 97 = .ok (.iastore, 1) := by decide +kernel
theorem d_MD_findPairs_98 : decode b_MD_findPairs 98 = .ok (.aload_n 0, 1) := by decide +kernel
theorem d_MD_findPairs_99 : decode b_MD_findPairs 99 = .ok (.dup, 1) := by decide +kernel
theorem d_MD_findPairs_100 : decode b_MD_findPairs 100 = .ok (.getfield 193, 3) := by decide +kernel
theorem d_MD_findPairs_103 : decode b_MD_findPairs 103 = .ok (.iconst 1, 1) := by decide +kernel
theorem d_MD_findPairs_104 : decode b_MD_findPairs 104 = .ok (.iadd, 1) := by decide +kernel
theorem d_MD_findPairs_105 : decode b_MD_findPairs 105 = .ok (.putfield 193, 3) := by decide +kernel
theorem d_MD_findPairs_108 : decode b_MD_findPairs 108 = .ok (.goto 21, 3) := by decide +kernel
theorem d_MD_findPairs_111 : decode b_MD_findPairs 111 = .ok (.iload_n 3, 1) := by decide +kernel
theorem d_MD_findPairs_112 : decode b_MD_findPairs 112 = .ok (.ifCond .eq 17, 3) := by decide +kernel
theorem d_MD_findPairs_115 : decode b_MD_findPairs 115 = .ok (.aload_n 0, 1) := by decide +kernel
theorem d_MD_findPairs_116 : decode b_MD_findPairs 116 = .ok (.iload_n 2, 1) := by decide +kernel
theorem d_MD_findPairs_117 : decode b_MD_findPairs 117 = .ok (.invokevirtual 100, 3) := by decide +kernel
theorem d_MD_findPairs_120 : decode b_MD_findPairs 120 = .ok (.ifCond .eq 9, 3) := by decide +kernel
theorem d_MD_findPairs_123 : decode b_MD_findPairs 123 = .ok (.aload_n 0, 1) := by decide +kernel
theorem d_MD_findPairs_124 : decode b_MD_findPairs 124 = .ok (.iload_n 1, 1) := by decide +kernel
theorem d_MD_findPairs_125 : decode b_MD_findPairs 125 = .ok (.iload_n 2, 1) := by decide +kernel
theorem d_MD_findPairs_126 : decode b_MD_findPairs 126 = .ok (.invokevirtual 196, 3) := by decide +kernel
theorem d_MD_findPairs_129 : decode b_MD_findPairs 129 = .ok (.iinc 1 1, 3) := by decide +kernel
theorem d_MD_findPairs_132 : decode b_MD_findPairs 132 = .ok (.goto (-102), 3) := by decide +kernel
theorem d_MD_findPairs_135 : decode b_MD_findPairs 135 = .ok (.return_, 1) := by decide +kernel
theorem d_MD_closePair_0 : decode b_MD_closePair 0 = .ok (.aload_n 0, 1) := by decide +kernel
theorem d_MD_closePair_1 : decode b_MD_closePair 1 = .ok (.getfield 193, 3) := by decide +kernel
theorem d_MD_closePair_4 : decode b_MD_closePair 4 = .ok (.iconst 1, 1) := by decide +kernel
theorem d_MD_closePair_5 : decode b_MD_closePair 5 = .ok (.isub, 1) := by decide +kernel
theorem d_MD_closePair_6 : decode b_MD_closePair 6 = .ok (.istore_n 3, 1) := by decide +kernel
theorem d_MD_closePair_7 : decode b_MD_closePair 7 = .ok (.iload_n 3, 1) := by decide +kernel
theorem d_MD_closePair_8 : decode b_MD_closePair 8 = .ok (.ifCond .lt 33, 3) := by decide +kernel
theorem d_MD_closePair_11 : decode b_MD_closePair 11 = .ok (.aload_n 0, 1) := by decide +kernel
theorem d_MD_closePair_12 : decode b_MD_closePair 12 = .ok (.aload_n 0, 1) := by decide +kernel
theorem d_MD_closePair_13 : decode b_MD_closePair 13 = .ok (.getfield 7, 3) := by decide +kernel
theorem d_MD_closePair_16 : decode b_MD_closePair 16 = .ok (.aload_n 0, 1) := by decide +kernel
theorem d_MD_closePair_17 : decode b_MD_closePair 17 = .ok (.getfield 62, 3) := by decide +kernel
theorem d_MD_closePair_20 : decode b_MD_closePair 20 = .ok (.aload_n 0, 1) := by decide +kernel
theorem d_MD_closePair_21 : decode b_MD_closePair 21 = .ok (.getfield 65, 3) := by decide +kernel
theorem d_MD_closePair_24 : decode b_MD_closePair 24 = .ok (.iload_n 3, 1) := by decide +kernel
theorem d_MD_closePair_25 : decode b_MD_closePair 25 = .ok (.iaload, 1) := by decide +kernel
theorem d_MD_closePair_26 : decode b_MD_closePair 26 = .ok (.iaload, 1) := by decide +kernel
theorem d_MD_closePair_27 : decode b_MD_closePair 27 = .ok (.iaload, 1) := by decide +kernel
theorem d_MD_closePair_28 : decode b_MD_closePair 28 = .ok (.invokevirtual 96, 3) := by decide +kernel
theorem d_MD_closePair_31 : decode b_MD_closePair 31 = .ok (.iload_n 2, 1) := by decide +kernel
theorem d_MD_closePair_32 : decode b_MD_closePair 32 = .ok (.if_icmp .eq 9, 3) := by decide +kernel
theorem d_MD_closePair_35 : decode b_MD_closePair 35 = .ok (.iinc 3 (-1), 3) := by decide +kernel
theorem d_MD_closePair_38 : decode b_MD_closePair 38 = .ok (.goto (-31), 3) := by decide +kernel
theorem d_MD_closePair_41 : decode b_MD_closePair 41 = .ok (.iload_n 3, 1) := by decide +kernel
theorem d_MD_closePair_42 : decode b_MD_closePair 42 = .ok (.ifCond .lt 20, 3) := by decide +kernel
theorem d_MD_closePair_45 : decode b_MD_closePair 45 = .ok (.aload_n 0, 1) := by decide +kernel
theorem d_MD_closePair_46 : decode b_MD_closePair 46 = .ok (.getfield 68, 3) := by decide +kernel
theorem d_MD_closePair_49 : decode b_MD_closePair 49 = .ok (.aload_n 0, 1) := by decide +kernel
theorem d_MD_closePair_50 : decode b_MD_closePair 50 = .ok (.getfield 65, 3) := by decide +kernel
theorem d_MD_closePair_53 : decode b_MD_closePair 53 = .ok (.iload_n 3, 1) := by decide +kernel
theorem d_MD_closePair_54 : decode b_MD_closePair 54 = .ok (.iaload, 1) := by decide +kernel
theorem d_MD_closePair_55 : decode b_MD_closePair 55 = .ok (.iload_n 1, 1) := by decide +kernel
theorem d_MD_closePair_56 : decode b_MD_closePair 56 = .ok (.iastore, 1) := by decide +kernel
theorem d_MD_closePair_57 : decode b_MD_closePair 57 = .ok (.aload_n 0, 1) := by decide +kernel
theorem d_MD_closePair_58 : decode b_MD_closePair 58 = .ok (.iload_n 3, 1) := by decide +kernel
theorem d_MD_closePair_59 : decode b_MD_closePair 59 = .ok (.putfield 193, 3) := by decide +kernel
theorem d_MD_closePair_62 : decode b_MD_closePair 62 = .ok (.return_, 1) := by decide +kernel
theorem d_MD_give_0 : decode b_MD_give 0 = .ok (.aload_n 0, 1) := by decide +kernel
theorem d_MD_give_1 : decode b_MD_give 1 = .ok (.iload_n 1, 1) := by decide +kernel
theorem d_MD_give_2 : decode b_MD_give 2 = .ok (.iload_n 2, 1) := by decide +kernel
theorem d_MD_give_3 : decode b_MD_give 3 = .ok (.invokevirtual 180, 3) := by decide +kernel
theorem d_MD_give_6 : decode b_MD_give 6 = .ok (.iload_n 1, 1) := by decide +kernel
theorem d_MD_give_7 : decode b_MD_give 7 = .ok (.iconst 1, 1) := by decide +kernel
theorem d_MD_give_8 : decode b_MD_give 8 = .ok (.iadd, 1) := by decide +kernel
theorem d_MD_give_9 : decode b_MD_give 9 = .ok (.istore_n 3, 1) := by decide +kernel
theorem d_MD_give_10 : decode b_MD_give 10 = .ok (.iload_n 3, 1) := by decide +kernel
theorem d_MD_give_11 : decode b_MD_give 11 = .ok (.aload_n 0, 1) := by decide +kernel
theorem d_MD_give_12 : decode b_MD_give 12 = .ok (.getfield 155, 3) := by decide +kernel
theorem d_MD_give_15 : decode b_MD_give 15 = .ok (.if_icmp .ge 31, 3) := by decide +kernel
theorem d_MD_give_18 : decode b_MD_give 18 = .ok (.aload_n 0, 1) := by decide +kernel
theorem d_MD_give_19 : decode b_MD_give 19 = .ok (.getfield 40, 3) := by decide +kernel
theorem d_MD_give_22 : decode b_MD_give 22 = .ok (.aload_n 0, 1) := by decide +kernel
theorem d_MD_give_23 : decode b_MD_give 23 = .ok (.getfield 62, 3) := by decide +kernel
theorem d_MD_give_26 : decode b_MD_give 26 = .ok (.iload_n 3, 1) := by decide +kernel
theorem d_MD_give_27 : decode b_MD_give 27 = .ok (.iaload, 1) := by decide +kernel
theorem d_MD_give_28 : decode b_MD_give 28 = .ok (.iaload, 1) := by decide +kernel
theorem d_MD_give_29 : decode b_MD_give 29 = .ok (.bipush 8, 2) := by decide +kernel
theorem d_MD_give_31 : decode b_MD_give 31 = .ok (.if_icmp .ne 15, 3) := by decide +kernel
theorem d_MD_give_34 : decode b_MD_give 34 = .ok (.aload_n 0, 1) := by decide +kernel
theorem d_MD_give_35 : decode b_MD_give 35 = .ok (.iload_n 3, 1) := by decide +kernel
theorem d_MD_give_36 : decode b_MD_give 36 = .ok (.iload_n 2, 1) := by decide +kernel
theorem d_MD_give_37 : decode b_MD_give 37 = .ok (.invokevirtual 180, 3) := by decide +kernel
theorem d_MD_give_40 : decode b_MD_give 40 = .ok (.iinc 3 1, 3) := by decide +kernel
theorem d_MD_give_43 : decode b_MD_give 43 = .ok (.goto (-33), 3) := by decide +kernel
theorem d_MD_give_46 : decode b_MD_give 46 = .ok (.return_, 1) := by decide +kernel
theorem d_MD_pairs_0 : decode b_MD_pairs 0 = .ok (.aload_n 0, 1) := by decide +kernel
theorem d_MD_pairs_1 : decode b_MD_pairs 1 = .ok (.invokevirtual 199, 3) := by decide +kernel
theorem d_MD_pairs_4 : decode b_MD_pairs 4 = .ok (.aload_n 0, 1) := by decide +kernel
theorem d_MD_pairs_5 : decode b_MD_pairs 5 = .ok (.getfield 165, 3) := by decide +kernel
theorem d_MD_pairs_8 : decode b_MD_pairs 8 = .ok (.invokestatic 168, 3) := by decide +kernel
theorem d_MD_pairs_11 : decode b_MD_pairs 11 = .ok (.istore_n 1, 1) := by decide +kernel
theorem d_MD_pairs_12 : decode b_MD_pairs 12 = .ok (.iconst 0, 1) := by decide +kernel
theorem d_MD_pairs_13 : decode b_MD_pairs 13 = .ok (.istore_n 2, 1) := by decide +kernel
theorem d_MD_pairs_14 : decode b_MD_pairs 14 = .ok (.iload_n 2, 1) := by decide +kernel
theorem d_MD_pairs_15 : decode b_MD_pairs 15 = .ok (.aload_n 0, 1) := by decide +kernel
theorem d_MD_pairs_16 : decode b_MD_pairs 16 = .ok (.getfield 155, 3) := by decide +kernel
theorem d_MD_pairs_19 : decode b_MD_pairs 19 = .ok (.if_icmp .ge 142, 3) := by decide +kernel
theorem d_MD_pairs_22 : decode b_MD_pairs 22 = .ok (.aload_n 0, 1) := by decide +kernel
theorem d_MD_pairs_23 : decode b_MD_pairs 23 = .ok (.getfield 68, 3) := by decide +kernel
theorem d_MD_pairs_26 : decode b_MD_pairs 26 = .ok (.iload_n 2, 1) := by decide +kernel
theorem d_MD_pairs_27 : decode b_MD_pairs 27 = .ok (.iaload, 1) := by decide +kernel
theorem d_MD_pairs_28 : decode b_MD_pairs 28 = .ok (.ifCond .lt 127, 3) := by decide +kernel
theorem d_MD_pairs_31 : decode b_MD_pairs 31 = .ok (.iconst 0, 1) := by decide +kernel
theorem d_MD_pairs_32 : decode b_MD_pairs 32 = .ok (.istore_n 3, 1) := by decide +kernel
theorem d_MD_pairs_33 : decode b_MD_pairs 33 = .ok (.iconst 0, 1) := by decide +kernel
theorem d_MD_pairs_34 : decode b_MD_pairs 34 = .ok (.istore 4, 2) := by decide +kernel
theorem d_MD_pairs_36 : decode b_MD_pairs 36 = .ok (.iload_n 2, 1) := by decide +kernel
theorem d_MD_pairs_37 : decode b_MD_pairs 37 = .ok (.iconst 1, 1) := by decide +kernel
theorem d_MD_pairs_38 : decode b_MD_pairs 38 = .ok (.iadd, 1) := by decide +kernel
theorem d_MD_pairs_39 : decode b_MD_pairs 39 = .ok (.istore 5, 2) := by decide +kernel
theorem d_MD_pairs_41 : decode b_MD_pairs 41 = .ok (.iload 5, 2) := by decide +kernel
theorem d_MD_pairs_43 : decode b_MD_pairs 43 = .ok (.aload_n 0, 1) := by decide +kernel
theorem d_MD_pairs_44 : decode b_MD_pairs 44 = .ok (.getfield 68, 3) := by decide +kernel
theorem d_MD_pairs_47 : decode b_MD_pairs 47 = .ok (.iload_n 2, 1) := by decide +kernel
theorem d_MD_pairs_48 : decode b_MD_pairs 48 = .ok (.iaload, 1) := by decide +kernel
theorem d_MD_pairs_49 : decode b_MD_pairs 49 = .ok (.if_icmp .ge 56, 3) := by decide +kernel
theorem d_MD_pairs_52 : decode b_MD_pairs 52 = .ok (.aload_n 0, 1) := by decide +kernel
theorem d_MD_pairs_53 : decode b_MD_pairs 53 = .ok (.iload 5, 2) := by decide +kernel
theorem d_MD_pairs_55 : decode b_MD_pairs 55 = .ok (.invokevirtual 177, 3) := by decide +kernel
theorem d_MD_pairs_58 : decode b_MD_pairs 58 = .ok (.invokestatic 190, 3) := by decide +kernel
theorem d_MD_pairs_61 : decode b_MD_pairs 61 = .ok (.istore 6, 2) := by decide +kernel
theorem d_MD_pairs_63 : decode b_MD_pairs 63 = .ok (.iload_n 3, 1) := by decide +kernel
theorem d_MD_pairs_64 : decode b_MD_pairs 64 = .ok (.ifCond .ne 9, 3) := by decide +kernel
theorem d_MD_pairs_67 : decode b_MD_pairs 67 = .ok (.iload 6, 2) := by decide +kernel
theorem d_MD_pairs_69 : decode b_MD_pairs 69 = .ok (.iload_n 1, 1) := by decide +kernel
theorem d_MD_pairs_70 : decode b_MD_pairs 70 = .ok (.if_icmp .ne 7, 3) := by decide +kernel
theorem d_MD_pairs_73 : decode b_MD_pairs 73 = .ok (.iconst 1, 1) := by decide +kernel
theorem d_MD_pairs_74 : decode b_MD_pairs 74 = .ok (.goto 4, 3) := by decide +kernel
theorem d_MD_pairs_77 : decode b_MD_pairs 77 = .ok (.iconst 0, 1) := by decide +kernel
theorem d_MD_pairs_78 : decode b_MD_pairs 78 = .ok (.istore_n 3, 1) := by decide +kernel
theorem d_MD_pairs_79 : decode b_MD_pairs 79 = .ok (.iload 4, 2) := by decide +kernel
theorem d_MD_pairs_81 : decode b_MD_pairs 81 = .ok (.ifCond .ne 11, 3) := by decide +kernel
theorem d_MD_pairs_84 : decode b_MD_pairs 84 = .ok (.iload 6, 2) := by decide +kernel
theorem d_MD_pairs_86 : decode b_MD_pairs 86 = .ok (.iconst 1, 1) := by decide +kernel
theorem d_MD_pairs_87 : decode b_MD_pairs 87 = .ok (.iload_n 1, 1) := by decide +kernel
theorem d_MD_pairs_88 : decode b_MD_pairs 88 = .ok (.isub, 1) := by decide +kernel
theorem d_MD_pairs_89 : decode b_MD_pairs 89 = .ok (.if_icmp .ne 7, 3) := by decide +kernel
theorem d_MD_pairs_92 : decode b_MD_pairs 92 = .ok (.iconst 1, 1) := by decide +kernel
theorem d_MD_pairs_93 : decode b_MD_pairs 93 = .ok (.goto 4, 3) := by decide +kernel
theorem d_MD_pairs_96 : decode b_MD_pairs 96 = .ok (.iconst 0, 1) := by decide +kernel
theorem d_MD_pairs_97 : decode b_MD_pairs 97 = .ok (.istore 4, 2) := by decide +kernel
theorem d_MD_pairs_99 : decode b_MD_pairs 99 = .ok (.iinc 5 1, 3) := by decide +kernel
theorem d_MD_pairs_102 : decode b_MD_pairs 102 = .ok (.goto (-61), 3) := by decide +kernel
theorem d_MD_pairs_105 : decode b_MD_pairs 105 = .ok (.iload_n 3, 1) := by decide +kernel
theorem d_MD_pairs_106 : decode b_MD_pairs 106 = .ok (.ifCond .ne 8, 3) := by decide +kernel
theorem d_MD_pairs_109 : decode b_MD_pairs 109 = .ok (.iload 4, 2) := by decide +kernel
theorem d_MD_pairs_111 : decode b_MD_pairs 111 = .ok (.ifCond .eq 44, 3) := by decide +kernel
theorem d_MD_pairs_114 : decode b_MD_pairs 114 = .ok (.iload_n 3, 1) := by decide +kernel
theorem d_MD_pairs_115 : decode b_MD_pairs 115 = .ok (.ifCond .ne 12, 3) := by decide +kernel
theorem d_MD_pairs_118 : decode b_MD_pairs 118 = .ok (.aload_n 0, 1) := by decide +kernel
theorem d_MD_pairs_119 : decode b_MD_pairs 119 = .ok (.iload_n 2, 1) := by decide +kernel
theorem d_MD_pairs_120 : decode b_MD_pairs 120 = .ok (.invokevirtual 202, 3) := by decide +kernel
theorem d_MD_pairs_123 : decode b_MD_pairs 123 = .ok (.iload_n 1, 1) := by decide +kernel
theorem d_MD_pairs_124 : decode b_MD_pairs 124 = .ok (.if_icmp .ne 7, 3) := by decide +kernel
theorem d_MD_pairs_127 : decode b_MD_pairs 127 = .ok (.iload_n 1, 1) := by decide +kernel
theorem d_MD_pairs_128 : decode b_MD_pairs 128 = .ok (.goto 6, 3) := by decide +kernel
theorem d_MD_pairs_131 : decode b_MD_pairs 131 = .ok (.iconst 1, 1) := by decide +kernel
theorem d_MD_pairs_132 : decode b_MD_pairs 132 = .ok (.iload_n 1, 1) := by decide +kernel
theorem d_MD_pairs_133 : decode b_MD_pairs 133 = .ok (.isub, 1) := by decide +kernel
theorem d_MD_pairs_134 : decode b_MD_pairs 134 = .ok (.istore 5, 2) := by decide +kernel
theorem d_MD_pairs_136 : decode b_MD_pairs 136 = .ok (.aload_n 0, 1) := by decide +kernel
theorem d_MD_pairs_137 : decode b_MD_pairs 137 = .ok (.iload_n 2, 1) := by decide +kernel
theorem d_MD_pairs_138 : decode b_MD_pairs 138 = .ok (.iload 5, 2) := by decide +kernel
theorem d_MD_pairs_140 : decode b_MD_pairs 140 = .ok (.invokevirtual 205, 3) := by decide +kernel
theorem d_MD_pairs_143 : decode b_MD_pairs 143 = .ok (.aload_n 0, 1) := by decide +kernel
theorem d_MD_pairs_144 : decode b_MD_pairs 144 = .ok (.aload_n 0, 1) := by decide +kernel
theorem d_MD_pairs_145 : decode b_MD_pairs 145 = .ok (.getfield 68, 3) := by decide +kernel
theorem d_MD_pairs_148 : decode b_MD_pairs 148 = .ok (.iload_n 2, 1) := by decide +kernel
theorem d_MD_pairs_149 : decode b_MD_pairs 149 = .ok (.iaload, 1) := by decide +kernel
theorem d_MD_pairs_150 : decode b_MD_pairs 150 = .ok (.iload 5, 2) := by decide +kernel
theorem d_MD_pairs_152 : decode b_MD_pairs 152 = .ok (.invokevirtual 205, 3) := by decide +kernel
theorem d_MD_pairs_155 : decode b_MD_pairs 155 = .ok (.iinc 2 1, 3) := by decide +kernel
theorem d_MD_pairs_158 : decode b_MD_pairs 158 = .ok (.goto (-144), 3) := by decide +kernel
theorem d_MD_pairs_161 : decode b_MD_pairs 161 = .ok (.return_, 1) := by decide +kernel
theorem d_MD_isNeutral_0 : decode b_MD_isNeutral 0 = .ok (.iload_n 0, 1) := by decide +kernel
theorem d_MD_isNeutral_1 : decode b_MD_isNeutral 1 = .ok (.bipush 10, 2) := by decide +kernel
theorem d_MD_isNeutral_3 : decode b_MD_isNeutral 3 = .ok (.if_icmp .eq 34, 3) := by decide +kernel
theorem d_MD_isNeutral_6 : decode b_MD_isNeutral 6 = .ok (.iload_n 0, 1) := by decide +kernel
theorem d_MD_isNeutral_7 : decode b_MD_isNeutral 7 = .ok (.bipush 11, 2) := by decide +kernel
theorem d_MD_isNeutral_9 : decode b_MD_isNeutral 9 = .ok (.if_icmp .eq 28, 3) := by decide +kernel
theorem d_MD_isNeutral_12 : decode b_MD_isNeutral 12 = .ok (.iload_n 0, 1) := by decide +kernel
theorem d_MD_isNeutral_13 : decode b_MD_isNeutral 13 = .ok (.bipush 12, 2) := by decide +kernel
theorem d_MD_isNeutral_15 : decode b_MD_isNeutral 15 = .ok (.if_icmp .eq 22, 3) := by decide +kernel
theorem d_MD_isNeutral_18 : decode b_MD_isNeutral 18 = .ok (.iload_n 0, 1) := by decide +kernel
theorem d_MD_isNeutral_19 : decode b_MD_isNeutral 19 = .ok (.bipush 13, 2) := by decide +kernel
theorem d_MD_isNeutral_21 : decode b_MD_isNeutral 21 = .ok (.if_icmp .eq 16, 3) := by decide +kernel
theorem d_MD_isNeutral_24 : decode b_MD_isNeutral 24 = .ok (.iload_n 0, 1) := by decide +kernel
theorem d_MD_isNeutral_25 : decode b_MD_isNeutral 25 = .ok (.invokestatic 122, 3) := by decide +kernel
theorem d_MD_isNeutral_28 : decode b_MD_isNeutral 28 = .ok (.ifCond .ne 9, 3) := by decide +kernel
theorem d_MD_isNeutral_31 : decode b_MD_isNeutral 31 = .ok (.iload_n 0, 1) := by decide +kernel
theorem d_MD_isNeutral_32 : decode b_MD_isNeutral 32 = .ok (.bipush 22, 2) := by decide +kernel
theorem d_MD_isNeutral_34 : decode b_MD_isNeutral 34 = .ok (.if_icmp .ne 7, 3) := by decide +kernel
theorem d_MD_isNeutral_37 : decode b_MD_isNeutral 37 = .ok (.iconst 1, 1) := by decide +kernel
theorem d_MD_isNeutral_38 : decode b_MD_isNeutral 38 = .ok (.goto 4, 3) := by decide +kernel
theorem d_MD_isNeutral_41 : decode b_MD_isNeutral 41 = .ok (.iconst 0, 1) := by decide +kernel
theorem d_MD_isNeutral_42 : decode b_MD_isNeutral 42 = .ok (.ireturn, 1) := by decide +kernel
theorem d_MD_neutrals_0 : decode b_MD_neutrals 0 = .ok (.iconst 0, 1) := by decide +kernel
theorem d_MD_neutrals_1 : decode b_MD_neutrals 1 = .ok (.istore_n 1, 1) := by decide +kernel
theorem d_MD_neutrals_2 : decode b_MD_neutrals 2 = .ok (.iload_n 1, 1) := by decide +kernel
theorem d_MD_neutrals_3 : decode b_MD_neutrals 3 = .ok (.aload_n 0, 1) := by decide +kernel
theorem d_MD_neutrals_4 : decode b_MD_neutrals 4 = .ok (.getfield 155, 3) := by decide +kernel
theorem d_MD_neutrals_7 : decode b_MD_neutrals 7 = .ok (.if_icmp .ge 96, 3) := by decide +kernel
theorem d_MD_neutrals_10 : decode b_MD_neutrals 10 = .ok (.iload_n 1, 1) := by decide +kernel
theorem d_MD_neutrals_11 : decode b_MD_neutrals 11 = .ok (.istore_n 2, 1) := by decide +kernel
theorem d_MD_neutrals_12 : decode b_MD_neutrals 12 = .ok (.iload_n 2, 1) := by decide +kernel
theorem d_MD_neutrals_13 : decode b_MD_neutrals 13 = .ok (.aload_n 0, 1) := by decide +kernel
theorem d_MD_neutrals_14 : decode b_MD_neutrals 14 = .ok (.getfield 155, 3) := by decide +kernel
theorem d_MD_neutrals_17 : decode b_MD_neutrals 17 = .ok (.if_icmp .ge 20, 3) := by decide +kernel
theorem d_MD_neutrals_20 : decode b_MD_neutrals 20 = .ok (.aload_n 0, 1) := by decide +kernel
theorem d_MD_neutrals_21 : decode b_MD_neutrals 21 = .ok (.iload_n 2, 1) := by decide +kernel
theorem d_MD_neutrals_22 : decode b_MD_neutrals 22 = .ok (.invokevirtual 177, 3) := by decide +kernel
theorem d_MD_neutrals_25 : decode b_MD_neutrals 25 = .ok (.invokestatic 208, 3) := by decide +kernel
theorem d_MD_neutrals_28 : decode b_MD_neutrals 28 = .ok (.ifCond .eq 9, 3) := by decide +kernel
theorem d_MD_neutrals_31 : decode b_MD_neutrals 31 = .ok (.iinc 2 1, 3) := by decide +kernel
theorem d_MD_neutrals_34 : decode b_MD_neutrals 34 = .ok (.goto (-22), 3) := by decide +kernel
theorem d_MD_neutrals_37 : decode b_MD_neutrals 37 = .ok (.aload_n 0, 1) := by decide +kernel
theorem d_MD_neutrals_38 : decode b_MD_neutrals 38 = .ok (.iload_n 1, 1) := by decide +kernel
theorem d_MD_neutrals_39 : decode b_MD_neutrals 39 = .ok (.iconst 1, 1) := by decide +kernel
theorem d_MD_neutrals_40 : decode b_MD_neutrals 40 = .ok (.isub, 1) := by decide +kernel
theorem d_MD_neutrals_41 : decode b_MD_neutrals 41 = .ok (.invokevirtual 177, 3) := by decide +kernel
theorem d_MD_neutrals_44 : decode b_MD_neutrals 44 = .ok (.invokestatic 190, 3) := by decide +kernel
theorem d_MD_neutrals_47 : decode b_MD_neutrals 47 = .ok (.istore_n 3, 1) := by decide +kernel
theorem d_MD_neutrals_48 : decode b_MD_neutrals 48 = .ok (.aload_n 0, 1) := by decide +kernel
theorem d_MD_neutrals_49 : decode b_MD_neutrals 49 = .ok (.iload_n 2, 1) := by decide +kernel
theorem d_MD_neutrals_50 : decode b_MD_neutrals 50 = .ok (.invokevirtual 177, 3) := by decide +kernel
theorem d_MD_neutrals_53 : decode b_MD_neutrals 53 = .ok (.invokestatic 190, 3) := by decide +kernel
theorem d_MD_neutrals_56 : decode b_MD_neutrals 56 = .ok (.istore 4, 2) := by decide +kernel
theorem d_MD_neutrals_58 : decode b_MD_neutrals 58 = .ok (.iload_n 1, 1) := by decide +kernel
theorem d_MD_neutrals_59 : decode b_MD_neutrals 59 = .ok (.istore 5, 2) := by decide +kernel
theorem d_MD_neutrals_61 : decode b_MD_neutrals 61 = .ok (.iload 5, 2) := by decide +kernel
theorem d_MD_neutrals_63 : decode b_MD_neutrals 63 = .ok (.iload_n 2, 1) := by decide +kernel
theorem d_MD_neutrals_64 : decode b_MD_neutrals 64 = .ok (.if_icmp .ge 32, 3) := by decide +kernel
theorem d_MD_neutrals_67 : decode b_MD_neutrals 67 = .ok (.aload_n 0, 1) := by decide +kernel
theorem d_MD_neutrals_68 : decode b_MD_neutrals 68 = .ok (.iload 5, 2) := by decide +kernel
theorem d_MD_neutrals_70 : decode b_MD_neutrals 70 = .ok (.iload_n 3, 1) := by decide +kernel
theorem d_MD_neutrals_71 : decode b_MD_neutrals 71 = .ok (.iload 4, 2) := by decide +kernel
theorem d_MD_neutrals_73 : decode b_MD_neutrals 73 = .ok (.if_icmp .ne 7, 3) := by decide +kernel
theorem d_MD_neutrals_76 : decode b_MD_neutrals 76 = .ok (.iload_n 3, 1) := by decide +kernel
theorem d_MD_neutrals_77 : decode b_MD_neutrals 77 = .ok (.goto 10, 3) := by decide +kernel
theorem d_MD_neutrals_80 : decode b_MD_neutrals 80 = .ok (.aload_n 0, 1) := by decide +kernel
theorem d_MD_neutrals_81 : decode b_MD_neutrals 81 = .ok (.getfield 165, 3) := by decide +kernel
theorem d_MD_neutrals_84 : decode b_MD_neutrals 84 = .ok (.invokestatic 168, 3) := by decide +kernel
theorem d_MD_neutrals_87 : decode b_MD_neutrals 87 = .ok (.invokevirtual 180, 3) := by decide +kernel
theorem d_MD_neutrals_90 : decode b_MD_neutrals 90 = .ok (.iinc 5 1, 3) := by decide +kernel
theorem d_MD_neutrals_93 : decode b_MD_neutrals 93 = .ok (.goto (-32), 3) := by decide +kernel
theorem d_MD_neutrals_96 : decode b_MD_neutrals 96 = .ok (.iload_n 2, 1) := by decide +kernel
theorem d_MD_neutrals_97 : decode b_MD_neutrals 97 = .ok (.iconst 1, 1) := by decide +kernel
theorem d_MD_neutrals_98 : decode b_MD_neutrals 98 = .ok (.iadd, 1) := by decide +kernel
theorem d_MD_neutrals_99 : decode b_MD_neutrals 99 = .ok (.istore_n 1, 1) := by decide +kernel
theorem d_MD_neutrals_100 : decode b_MD_neutrals 100 = .ok (.goto (-98), 3) := by decide +kernel
theorem d_MD_neutrals_103 : decode b_MD_neutrals 103 = .ok (.return_, 1) := by decide +kernel
theorem d_MD_resolveSequence_0 : decode b_MD_resolveSequence 0 = .ok (.aload_n 0, 1) := by decide +kernel
theorem d_MD_resolveSequence_1 : decode b_MD_resolveSequence 1 = .ok (.invokevirtual 211, 3) := by decide +kernel
theorem d_MD_resolveSequence_4 : decode b_MD_resolveSequence 4 = .ok (.aload_n 0, 1) := by decide +kernel
theorem d_MD_resolveSequence_5 : decode b_MD_resolveSequence 5 = .ok (.invokevirtual 214, 3) := by decide +kernel
theorem d_MD_resolveSequence_8 : decode b_MD_resolveSequence 8 = .ok (.aload_n 0, 1) := by decide +kernel
theorem d_MD_resolveSequence_9 : decode b_MD_resolveSequence 9 = .ok (.invokevirtual 217, 3) := by decide +kernel
theorem d_MD_resolveSequence_12 : decode b_MD_resolveSequence 12 = .ok (.return_, 1) := by decide +kernel
theorem d_MD_begins_0 : decode b_MD_begins 0 = .ok (.aload_n 0, 1) := by decide +kernel
theorem d_MD_begins_1 : decode b_MD_begins 1 = .ok (.iload_n 1, 1) := by decide +kernel
theorem d_MD_begins_2 : decode b_MD_begins 2 = .ok (.iload_n 2, 1) := by decide +kernel
theorem d_MD_begins_3 : decode b_MD_begins 3 = .ok (.invokevirtual 152, 3) := by decide +kernel
theorem d_MD_begins_6 : decode b_MD_begins 6 = .ok (.istore_n 3, 1) := by decide +kernel
theorem d_MD_begins_7 : decode b_MD_begins 7 = .ok (.iload_n 3, 1) := by decide +kernel
theorem d_MD_begins_8 : decode b_MD_begins 8 = .ok (.iload_n 2, 1) := by decide +kernel
theorem d_MD_begins_9 : decode b_MD_begins 9 = .ok (.if_icmp .lt 18, 3) := by decide +kernel
theorem d_MD_begins_12 : decode b_MD_begins 12 = .ok (.aload_n 0, 1) := by decide +kernel
theorem d_MD_begins_13 : decode b_MD_begins 13 = .ok (.getfield 43, 3) := by decide +kernel
theorem d_MD_begins_16 : decode b_MD_begins 16 = .ok (.iload_n 3, 1) := by decide +kernel
theorem d_MD_begins_17 : decode b_MD_begins 17 = .ok (.iaload, 1) := by decide +kernel
theorem d_MD_begins_18 : decode b_MD_begins 18 = .ok (.aload_n 0, 1) := by decide +kernel
theorem d_MD_begins_19 : decode b_MD_begins 19 = .ok (.getfield 43, 3) := by decide +kernel
theorem d_MD_begins_22 : decode b_MD_begins 22 = .ok (.iload_n 1, 1) := by decide +kernel
theorem d_MD_begins_23 : decode b_MD_begins 23 = .ok (.iaload, 1) := by decide +kernel
theorem d_MD_begins_24 : decode b_MD_begins 24 = .ok (.if_icmp .eq 7, 3) := by decide +kernel
theorem d_MD_begins_27 : decode b_MD_begins 27 = .ok (.iconst 1, 1) := by decide +kernel
theorem d_MD_begins_28 : decode b_MD_begins 28 = .ok (.goto 4, 3) := by decide +kernel
theorem d_MD_begins_31 : decode b_MD_begins 31 = .ok (.iconst 0, 1) := by decide +kernel
theorem d_MD_begins_32 : decode b_MD_begins 32 = .ok (.istore 4, 2) := by decide +kernel
theorem d_MD_begins_34 : decode b_MD_begins 34 = .ok (.iload 4, 2) := by decide +kernel
theorem d_MD_begins_36 : decode b_MD_begins 36 = .ok (.ifCond .eq 27, 3) := by decide +kernel
theorem d_MD_begins_39 : decode b_MD_begins 39 = .ok (.aload_n 0, 1) := by decide +kernel
theorem d_MD_begins_40 : decode b_MD_begins 40 = .ok (.getfield 34, 3) := by decide +kernel
theorem d_MD_begins_43 : decode b_MD_begins 43 = .ok (.iload_n 1, 1) := by decide +kernel
theorem d_MD_begins_44 : decode b_MD_begins 44 = .ok (.iaload, 1) := by decide +kernel
theorem d_MD_begins_45 : decode b_MD_begins 45 = .ok (.bipush 22, 2) := by decide +kernel
theorem d_MD_begins_47 : decode b_MD_begins 47 = .ok (.if_icmp .ne 12, 3) := by decide +kernel
theorem d_MD_begins_50 : decode b_MD_begins 50 = .ok (.aload_n 0, 1) := by decide +kernel
theorem d_MD_begins_51 : decode b_MD_begins 51 = .ok (.getfield 46, 3) := by decide +kernel
theorem d_MD_begins_54 : decode b_MD_begins 54 = .ok (.iload_n 1, 1) := by decide +kernel
theorem d_MD_begins_55 : decode b_MD_begins 55 = .ok (.iaload, 1) := by decide +kernel
theorem d_MD_begins_56 : decode b_MD_begins 56 = .ok (.ifCond .ge 7, 3) := by decide +kernel
theorem d_MD_begins_59 : decode b_MD_begins 59 = .ok (.iconst 1, 1) := by decide +kernel
theorem d_MD_begins_60 : decode b_MD_begins 60 = .ok (.goto 4, 3) := by decide +kernel
theorem d_MD_begins_63 : decode b_MD_begins 63 = .ok (.iconst 0, 1) := by decide +kernel
theorem d_MD_begins_64 : decode b_MD_begins 64 = .ok (.ireturn, 1) := by decide +kernel
theorem d_MD_resolveParagraph_0 : decode b_MD_resolveParagraph 0 = .ok (.iload_n 1, 1) := by decide +kernel
theorem d_MD_resolveParagraph_1 : decode b_MD_resolveParagraph 1 = .ok (.istore 4, 2) := by decide +kernel
theorem d_MD_resolveParagraph_3 : decode b_MD_resolveParagraph 3 = .ok (.iload 4, 2) := by decide +kernel
theorem d_MD_resolveParagraph_5 : decode b_MD_resolveParagraph 5 = .ok (.iload_n 2, 1) := by decide +kernel
theorem d_MD_resolveParagraph_6 : decode b_MD_resolveParagraph 6 = .ok (.if_icmp .ge 17, 3) := by decide +kernel
theorem d_MD_resolveParagraph_9 : decode b_MD_resolveParagraph 9 = .ok (.aload_n 0, 1) := by decide +kernel
theorem d_MD_resolveParagraph_10 : decode b_MD_resolveParagraph 10 = .ok (.getfield 46, 3) := by decide +kernel
theorem d_MD_resolveParagraph_13 : decode b_MD_resolveParagraph 13 = .ok (.iload 4, 2) := by decide +kernel
theorem d_MD_resolveParagraph_15 : decode b_MD_resolveParagraph 15 = .ok (.iconst (-1), 1) := by decide +kernel
theorem d_MD_resolveParagraph_16 : decode b_MD_resolveParagraph 16 = .ok (.iastore, 1) := by decide +kernel
theorem d_MD_resolveParagraph_17 : decode b_MD_resolveParagraph 17 = .ok (.iinc 4 1, 3) := by decide +kernel
theorem d_MD_resolveParagraph_20 : decode b_MD_resolveParagraph 20 = .ok (.goto (-17), 3) := by decide +kernel
theorem d_MD_resolveParagraph_23 : decode b_MD_resolveParagraph 23 = .ok (.iload_n 1, 1) := by decide +kernel
theorem d_MD_resolveParagraph_24 : decode b_MD_resolveParagraph 24 = .ok (.istore 4, 2) := by decide +kernel
theorem d_MD_resolveParagraph_26 : decode b_MD_resolveParagraph 26 = .ok (.iload 4, 2) := by decide +kernel
theorem d_MD_resolveParagraph_28 : decode b_MD_resolveParagraph 28 = .ok (.iload_n 2, 1) := by decide +kernel
theorem d_MD_resolveParagraph_29 : decode b_MD_resolveParagraph 29 = .ok (.if_icmp .ge 58, 3) := by decide +kernel
theorem d_MD_resolveParagraph_32 : decode b_MD_resolveParagraph 32 = .ok (.aload_n 0, 1) := by decide +kernel
theorem d_MD_resolveParagraph_33 : decode b_MD_resolveParagraph 33 = .ok (.getfield 34, 3) := by decide +kernel
theorem d_MD_resolveParagraph_36 : decode b_MD_resolveParagraph 36 = .ok (.iload 4, 2) := by decide +kernel
theorem d_MD_resolveParagraph_38 : decode b_MD_resolveParagraph 38 = .ok (.iaload, 1) := by decide +kernel
theorem d_MD_resolveParagraph_39 : decode b_MD_resolveParagraph 39 = .ok (.invokestatic 122, 3) := by decide +kernel
theorem d_MD_resolveParagraph_42 : decode b_MD_resolveParagraph 42 = .ok (.ifCond .eq 13, 3) := by decide +kernel
theorem d_MD_resolveParagraph_45 : decode b_MD_resolveParagraph 45 = .ok (.aload_n 0, 1) := by decide +kernel
theorem d_MD_resolveParagraph_46 : decode b_MD_resolveParagraph 46 = .ok (.iload 4, 2) := by decide +kernel
theorem d_MD_resolveParagraph_48 : decode b_MD_resolveParagraph 48 = .ok (.iload_n 2, 1) := by decide +kernel
theorem d_MD_resolveParagraph_49 : decode b_MD_resolveParagraph 49 = .ok (.invokevirtual 125, 3) := by decide +kernel
theorem d_MD_resolveParagraph_52 : decode b_MD_resolveParagraph 52 = .ok (.goto 4, 3) := by decide +kernel
theorem d_MD_resolveParagraph_55 : decode b_MD_resolveParagraph 55 = .ok (.iconst (-1), 1) := by decide +kernel
theorem d_MD_resolveParagraph_56 : decode b_MD_resolveParagraph 56 = .ok (.istore 5, 2) := by decide +kernel
theorem d_MD_resolveParagraph_58 : decode b_MD_resolveParagraph 58 = .ok (.iload 5, 2) := by decide +kernel
theorem d_MD_resolveParagraph_60 : decode b_MD_resolveParagraph 60 = .ok (.ifCond .lt 21, 3) := by decide +kernel
theorem d_MD_resolveParagraph_63 : decode b_MD_resolveParagraph 63 = .ok (.aload_n 0, 1) := by decide +kernel
theorem d_MD_resolveParagraph_64 : decode b_MD_resolveParagraph 64 = .ok (.getfield 46, 3) := by decide +kernel
theorem d_MD_resolveParagraph_67 : decode b_MD_resolveParagraph 67 = .ok (.iload 4, 2) := by decide +kernel
theorem d_MD_resolveParagraph_69 : decode b_MD_resolveParagraph 69 = .ok (.iload 5, 2) := by decide +kernel
theorem d_MD_resolveParagraph_71 : decode b_MD_resolveParagraph 71 = .ok (.iastore, 1) := by decide +kernel
theorem d_MD_resolveParagraph_72 : decode b_MD_resolveParagraph 72 = .ok (.aload_n 0, 1) := by decide +kernel
theorem d_MD_resolveParagraph_73 : decode b_MD_resolveParagraph 73 = .ok (.getfield 46, 3) := by decide +kernel
theorem d_MD_resolveParagraph_76 : decode b_MD_resolveParagraph 76 = .ok (.iload 5, 2) := by decide +kernel
theorem d_MD_resolveParagraph_78 : decode b_MD_resolveParagraph 78 = .ok (.iload 4, 2) := by decide +kernel
theorem d_MD_resolveParagraph_80 : decode b_MD_resolveParagraph 80 = .ok (.iastore, 1) := by decide +kernel
theorem d_MD_resolveParagraph_81 : decode b_MD_resolveParagraph 81 = .ok (.iinc 4 1, 3) := by decide +kernel
theorem d_MD_resolveParagraph_84 : decode b_MD_resolveParagraph 84 = .ok (.goto (-58), 3) := by decide +kernel
theorem d_MD_resolveParagraph_87 : decode b_MD_resolveParagraph 87 = .ok (.iload_n 3, 1) := by decide +kernel
theorem d_MD_resolveParagraph_88 : decode b_MD_resolveParagraph 88 = .ok (.iconst 2, 1) := by decide +kernel
theorem d_MD_resolveParagraph_89 : decode b_MD_resolveParagraph 89 = .ok (.if_icmp .ge 7, 3) := by decide +kernel
theorem d_MD_resolveParagraph_92 : decode b_MD_resolveParagraph 92 = .ok (.iload_n 3, 1) := by decide +kernel
theorem d_MD_resolveParagraph_93 : decode b_MD_resolveParagraph 93 = .ok (.goto 17, 3) := by decide +kernel
theorem d_MD_resolveParagraph_96 : decode b_MD_resolveParagraph 96 = .ok (.aload_n 0, 1) := by decide +kernel
theorem d_MD_resolveParagraph_97 : decode b_MD_resolveParagraph 97 = .ok (.iload_n 1, 1) := by decide +kernel
theorem d_MD_resolveParagraph_98 : decode b_MD_resolveParagraph 98 = .ok (.iload_n 2, 1) := by decide +kernel
theorem d_MD_resolveParagraph_99 : decode b_MD_resolveParagraph 99 = .ok (.invokevirtual 144, 3) := by decide +kernel
theorem d_MD_resolveParagraph_102 : decode b_MD_resolveParagraph 102 = .ok (.ifCond .eq 7, 3) := by decide +kernel
theorem d_MD_resolveParagraph_105 : decode b_MD_resolveParagraph 105 = .ok (.iconst 1, 1) := by decide +kernel
theorem d_MD_resolveParagraph_106 : decode b_MD_resolveParagraph 106 = .ok (.goto 4, 3) := by decide +kernel
theorem d_MD_resolveParagraph_109 : decode b_MD_resolveParagraph 109 = .ok (.iconst 0, 1) := by decide +kernel
theorem d_MD_resolveParagraph_110 : decode b_MD_resolveParagraph 110 = .ok (.istore 4, 2) := by decide +kernel
theorem d_MD_resolveParagraph_112 : decode b_MD_resolveParagraph 112 = .ok (.aload_n 0, 1) := by decide +kernel
theorem d_MD_resolveParagraph_113 : decode b_MD_resolveParagraph 113 = .ok (.iload_n 1, 1) := by decide +kernel
theorem d_MD_resolveParagraph_114 : decode b_MD_resolveParagraph 114 = .ok (.iload_n 2, 1) := by decide +kernel
theorem d_MD_resolveParagraph_115 : decode b_MD_resolveParagraph 115 = .ok (.iload 4, 2) := by decide +kernel
theorem d_MD_resolveParagraph_117 : decode b_MD_resolveParagraph 117 = .ok (.invokevirtual 220, 3) := by decide +kernel
theorem d_MD_resolveParagraph_120 : decode b_MD_resolveParagraph 120 = .ok (.iconst 0, 1) := by decide +kernel
theorem d_MD_resolveParagraph_121 : decode b_MD_resolveParagraph 121 = .ok (.istore 5, 2) := by decide +kernel
theorem d_MD_resolveParagraph_123 : decode b_MD_resolveParagraph 123 = .ok (.iload_n 1, 1) := by decide +kernel
theorem d_MD_resolveParagraph_124 : decode b_MD_resolveParagraph 124 = .ok (.istore 6, 2) := by decide +kernel
theorem d_MD_resolveParagraph_126 : decode b_MD_resolveParagraph 126 = .ok (.iload 6, 2) := by decide +kernel
theorem d_MD_resolveParagraph_128 : decode b_MD_resolveParagraph 128 = .ok (.iload_n 2, 1) := by decide +kernel
theorem d_MD_resolveParagraph_129 : decode b_MD_resolveParagraph 129 = .ok (.if_icmp .ge 46, 3) := by decide +kernel
theorem d_MD_resolveParagraph_132 : decode b_MD_resolveParagraph 132 = .ok (.aload_n 0, 1) := by decide +kernel
theorem d_MD_resolveParagraph_133 : decode b_MD_resolveParagraph 133 = .ok (.getfield 43, 3) := by decide +kernel
theorem d_MD_resolveParagraph_136 : decode b_MD_resolveParagraph 136 = .ok (.iload 6, 2) := by decide +kernel
theorem d_MD_resolveParagraph_138 : decode b_MD_resolveParagraph 138 = .ok (.iaload, 1) := by decide +kernel
theorem d_MD_resolveParagraph_139 : decode b_MD_resolveParagraph 139 = .ok (.ifCond .lt 30, 3) := by decide +kernel
theorem d_MD_resolveParagraph_142 : decode b_MD_resolveParagraph 142 = .ok (.aload_n 0, 1) := by decide +kernel
theorem d_MD_resolveParagraph_143 : decode b_MD_resolveParagraph 143 = .ok (.iload 6, 2) := by decide +kernel
theorem d_MD_resolveParagraph_145 : decode b_MD_resolveParagraph 145 = .ok (.iload_n 1, 1) := by decide +kernel
theorem d_MD_resolveParagraph_146 : decode b_MD_resolveParagraph 146 = .ok (.invokevirtual 223, 3) := by decide +kernel
theorem d_MD_resolveParagraph_149 : decode b_MD_resolveParagraph 149 = .ok (.ifCond .eq 20, 3) := by decide +kernel
theorem d_MD_resolveParagraph_152 : decode b_MD_resolveParagraph 152 = .ok (.aload_n 0, 1) := by decide +kernel
theorem d_MD_resolveParagraph_153 : decode b_MD_resolveParagraph 153 = .ok (.iload 6, 2) := by decide +kernel
theorem d_MD_resolveParagraph_155 : decode b_MD_resolveParagraph 155 = .ok (.iload_n 1, 1) := by decide +kernel
theorem d_MD_resolveParagraph_156 : decode b_MD_resolveParagraph 156 = .ok (.iload_n 2, 1) := by decide +kernel
theorem d_MD_resolveParagraph_157 : decode b_MD_resolveParagraph 157 = .ok (.iload 4, 2) := by decide +kernel
theorem d_MD_resolveParagraph_159 : decode b_MD_resolveParagraph 159 = .ok (.invokevirtual 226, 3) := by decide +kernel
theorem d_MD_resolveParagraph_162 : decode b_MD_resolveParagraph 162 = .ok (.aload_n 0, 1) := by decide +kernel
theorem d_MD_resolveParagraph_163 : decode b_MD_resolveParagraph 163 = .ok (.invokevirtual 230, 3) := by decide +kernel
theorem d_MD_resolveParagraph_166 : decode b_MD_resolveParagraph 166 = .ok (.iinc 5 1, 3) := by decide +kernel
theorem d_MD_resolveParagraph_169 : decode b_MD_resolveParagraph 169 = .ok (.iinc 6 1, 3) := by decide +kernel
theorem d_MD_resolveParagraph_172 : decode b_MD_resolveParagraph 172 = .ok (.goto (-46), 3) := by decide +kernel
theorem d_MD_resolveParagraph_175 : decode b_MD_resolveParagraph 175 = .ok (.aload_n 0, 1) := by decide +kernel
theorem d_MD_resolveParagraph_176 : decode b_MD_resolveParagraph 176 = .ok (.iload_n 1, 1) := by decide +kernel
theorem d_MD_resolveParagraph_177 : decode b_MD_resolveParagraph 177 = .ok (.iload_n 2, 1) := by decide +kernel
theorem d_MD_resolveParagraph_178 : decode b_MD_resolveParagraph 178 = .ok (.invokevirtual 233, 3) := by decide +kernel
theorem d_MD_resolveParagraph_181 : decode b_MD_resolveParagraph 181 = .ok (.iconst 4, 1) := by decide +kernel
theorem d_MD_resolveParagraph_182 : decode b_MD_resolveParagraph 182 = .ok (.aload_n 0, 1) := by decide +kernel
theorem d_MD_resolveParagraph_183 : decode b_MD_resolveParagraph 183 = .ok (.getfield 236, 3) := by decide +kernel
theorem d_MD_resolveParagraph_186 : decode b_MD_resolveParagraph 186 = .ok (.imul, 1) := by decide +kernel
theorem d_MD_resolveParagraph_187 : decode b_MD_resolveParagraph 187 = .ok (.istore 6, 2) := by decide +kernel
theorem d_MD_resolveParagraph_189 : decode b_MD_resolveParagraph 189 = .ok (.aload_n 0, 1) := by decide +kernel
theorem d_MD_resolveParagraph_190 : decode b_MD_resolveParagraph 190 = .ok (.getfield 49, 3) := by decide +kernel
theorem d_MD_resolveParagraph_193 : decode b_MD_resolveParagraph 193 = .ok (.iload 6, 2) := by decide +kernel
theorem d_MD_resolveParagraph_195 : decode b_MD_resolveParagraph 195 = .ok (.iload_n 1, 1) := by decide +kernel
theorem d_MD_resolveParagraph_196 : decode b_MD_resolveParagraph 196 = .ok (.iastore, 1) := by decide +kernel
theorem d_MD_resolveParagraph_197 : decode b_MD_resolveParagraph 197 = .ok (.aload_n 0, 1) := by decide +kernel
theorem d_MD_resolveParagraph_198 : decode b_MD_resolveParagraph 198 = .ok (.getfield 49, 3) := by decide +kernel
theorem d_MD_resolveParagraph_201 : decode b_MD_resolveParagraph 201 = .ok (.iload 6, 2) := by decide +kernel
theorem d_MD_resolveParagraph_203 : decode b_MD_resolveParagraph 203 = .ok (.iconst 1, 1) := by decide +kernel
theorem d_MD_resolveParagraph_204 : decode b_MD_resolveParagraph 204 = .ok (.iadd, 1) := by decide +kernel
theorem d_MD_resolveParagraph_205 : decode b_MD_resolveParagraph 205 = .ok (.iload_n 2, 1) := by decide +kernel
theorem d_MD_resolveParagraph_206 : decode b_MD_resolveParagraph 206 = .ok (.iastore, 1) := by decide +kernel
theorem d_MD_resolveParagraph_207 : decode b_MD_resolveParagraph 207 = .ok (.aload_n 0, 1) := by decide +kernel
theorem d_MD_resolveParagraph_208 : decode b_MD_resolveParagraph 208 = .ok (.getfield 49, 3) := by decide +kernel
theorem d_MD_resolveParagraph_211 : decode b_MD_resolveParagraph 211 = .ok (.iload 6, 2) := by decide +kernel
theorem d_MD_resolveParagraph_213 : decode b_MD_resolveParagraph 213 = .ok (.iconst 2, 1) := by decide +kernel
theorem d_MD_resolveParagraph_214 : decode b_MD_resolveParagraph 214 = .ok (.iadd, 1) := by decide +kernel
theorem d_MD_resolveParagraph_215 : decode b_MD_resolveParagraph 215 = .ok (.iload 4, 2) := by decide +kernel
theorem d_MD_resolveParagraph_217 : decode b_MD_resolveParagraph 217 = .ok (.iastore, 1) := by decide +kernel
theorem d_MD_resolveParagraph_218 : decode b_MD_resolveParagraph 218 = .ok (.aload_n 0, 1) := by decide +kernel
theorem d_MD_resolveParagraph_219 : decode b_MD_resolveParagraph 219 = .ok (.getfield 49, 3) := by decide +kernel
theorem d_MD_resolveParagraph_222 : decode b_MD_resolveParagraph 222 = .ok (.iload 6, 2) := by decide +kernel
theorem d_MD_resolveParagraph_224 : decode b_MD_resolveParagraph 224 = .ok (.iconst 3, 1) := by decide +kernel
theorem d_MD_resolveParagraph_225 : decode b_MD_resolveParagraph 225 = .ok (.iadd, 1) := by decide +kernel
theorem d_MD_resolveParagraph_226 : decode b_MD_resolveParagraph 226 = .ok (.iload 5, 2) := by decide +kernel
theorem d_MD_resolveParagraph_228 : decode b_MD_resolveParagraph 228 = .ok (.iastore, 1) := by decide +kernel
theorem d_MD_resolveParagraph_229 : decode b_MD_resolveParagraph 229 = .ok (.return_, 1) := by decide +kernel
theorem d_MD_raise_0 : decode b_MD_raise 0 = .ok (.iload_n 1, 1) := by decide +kernel
theorem d_MD_raise_1 : decode b_MD_raise 1 = .ok (.istore_n 3, 1) := by decide +kernel
theorem d_MD_raise_2 : decode b_MD_raise 2 = .ok (.iload_n 3, 1) := by decide +kernel
theorem d_MD_raise_3 : decode b_MD_raise 3 = .ok (.iload_n 2, 1) := by decide +kernel
theorem d_MD_raise_4 : decode b_MD_raise 4 = .ok (.if_icmp .ge 88, 3) := by decide +kernel
theorem d_MD_raise_7 : decode b_MD_raise 7 = .ok (.aload_n 0, 1) := by decide +kernel
theorem d_MD_raise_8 : decode b_MD_raise 8 = .ok (.getfield 37, 3) := by decide +kernel
theorem d_MD_raise_11 : decode b_MD_raise 11 = .ok (.iload_n 3, 1) := by decide +kernel
theorem d_MD_raise_12 : decode b_MD_raise 12 = .ok (.iaload, 1) := by decide +kernel
theorem d_MD_raise_13 : decode b_MD_raise 13 = .ok (.istore 4, 2) := by decide +kernel
theorem d_MD_raise_15 : decode b_MD_raise 15 = .ok (.aload_n 0, 1) := by decide +kernel
theorem d_MD_raise_16 : decode b_MD_raise 16 = .ok (.getfield 43, 3) := by decide +kernel
theorem d_MD_raise_19 : decode b_MD_raise 19 = .ok (.iload_n 3, 1) := by decide +kernel
theorem d_MD_raise_20 : decode b_MD_raise 20 = .ok (.iaload, 1) := by decide +kernel
theorem d_MD_raise_21 : decode b_MD_raise 21 = .ok (.istore 5, 2) := by decide +kernel
theorem d_MD_raise_23 : decode b_MD_raise 23 = .ok (.iload 5, 2) := by decide +kernel
theorem d_MD_raise_25 : decode b_MD_raise 25 = .ok (.iconst 2, 1) := by decide +kernel
theorem d_MD_raise_26 : decode b_MD_raise 26 = .ok (.irem, 1) := by decide +kernel
theorem d_MD_raise_27 : decode b_MD_raise 27 = .ok (.ifCond .ne 26, 3) := by decide +kernel
theorem d_MD_raise_30 : decode b_MD_raise 30 = .ok (.iload 4, 2) := by decide +kernel
theorem d_MD_raise_32 : decode b_MD_raise 32 = .ok (.iconst 1, 1) := by decide +kernel
theorem d_MD_raise_33 : decode b_MD_raise 33 = .ok (.if_icmp .ne 7, 3) := by decide +kernel
theorem d_MD_raise_36 : decode b_MD_raise 36 = .ok (.iconst 1, 1) := by decide +kernel
theorem d_MD_raise_37 : decode b_MD_raise 37 = .ok (.goto 27, 3) := by decide +kernel
theorem d_MD_raise_40 : decode b_MD_raise 40 = .ok (.iload 4, 2) := by decide +kernel
theorem d_MD_raise_42 : decode b_MD_raise 42 = .ok (.ifCond .ne 7, 3) := by decide +kernel
theorem d_MD_raise_45 : decode b_MD_raise 45 = .ok (.iconst 0, 1) := by decide +kernel
theorem d_MD_raise_46 : decode b_MD_raise 46 = .ok (.goto 18, 3) := by decide +kernel
theorem d_MD_raise_49 : decode b_MD_raise 49 = .ok (.iconst 2, 1) := by decide +kernel
theorem d_MD_raise_50 : decode b_MD_raise 50 = .ok (.goto 14, 3) := by decide +kernel
theorem d_MD_raise_53 : decode b_MD_raise 53 = .ok (.iload 4, 2) := by decide +kernel
theorem d_MD_raise_55 : decode b_MD_raise 55 = .ok (.iconst 1, 1) := by decide +kernel
theorem d_MD_raise_56 : decode b_MD_raise 56 = .ok (.if_icmp .ne 7, 3) := by decide +kernel
theorem d_MD_raise_59 : decode b_MD_raise 59 = .ok (.iconst 0, 1) := by decide +kernel
theorem d_MD_raise_60 : decode b_MD_raise 60 = .ok (.goto 4, 3) := by decide +kernel
theorem d_MD_raise_63 : decode b_MD_raise 63 = .ok (.iconst 1, 1) := by decide +kernel
theorem d_MD_raise_64 : decode b_MD_raise 64 = .ok (.istore 6, 2) := by decide +kernel
theorem d_MD_raise_66 : decode b_MD_raise 66 = .ok (.aload_n 0, 1) := by decide +kernel
theorem d_MD_raise_67 : decode b_MD_raise 67 = .ok (.getfield 43, 3) := by decide +kernel
theorem d_MD_raise_70 : decode b_MD_raise 70 = .ok (.iload_n 3, 1) := by decide +kernel
theorem d_MD_raise_71 : decode b_MD_raise 71 = .ok (.iload 5, 2) := by decide +kernel
theorem d_MD_raise_73 : decode b_MD_raise 73 = .ok (.ifCond .ge 7, 3) := by decide +kernel
theorem d_MD_raise_76 : decode b_MD_raise 76 = .ok (.iconst (-1), 1) := by decide +kernel
theorem d_MD_raise_77 : decode b_MD_raise 77 = .ok (.goto 8, 3) := by decide +kernel
theorem d_MD_raise_80 : decode b_MD_raise 80 = .ok (.iload 5, 2) := by decide +kernel
theorem d_MD_raise_82 : decode b_MD_raise 82 = .ok (.iload 6, 2) := by decide +kernel
theorem d_MD_raise_84 : decode b_MD_raise 84 = .ok (.iadd, 1) := by decide +kernel
theorem d_MD_raise_85 : decode b_MD_raise 85 = .ok (.iastore, 1) := by decide +kernel
theorem d_MD_raise_86 : decode b_MD_raise 86 = .ok (.iinc 3 1, 3) := by decide +kernel
theorem d_MD_raise_89 : decode b_MD_raise 89 = .ok (.goto (-87), 3) := by decide +kernel
theorem d_MD_raise_92 : decode b_MD_raise 92 = .ok (.return_, 1) := by decide +kernel
theorem d_MD_resolve_0 : decode b_MD_resolve 0 = .ok (.aload_n 0, 1) := by decide +kernel
theorem d_MD_resolve_1 : decode b_MD_resolve 1 = .ok (.iload_n 1, 1) := by decide +kernel
theorem d_MD_resolve_2 : decode b_MD_resolve 2 = .ok (.ifCond .lt 8, 3) := by decide +kernel
theorem d_MD_resolve_5 : decode b_MD_resolve 5 = .ok (.iload_n 1, 1) := by decide +kernel
theorem d_MD_resolve_6 : decode b_MD_resolve 6 = .ok (.iconst 2, 1) := by decide +kernel
theorem d_MD_resolve_7 : decode b_MD_resolve 7 = .ok (.if_icmp .le 7, 3) := by decide +kernel
theorem d_MD_resolve_10 : decode b_MD_resolve 10 = .ok (.iconst 1, 1) := by decide +kernel
theorem d_MD_resolve_11 : decode b_MD_resolve 11 = .ok (.goto 4, 3) := by decide +kernel
theorem d_MD_resolve_14 : decode b_MD_resolve 14 = .ok (.iconst 0, 1) := by decide +kernel
theorem d_MD_resolve_15 : decode b_MD_resolve 15 = .ok (.invokevirtual 89, 3) := by decide +kernel
theorem d_MD_resolve_18 : decode b_MD_resolve 18 = .ok (.ifCond .eq 5, 3) := by decide +kernel
theorem d_MD_resolve_21 : decode b_MD_resolve 21 = .ok (.iconst 0, 1) := by decide +kernel
theorem d_MD_resolve_22 : decode b_MD_resolve 22 = .ok (.ireturn, 1) := by decide +kernel
theorem d_MD_resolve_23 : decode b_MD_resolve 23 = .ok (.iconst 0, 1) := by decide +kernel
theorem d_MD_resolve_24 : decode b_MD_resolve 24 = .ok (.istore_n 2, 1) := by decide +kernel
theorem d_MD_resolve_25 : decode b_MD_resolve 25 = .ok (.iload_n 2, 1) := by decide +kernel
theorem d_MD_resolve_26 : decode b_MD_resolve 26 = .ok (.aload_n 0, 1) := by decide +kernel
theorem d_MD_resolve_27 : decode b_MD_resolve 27 = .ok (.getfield 119, 3) := by decide +kernel
theorem d_MD_resolve_30 : decode b_MD_resolve 30 = .ok (.if_icmp .ge 25, 3) := by decide +kernel
theorem d_MD_resolve_33 : decode b_MD_resolve 33 = .ok (.aload_n 0, 1) := by decide +kernel
theorem d_MD_resolve_34 : decode b_MD_resolve 34 = .ok (.getfield 34, 3) := by decide +kernel
theorem d_MD_resolve_37 : decode b_MD_resolve 37 = .ok (.iload_n 2, 1) := by decide +kernel
theorem d_MD_resolve_38 : decode b_MD_resolve 38 = .ok (.aload_n 0, 1) := by decide +kernel
theorem d_MD_resolve_39 : decode b_MD_resolve 39 = .ok (.aload_n 0, 1) := by decide +kernel
theorem d_MD_resolve_40 : decode b_MD_resolve 40 = .ok (.getfield 7, 3) := by decide +kernel
theorem d_MD_resolve_43 : decode b_MD_resolve 43 = .ok (.iload_n 2, 1) := by decide +kernel
theorem d_MD_resolve_44 : decode b_MD_resolve 44 = .ok (.iaload, 1) := by decide +kernel
theorem d_MD_resolve_45 : decode b_MD_resolve 45 = .ok (.invokevirtual 239, 3) := by decide +kernel
theorem d_MD_resolve_48 : decode b_MD_resolve 48 = .ok (.iastore, 1) := by decide +kernel
theorem d_MD_resolve_49 : decode b_MD_resolve 49 = .ok (.iinc 2 1, 3) := by decide +kernel
theorem d_MD_resolve_52 : decode b_MD_resolve 52 = .ok (.goto (-27), 3) := by decide +kernel
theorem d_MD_resolve_55 : decode b_MD_resolve 55 = .ok (.aload_n 0, 1) := by decide +kernel
theorem d_MD_resolve_56 : decode b_MD_resolve 56 = .ok (.iconst 0, 1) := by decide +kernel
theorem d_MD_resolve_57 : decode b_MD_resolve 57 = .ok (.putfield 236, 3) := by decide +kernel
theorem d_MD_resolve_60 : decode b_MD_resolve 60 = .ok (.iconst 0, 1) := by decide +kernel
theorem d_MD_resolve_61 : decode b_MD_resolve 61 = .ok (.istore_n 2, 1) := by decide +kernel
theorem d_MD_resolve_62 : decode b_MD_resolve 62 = .ok (.iconst 0, 1) := by decide +kernel
theorem d_MD_resolve_63 : decode b_MD_resolve 63 = .ok (.istore_n 3, 1) := by decide +kernel
theorem d_MD_resolve_64 : decode b_MD_resolve 64 = .ok (.iload_n 3, 1) := by decide +kernel
theorem d_MD_resolve_65 : decode b_MD_resolve 65 = .ok (.aload_n 0, 1) := by decide +kernel
theorem d_MD_resolve_66 : decode b_MD_resolve 66 = .ok (.getfield 119, 3) := by decide +kernel
theorem d_MD_resolve_69 : decode b_MD_resolve 69 = .ok (.if_icmp .ge 53, 3) := by decide +kernel
theorem d_MD_resolve_72 : decode b_MD_resolve 72 = .ok (.aload_n 0, 1) := by decide +kernel
theorem d_MD_resolve_73 : decode b_MD_resolve 73 = .ok (.getfield 34, 3) := by decide +kernel
theorem d_MD_resolve_76 : decode b_MD_resolve 76 = .ok (.iload_n 3, 1) := by decide +kernel
theorem d_MD_resolve_77 : decode b_MD_resolve 77 = .ok (.iaload, 1) := by decide +kernel
theorem d_MD_resolve_78 : decode b_MD_resolve 78 = .ok (.bipush 10, 2) := by decide +kernel
theorem d_MD_resolve_80 : decode b_MD_resolve 80 = .ok (.if_icmp .eq 13, 3) := by decide +kernel
theorem d_MD_resolve_83 : decode b_MD_resolve 83 = .ok (.iload_n 3, 1) := by decide +kernel
theorem d_MD_resolve_84 : decode b_MD_resolve 84 = .ok (.aload_n 0, 1) := by decide +kernel
theorem d_MD_resolve_85 : decode b_MD_resolve 85 = .ok (.getfield 119, 3) := by decide +kernel
theorem d_MD_resolve_88 : decode b_MD_resolve 88 = .ok (.iconst 1, 1) := by decide +kernel
theorem d_MD_resolve_89 : decode b_MD_resolve 89 = .ok (.isub, 1) := by decide +kernel
theorem d_MD_resolve_90 : decode b_MD_resolve 90 = .ok (.if_icmp .ne 26, 3) := by decide +kernel
theorem d_MD_resolve_93 : decode b_MD_resolve 93 = .ok (.aload_n 0, 1) := by decide +kernel
theorem d_MD_resolve_94 : decode b_MD_resolve 94 = .ok (.iload_n 2, 1) := by decide +kernel
theorem d_MD_resolve_95 : decode b_MD_resolve 95 = .ok (.iload_n 3, 1) := by decide +kernel
theorem d_MD_resolve_96 : decode b_MD_resolve 96 = .ok (.iconst 1, 1) := by decide +kernel
theorem d_MD_resolve_97 : decode b_MD_resolve 97 = .ok (.iadd, 1) := by decide +kernel
theorem d_MD_resolve_98 : decode b_MD_resolve 98 = .ok (.iload_n 1, 1) := by decide +kernel
theorem d_MD_resolve_99 : decode b_MD_resolve 99 = .ok (.invokevirtual 242, 3) := by decide +kernel
theorem d_MD_resolve_102 : decode b_MD_resolve 102 = .ok (.aload_n 0, 1) := by decide +kernel
theorem d_MD_resolve_103 : decode b_MD_resolve 103 = .ok (.dup, 1) := by decide +kernel
theorem d_MD_resolve_104 : decode b_MD_resolve 104 = .ok (.getfield 236, 3) := by decide +kernel
theorem d_MD_resolve_107 : decode b_MD_resolve 107 = .ok (.iconst 1, 1) := by decide +kernel
theorem d_MD_resolve_108 : decode b_MD_resolve 108 = .ok (.iadd, 1) := by decide +kernel
theorem d_MD_resolve_109 : decode b_MD_resolve 109 = .ok (.putfield 236, 3) := by decide +kernel
theorem d_MD_resolve_112 : decode b_MD_resolve 112 = .ok (.iload_n 3, 1) := by decide +kernel
theorem d_MD_resolve_113 : decode b_MD_resolve 113 = .ok (.iconst 1, 1) := by decide +kernel
theorem d_MD_resolve_114 : decode b_MD_resolve 114 = .ok (.iadd, 1) := by decide +kernel
theorem d_MD_resolve_115 : decode b_MD_resolve 115 = .ok (.istore_n 2, 1) := by decide +kernel
theorem d_MD_resolve_116 : decode b_MD_resolve 116 = .ok (.iinc 3 1, 3) := by decide +kernel
theorem d_MD_resolve_119 : decode b_MD_resolve 119 = .ok (.goto (-55), 3) := by decide +kernel
theorem d_MD_resolve_122 : decode b_MD_resolve 122 = .ok (.aload_n 0, 1) := by decide +kernel
theorem d_MD_resolve_123 : decode b_MD_resolve 123 = .ok (.iconst 1, 1) := by decide +kernel
theorem d_MD_resolve_124 : decode b_MD_resolve 124 = .ok (.putfield 92, 3) := by decide +kernel
theorem d_MD_resolve_127 : decode b_MD_resolve 127 = .ok (.aload_n 0, 1) := by decide +kernel
theorem d_MD_resolve_128 : decode b_MD_resolve 128 = .ok (.iconst 0, 1) := by decide +kernel
theorem d_MD_resolve_129 : decode b_MD_resolve 129 = .ok (.putfield 245, 3) := by decide +kernel
theorem d_MD_resolve_132 : decode b_MD_resolve 132 = .ok (.aload_n 0, 1) := by decide +kernel
theorem d_MD_resolve_133 : decode b_MD_resolve 133 = .ok (.getfield 236, 3) := by decide +kernel
theorem d_MD_resolve_136 : decode b_MD_resolve 136 = .ok (.ireturn, 1) := by decide +kernel
theorem d_MD_paragraph_0 : decode b_MD_paragraph 0 = .ok (.iload_n 1, 1) := by decide +kernel
theorem d_MD_paragraph_1 : decode b_MD_paragraph 1 = .ok (.ifCond .lt 24, 3) := by decide +kernel
theorem d_MD_paragraph_4 : decode b_MD_paragraph 4 = .ok (.iload_n 1, 1) := by decide +kernel
theorem d_MD_paragraph_5 : decode b_MD_paragraph 5 = .ok (.aload_n 0, 1) := by decide +kernel
theorem d_MD_paragraph_6 : decode b_MD_paragraph 6 = .ok (.getfield 236, 3) := by decide +kernel
theorem d_MD_paragraph_9 : decode b_MD_paragraph 9 = .ok (.if_icmp .ge 16, 3) := by decide +kernel
theorem d_MD_paragraph_12 : decode b_MD_paragraph 12 = .ok (.iload_n 2, 1) := by decide +kernel
theorem d_MD_paragraph_13 : decode b_MD_paragraph 13 = .ok (.ifCond .lt 12, 3) := by decide +kernel
theorem d_MD_paragraph_16 : decode b_MD_paragraph 16 = .ok (.iload_n 2, 1) := by decide +kernel
theorem d_MD_paragraph_17 : decode b_MD_paragraph 17 = .ok (.iconst 4, 1) := by decide +kernel
theorem d_MD_paragraph_18 : decode b_MD_paragraph 18 = .ok (.if_icmp .ge 7, 3) := by decide +kernel
theorem d_MD_paragraph_21 : decode b_MD_paragraph 21 = .ok (.iconst 1, 1) := by decide +kernel
theorem d_MD_paragraph_22 : decode b_MD_paragraph 22 = .ok (.goto 4, 3) := by decide +kernel
theorem d_MD_paragraph_25 : decode b_MD_paragraph 25 = .ok (.iconst 0, 1) := by decide +kernel
theorem d_MD_paragraph_26 : decode b_MD_paragraph 26 = .ok (.istore_n 3, 1) := by decide +kernel
theorem d_MD_paragraph_27 : decode b_MD_paragraph 27 = .ok (.aload_n 0, 1) := by decide +kernel
theorem d_MD_paragraph_28 : decode b_MD_paragraph 28 = .ok (.aload_n 0, 1) := by decide +kernel
theorem d_MD_paragraph_29 : decode b_MD_paragraph 29 = .ok (.getfield 92, 3) := by decide +kernel
theorem d_MD_paragraph_32 : decode b_MD_paragraph 32 = .ok (.ifCond .ne 7, 3) := by decide +kernel
theorem d_MD_paragraph_35 : decode b_MD_paragraph 35 = .ok (.iconst 1, 1) := by decide +kernel
theorem d_MD_paragraph_36 : decode b_MD_paragraph 36 = .ok (.goto 12, 3) := by decide +kernel
theorem d_MD_paragraph_39 : decode b_MD_paragraph 39 = .ok (.iload_n 3, 1) := by decide +kernel
theorem d_MD_paragraph_40 : decode b_MD_paragraph 40 = .ok (.ifCond .ne 7, 3) := by decide +kernel
theorem d_MD_paragraph_43 : decode b_MD_paragraph 43 = .ok (.iconst 2, 1) := by decide +kernel
theorem d_MD_paragraph_44 : decode b_MD_paragraph 44 = .ok (.goto 4, 3) := by decide +kernel
theorem d_MD_paragraph_47 : decode b_MD_paragraph 47 = .ok (.iconst 0, 1) := by decide +kernel
theorem d_MD_paragraph_48 : decode b_MD_paragraph 48 = .ok (.invokevirtual 89, 3) := by decide +kernel
theorem d_MD_paragraph_51 : decode b_MD_paragraph 51 = .ok (.ifCond .eq 7, 3) := by decide +kernel
theorem d_MD_paragraph_54 : decode b_MD_paragraph 54 = .ok (.iconst 0, 1) := by decide +kernel
theorem d_MD_paragraph_55 : decode b_MD_paragraph 55 = .ok (.goto 13, 3) := by decide +kernel
theorem d_MD_paragraph_58 : decode b_MD_paragraph 58 = .ok (.aload_n 0, 1) := by decide +kernel
theorem d_MD_paragraph_59 : decode b_MD_paragraph 59 = .ok (.getfield 49, 3) := by decide +kernel
theorem d_MD_paragraph_62 : decode b_MD_paragraph 62 = .ok (.iconst 4, 1) := by decide +kernel
theorem d_MD_paragraph_63 : decode b_MD_paragraph 63 = .ok (.iload_n 1, 1) := by decide +kernel
theorem d_MD_paragraph_64 : decode b_MD_paragraph 64 = .ok (.imul, 1) := by decide +kernel
theorem d_MD_paragraph_65 : decode b_MD_paragraph 65 = .ok (.iload_n 2, 1) := by decide +kernel
theorem d_MD_paragraph_66 : decode b_MD_paragraph 66 = .ok (.iadd, 1) := by decide +kernel
theorem d_MD_paragraph_67 : decode b_MD_paragraph 67 = .ok (.iaload, 1) := by decide +kernel
theorem d_MD_paragraph_68 : decode b_MD_paragraph 68 = .ok (.ireturn, 1) := by decide +kernel
theorem d_MD_isWrong_0 : decode b_MD_isWrong 0 = .ok (.aload_n 0, 1) := by decide +kernel
theorem d_MD_isWrong_1 : decode b_MD_isWrong 1 = .ok (.aload_n 0, 1) := by decide +kernel
theorem d_MD_isWrong_2 : decode b_MD_isWrong 2 = .ok (.getfield 92, 3) := by decide +kernel
theorem d_MD_isWrong_5 : decode b_MD_isWrong 5 = .ok (.ifCond .ne 7, 3) := by decide +kernel
theorem d_MD_isWrong_8 : decode b_MD_isWrong 8 = .ok (.iconst 1, 1) := by decide +kernel
theorem d_MD_isWrong_9 : decode b_MD_isWrong 9 = .ok (.goto 20, 3) := by decide +kernel
theorem d_MD_isWrong_12 : decode b_MD_isWrong 12 = .ok (.iload_n 1, 1) := by decide +kernel
theorem d_MD_isWrong_13 : decode b_MD_isWrong 13 = .ok (.ifCond .lt 11, 3) := by decide +kernel
theorem d_MD_isWrong_16 : decode b_MD_isWrong 16 = .ok (.iload_n 1, 1) := by decide +kernel
theorem d_MD_isWrong_17 : decode b_MD_isWrong 17 = .ok (.aload_n 0, 1) := by decide +kernel
theorem d_MD_isWrong_18 : decode b_MD_isWrong 18 = .ok (.getfield 119, 3) := by decide +kernel
theorem d_MD_isWrong_21 : decode b_MD_isWrong 21 = .ok (.if_icmp .lt 7, 3) := by decide +kernel
theorem d_MD_isWrong_24 : decode b_MD_isWrong 24 = .ok (.iconst 2, 1) := by decide +kernel
theorem d_MD_isWrong_25 : decode b_MD_isWrong 25 = .ok (.goto 4, 3) := by decide +kernel
theorem d_MD_isWrong_28 : decode b_MD_isWrong 28 = .ok (.iconst 0, 1) := by decide +kernel
theorem d_MD_isWrong_29 : decode b_MD_isWrong 29 = .ok (.invokevirtual 89, 3) := by decide +kernel
theorem d_MD_isWrong_32 : decode b_MD_isWrong 32 = .ok (.ireturn, 1) := by decide +kernel
theorem d_MD_level_0 : decode b_MD_level 0 = .ok (.aload_n 0, 1) := by decide +kernel
theorem d_MD_level_1 : decode b_MD_level 1 = .ok (.iload_n 1, 1) := by decide +kernel
theorem d_MD_level_2 : decode b_MD_level 2 = .ok (.invokevirtual 248, 3) := by decide +kernel
theorem d_MD_level_5 : decode b_MD_level 5 = .ok (.ifCond .eq 7, 3) := by decide +kernel
theorem d_MD_level_8 : decode b_MD_level 8 = .ok (.iconst 0, 1) := by decide +kernel
theorem d_MD_level_9 : decode b_MD_level 9 = .ok (.goto 9, 3) := by decide +kernel
theorem d_MD_level_12 : decode b_MD_level 12 = .ok (.aload_n 0, 1) := by decide +kernel
theorem d_MD_level_13 : decode b_MD_level 13 = .ok (.getfield 43, 3) := by decide +kernel
theorem d_MD_level_16 : decode b_MD_level 16 = .ok (.iload_n 1, 1) := by decide +kernel
theorem d_MD_level_17 : decode b_MD_level 17 = .ok (.iaload, 1) := by decide +kernel
theorem d_MD_level_18 : decode b_MD_level 18 = .ok (.ireturn, 1) := by decide +kernel
theorem d_MD_kind_0 : decode b_MD_kind 0 = .ok (.aload_n 0, 1) := by decide +kernel
theorem d_MD_kind_1 : decode b_MD_kind 1 = .ok (.iload_n 1, 1) := by decide +kernel
theorem d_MD_kind_2 : decode b_MD_kind 2 = .ok (.invokevirtual 248, 3) := by decide +kernel
theorem d_MD_kind_5 : decode b_MD_kind 5 = .ok (.ifCond .eq 7, 3) := by decide +kernel
theorem d_MD_kind_8 : decode b_MD_kind 8 = .ok (.iconst 0, 1) := by decide +kernel
theorem d_MD_kind_9 : decode b_MD_kind 9 = .ok (.goto 22, 3) := by decide +kernel
theorem d_MD_kind_12 : decode b_MD_kind 12 = .ok (.aload_n 0, 1) := by decide +kernel
theorem d_MD_kind_13 : decode b_MD_kind 13 = .ok (.getfield 43, 3) := by decide +kernel
theorem d_MD_kind_16 : decode b_MD_kind 16 = .ok (.iload_n 1, 1) := by decide +kernel
theorem d_MD_kind_17 : decode b_MD_kind 17 = .ok (.iaload, 1) := by decide +kernel
theorem d_MD_kind_18 : decode b_MD_kind 18 = .ok (.ifCond .ge 7, 3) := by decide +kernel
theorem d_MD_kind_21 : decode b_MD_kind 21 = .ok (.iconst (-1), 1) := by decide +kernel
theorem d_MD_kind_22 : decode b_MD_kind 22 = .ok (.goto 9, 3) := by decide +kernel
theorem d_MD_kind_25 : decode b_MD_kind 25 = .ok (.aload_n 0, 1) := by decide +kernel
theorem d_MD_kind_26 : decode b_MD_kind 26 = .ok (.getfield 37, 3) := by decide +kernel
theorem d_MD_kind_29 : decode b_MD_kind 29 = .ok (.iload_n 1, 1) := by decide +kernel
theorem d_MD_kind_30 : decode b_MD_kind 30 = .ok (.iaload, 1) := by decide +kernel
theorem d_MD_kind_31 : decode b_MD_kind 31 = .ok (.ireturn, 1) := by decide +kernel
theorem d_MD_match_0 : decode b_MD_match 0 = .ok (.aload_n 0, 1) := by decide +kernel
theorem d_MD_match_1 : decode b_MD_match 1 = .ok (.iload_n 1, 1) := by decide +kernel
theorem d_MD_match_2 : decode b_MD_match 2 = .ok (.invokevirtual 248, 3) := by decide +kernel
theorem d_MD_match_5 : decode b_MD_match 5 = .ok (.ifCond .eq 7, 3) := by decide +kernel
theorem d_MD_match_8 : decode b_MD_match 8 = .ok (.iconst 0, 1) := by decide +kernel
theorem d_MD_match_9 : decode b_MD_match 9 = .ok (.goto 9, 3) := by decide +kernel
theorem d_MD_match_12 : decode b_MD_match 12 = .ok (.aload_n 0, 1) := by decide +kernel
theorem d_MD_match_13 : decode b_MD_match 13 = .ok (.getfield 46, 3) := by decide +kernel
theorem d_MD_match_16 : decode b_MD_match 16 = .ok (.iload_n 1, 1) := by decide +kernel
theorem d_MD_match_17 : decode b_MD_match 17 = .ok (.iaload, 1) := by decide +kernel
theorem d_MD_match_18 : decode b_MD_match 18 = .ok (.ireturn, 1) := by decide +kernel
theorem d_MD_partOf_0 : decode b_MD_partOf 0 = .ok (.iconst (-1), 1) := by decide +kernel
theorem d_MD_partOf_1 : decode b_MD_partOf 1 = .ok (.istore_n 2, 1) := by decide +kernel
theorem d_MD_partOf_2 : decode b_MD_partOf 2 = .ok (.iconst 0, 1) := by decide +kernel
theorem d_MD_partOf_3 : decode b_MD_partOf 3 = .ok (.istore_n 3, 1) := by decide +kernel
theorem d_MD_partOf_4 : decode b_MD_partOf 4 = .ok (.iload_n 3, 1) := by decide +kernel
theorem d_MD_partOf_5 : decode b_MD_partOf 5 = .ok (.aload_n 0, 1) := by decide +kernel
theorem d_MD_partOf_6 : decode b_MD_partOf 6 = .ok (.getfield 236, 3) := by decide +kernel
theorem d_MD_partOf_9 : decode b_MD_partOf 9 = .ok (.if_icmp .ge 41, 3) := by decide +kernel
theorem d_MD_partOf_12 : decode b_MD_partOf 12 = .ok (.iload_n 1, 1) := by decide +kernel
theorem d_MD_partOf_13 : decode b_MD_partOf 13 = .ok (.aload_n 0, 1) := by decide +kernel
theorem d_MD_partOf_14 : decode b_MD_partOf 14 = .ok (.getfield 49, 3) := by decide +kernel
theorem d_MD_partOf_17 : decode b_MD_partOf 17 = .ok (.iconst 4, 1) := by decide +kernel
theorem d_MD_partOf_18 : decode b_MD_partOf 18 = .ok (.iload_n 3, 1) := by decide +kernel
theorem d_MD_partOf_19 : decode b_MD_partOf 19 = .ok (.imul, 1) := by decide +kernel
theorem d_MD_partOf_20 : decode b_MD_partOf 20 = .ok (.iaload, 1) := by decide +kernel
theorem d_MD_partOf_21 : decode b_MD_partOf 21 = .ok (.if_icmp .lt 21, 3) := by decide +kernel
theorem d_MD_partOf_24 : decode b_MD_partOf 24 = .ok (.iload_n 1, 1) := by decide +kernel
theorem d_MD_partOf_25 : decode b_MD_partOf 25 = .ok (.aload_n 0, 1) := by decide +kernel
theorem d_MD_partOf_26 : decode b_MD_partOf 26 = .ok (.getfield 49, 3) := by decide +kernel
theorem d_MD_partOf_29 : decode b_MD_partOf 29 = .ok (.iconst 4, 1) := by decide +kernel
theorem d_MD_partOf_30 : decode b_MD_partOf 30 = .ok (.iload_n 3, 1) := by decide +kernel
theorem d_MD_partOf_31 : decode b_MD_partOf 31 = .ok (.imul, 1) := by decide +kernel
theorem d_MD_partOf_32 : decode b_MD_partOf 32 = .ok (.iconst 1, 1) := by decide +kernel
theorem d_MD_partOf_33 : decode b_MD_partOf 33 = .ok (.iadd, 1) := by decide +kernel
theorem d_MD_partOf_34 : decode b_MD_partOf 34 = .ok (.iaload, 1) := by decide +kernel
theorem d_MD_partOf_35 : decode b_MD_partOf 35 = .ok (.if_icmp .ge 7, 3) := by decide +kernel
theorem d_MD_partOf_38 : decode b_MD_partOf 38 = .ok (.iload_n 3, 1) := by decide +kernel
theorem d_MD_partOf_39 : decode b_MD_partOf 39 = .ok (.goto 4, 3) := by decide +kernel
theorem d_MD_partOf_42 : decode b_MD_partOf 42 = .ok (.iload_n 2, 1) := by decide +kernel
theorem d_MD_partOf_43 : decode b_MD_partOf 43 = .ok (.istore_n 2, 1) := by decide +kernel
theorem d_MD_partOf_44 : decode b_MD_partOf 44 = .ok (.iinc 3 1, 3) := by decide +kernel
theorem d_MD_partOf_47 : decode b_MD_partOf 47 = .ok (.goto (-43), 3) := by decide +kernel
theorem d_MD_partOf_50 : decode b_MD_partOf 50 = .ok (.iload_n 2, 1) := by decide +kernel
theorem d_MD_partOf_51 : decode b_MD_partOf 51 = .ok (.ireturn, 1) := by decide +kernel
theorem d_MD_isBlankEnd_0 : decode b_MD_isBlankEnd 0 = .ok (.aload_n 0, 1) := by decide +kernel
theorem d_MD_isBlankEnd_1 : decode b_MD_isBlankEnd 1 = .ok (.getfield 34, 3) := by decide +kernel
theorem d_MD_isBlankEnd_4 : decode b_MD_isBlankEnd 4 = .ok (.iload_n 1, 1) := by decide +kernel
theorem d_MD_isBlankEnd_5 : decode b_MD_isBlankEnd 5 = .ok (.iaload, 1) := by decide +kernel
theorem d_MD_isBlankEnd_6 : decode b_MD_isBlankEnd 6 = .ok (.bipush 11, 2) := by decide +kernel
theorem d_MD_isBlankEnd_8 : decode b_MD_isBlankEnd 8 = .ok (.if_icmp .eq 14, 3) := by decide +kernel
theorem d_MD_isBlankEnd_11 : decode b_MD_isBlankEnd 11 = .ok (.aload_n 0, 1) := by decide +kernel
theorem d_MD_isBlankEnd_12 : decode b_MD_isBlankEnd 12 = .ok (.getfield 34, 3) := by decide +kernel
theorem d_MD_isBlankEnd_15 : decode b_MD_isBlankEnd 15 = .ok (.iload_n 1, 1) := by decide +kernel
theorem d_MD_isBlankEnd_16 : decode b_MD_isBlankEnd 16 = .ok (.iaload, 1) := by decide +kernel
theorem d_MD_isBlankEnd_17 : decode b_MD_isBlankEnd 17 = .ok (.bipush 10, 2) := by decide +kernel
theorem d_MD_isBlankEnd_19 : decode b_MD_isBlankEnd 19 = .ok (.if_icmp .ne 5, 3) := by decide +kernel
theorem d_MD_isBlankEnd_22 : decode b_MD_isBlankEnd 22 = .ok (.iconst 1, 1) := by decide +kernel
theorem d_MD_isBlankEnd_23 : decode b_MD_isBlankEnd 23 = .ok (.ireturn, 1) := by decide +kernel
theorem d_MD_isBlankEnd_24 : decode b_MD_isBlankEnd 24 = .ok (.iload_n 1, 1) := by decide +kernel
theorem d_MD_isBlankEnd_25 : decode b_MD_isBlankEnd 25 = .ok (.istore_n 3, 1) := by decide +kernel
theorem d_MD_isBlankEnd_26 : decode b_MD_isBlankEnd 26 = .ok (.iload_n 3, 1) := by decide +kernel
theorem d_MD_isBlankEnd_27 : decode b_MD_isBlankEnd 27 = .ok (.iload_n 2, 1) := by decide +kernel
theorem d_MD_isBlankEnd_28 : decode b_MD_isBlankEnd 28 = .ok (.if_icmp .ge 52, 3) := by decide +kernel
theorem d_MD_isBlankEnd_31 : decode b_MD_isBlankEnd 31 = .ok (.aload_n 0, 1) := by decide +kernel
theorem d_MD_isBlankEnd_32 : decode b_MD_isBlankEnd 32 = .ok (.getfield 43, 3) := by decide +kernel
theorem d_MD_isBlankEnd_35 : decode b_MD_isBlankEnd 35 = .ok (.iload_n 3, 1) := by decide +kernel
theorem d_MD_isBlankEnd_36 : decode b_MD_isBlankEnd 36 = .ok (.iaload, 1) := by decide +kernel
theorem d_MD_isBlankEnd_37 : decode b_MD_isBlankEnd 37 = .ok (.ifCond .lt 37, 3) := by decide +kernel
theorem d_MD_isBlankEnd_40 : decode b_MD_isBlankEnd 40 = .ok (.aload_n 0, 1) := by decide +kernel
theorem d_MD_isBlankEnd_41 : decode b_MD_isBlankEnd 41 = .ok (.getfield 34, 3) := by decide +kernel
theorem d_MD_isBlankEnd_44 : decode b_MD_isBlankEnd 44 = .ok (.iload_n 3, 1) := by decide +kernel
theorem d_MD_isBlankEnd_45 : decode b_MD_isBlankEnd 45 = .ok (.iaload, 1) := by decide +kernel
theorem d_MD_isBlankEnd_46 : decode b_MD_isBlankEnd 46 = .ok (.bipush 12, 2) := by decide +kernel
theorem d_MD_isBlankEnd_48 : decode b_MD_isBlankEnd 48 = .ok (.if_icmp .eq 26, 3) := by decide +kernel
theorem d_MD_isBlankEnd_51 : decode b_MD_isBlankEnd 51 = .ok (.aload_n 0, 1) := by decide +kernel
theorem d_MD_isBlankEnd_52 : decode b_MD_isBlankEnd 52 = .ok (.getfield 34, 3) := by decide +kernel
theorem d_MD_isBlankEnd_55 : decode b_MD_isBlankEnd 55 = .ok (.iload_n 3, 1) := by decide +kernel
theorem d_MD_isBlankEnd_56 : decode b_MD_isBlankEnd 56 = .ok (.iaload, 1) := by decide +kernel
theorem d_MD_isBlankEnd_57 : decode b_MD_isBlankEnd 57 = .ok (.invokestatic 122, 3) := by decide +kernel
theorem d_MD_isBlankEnd_60 : decode b_MD_isBlankEnd 60 = .ok (.ifCond .ne 14, 3) := by decide +kernel
theorem d_MD_isBlankEnd_63 : decode b_MD_isBlankEnd 63 = .ok (.aload_n 0, 1) := by decide +kernel
theorem d_MD_isBlankEnd_64 : decode b_MD_isBlankEnd 64 = .ok (.getfield 34, 3) := by decide +kernel
theorem d_MD_isBlankEnd_67 : decode b_MD_isBlankEnd 67 = .ok (.iload_n 3, 1) := by decide +kernel
theorem d_MD_isBlankEnd_68 : decode b_MD_isBlankEnd 68 = .ok (.iaload, 1) := by decide +kernel
theorem d_MD_isBlankEnd_69 : decode b_MD_isBlankEnd 69 = .ok (.bipush 22, 2) := by decide +kernel
theorem d_MD_isBlankEnd_71 : decode b_MD_isBlankEnd 71 = .ok (.if_icmp .ne 9, 3) := by decide +kernel
theorem d_MD_isBlankEnd_74 : decode b_MD_isBlankEnd 74 = .ok (.iinc 3 1, 3) := by decide +kernel
theorem d_MD_isBlankEnd_77 : decode b_MD_isBlankEnd 77 = .ok (.goto (-51), 3) := by decide +kernel
theorem d_MD_isBlankEnd_80 : decode b_MD_isBlankEnd 80 = .ok (.iload_n 3, 1) := by decide +kernel
theorem d_MD_isBlankEnd_81 : decode b_MD_isBlankEnd 81 = .ok (.iload_n 1, 1) := by decide +kernel
theorem d_MD_isBlankEnd_82 : decode b_MD_isBlankEnd 82 = .ok (.if_icmp .le 34, 3) := by decide +kernel
theorem d_MD_isBlankEnd_85 : decode b_MD_isBlankEnd 85 = .ok (.iload_n 3, 1) := by decide +kernel
theorem d_MD_isBlankEnd_86 : decode b_MD_isBlankEnd 86 = .ok (.iload_n 2, 1) := by decide +kernel
theorem d_MD_isBlankEnd_87 : decode b_MD_isBlankEnd 87 = .ok (.if_icmp .eq 25, 3) := by decide +kernel
theorem d_MD_isBlankEnd_90 : decode b_MD_isBlankEnd 90 = .ok (.aload_n 0, 1) := by decide +kernel
theorem d_MD_isBlankEnd_91 : decode b_MD_isBlankEnd 91 = .ok (.getfield 34, 3) := by decide +kernel
theorem d_MD_isBlankEnd_94 : decode b_MD_isBlankEnd 94 = .ok (.iload_n 3, 1) := by decide +kernel
theorem d_MD_isBlankEnd_95 : decode b_MD_isBlankEnd 95 = .ok (.iaload, 1) := by decide +kernel
theorem d_MD_isBlankEnd_96 : decode b_MD_isBlankEnd 96 = .ok (.bipush 11, 2) := by decide +kernel
theorem d_MD_isBlankEnd_98 : decode b_MD_isBlankEnd 98 = .ok (.if_icmp .eq 14, 3) := by decide +kernel
theorem d_MD_isBlankEnd_101 : decode b_MD_isBlankEnd 101 = .ok (.aload_n 0, 1) := by decide +kernel
theorem d_MD_isBlankEnd_102 : decode b_MD_isBlankEnd 102 = .ok (.getfield 34, 3) := by decide +kernel
theorem d_MD_isBlankEnd_105 : decode b_MD_isBlankEnd 105 = .ok (.iload_n 3, 1) := by decide +kernel
theorem d_MD_isBlankEnd_106 : decode b_MD_isBlankEnd 106 = .ok (.iaload, 1) := by decide +kernel
theorem d_MD_isBlankEnd_107 : decode b_MD_isBlankEnd 107 = .ok (.bipush 10, 2) := by decide +kernel
theorem d_MD_isBlankEnd_109 : decode b_MD_isBlankEnd 109 = .ok (.if_icmp .ne 7, 3) := by decide +kernel
theorem d_MD_isBlankEnd_112 : decode b_MD_isBlankEnd 112 = .ok (.iconst 1, 1) := by decide +kernel
theorem d_MD_isBlankEnd_113 : decode b_MD_isBlankEnd 113 = .ok (.goto 4, 3) := by decide +kernel
theorem d_MD_isBlankEnd_116 : decode b_MD_isBlankEnd 116 = .ok (.iconst 0, 1) := by decide +kernel
theorem d_MD_isBlankEnd_117 : decode b_MD_isBlankEnd 117 = .ok (.ireturn, 1) := by decide +kernel
theorem d_MD_turn_0 : decode b_MD_turn 0 = .ok (.iload_n 1, 1) := by decide +kernel
theorem d_MD_turn_1 : decode b_MD_turn 1 = .ok (.istore_n 3, 1) := by decide +kernel
theorem d_MD_turn_2 : decode b_MD_turn 2 = .ok (.iload_n 2, 1) := by decide +kernel
theorem d_MD_turn_3 : decode b_MD_turn 3 = .ok (.iconst 1, 1) := by decide +kernel
theorem d_MD_turn_4 : decode b_MD_turn 4 = .ok (.isub, 1) := by decide +kernel
theorem d_MD_turn_5 : decode b_MD_turn 5 = .ok (.istore 4, 2) := by decide +kernel
theorem d_MD_turn_7 : decode b_MD_turn 7 = .ok (.iload_n 3, 1) := by decide +kernel
theorem d_MD_turn_8 : decode b_MD_turn 8 = .ok (.iload 4, 2) := by decide +kernel
theorem d_MD_turn_10 : decode b_MD_turn 10 = .ok (.if_icmp .ge 72, 3) := by decide +kernel
theorem d_MD_turn_13 : decode b_MD_turn 13 = .ok (.aload_n 0, 1) := by decide +kernel
theorem d_MD_turn_14 : decode b_MD_turn 14 = .ok (.getfield 71, 3) := by decide +kernel
theorem d_MD_turn_17 : decode b_MD_turn 17 = .ok (.iload_n 3, 1) := by decide +kernel
theorem d_MD_turn_18 : decode b_MD_turn 18 = .ok (.iaload, 1) := by decide +kernel
theorem d_MD_turn_19 : decode b_MD_turn 19 = .ok (.istore 5, 2) := by decide +kernel
theorem d_MD_turn_21 : decode b_MD_turn 21 = .ok (.aload_n 0, 1) := by decide +kernel
theorem d_MD_turn_22 : decode b_MD_turn 22 = .ok (.getfield 71, 3) := by decide +kernel
theorem d_MD_turn_25 : decode b_MD_turn 25 = .ok (.iload_n 3, 1) := by decide +kernel
theorem d_MD_turn_26 : decode b_MD_turn 26 = .ok (.aload_n 0, 1) := by decide +kernel
theorem d_MD_turn_27 : decode b_MD_turn 27 = .ok (.getfield 71, 3) := by decide +kernel
theorem d_MD_turn_30 : decode b_MD_turn 30 = .ok (.iload 4, 2) := by decide +kernel
theorem d_MD_turn_32 : decode b_MD_turn 32 = .ok (.iaload, 1) := by decide +kernel
theorem d_MD_turn_33 : decode b_MD_turn 33 = .ok (.iastore, 1) := by decide +kernel
theorem d_MD_turn_34 : decode b_MD_turn 34 = .ok (.aload_n 0, 1) := by decide +kernel
theorem d_MD_turn_35 : decode b_MD_turn 35 = .ok (.getfield 71, 3) := by decide +kernel
theorem d_MD_turn_38 : decode b_MD_turn 38 = .ok (.iload 4, 2) := by decide +kernel
theorem d_MD_turn_40 : decode b_MD_turn 40 = .ok (.iload 5, 2) := by decide +kernel
theorem d_MD_turn_42 : decode b_MD_turn 42 = .ok (.iastore, 1) := by decide +kernel
theorem d_MD_turn_43 : decode b_MD_turn 43 = .ok (.aload_n 0, 1) := by decide +kernel
theorem d_MD_turn_44 : decode b_MD_turn 44 = .ok (.getfield 74, 3) := by decide +kernel
theorem d_MD_turn_47 : decode b_MD_turn 47 = .ok (.iload_n 3, 1) := by decide +kernel
theorem d_MD_turn_48 : decode b_MD_turn 48 = .ok (.iaload, 1) := by decide +kernel
theorem d_MD_turn_49 : decode b_MD_turn 49 = .ok (.istore 6, 2) := by decide +kernel
theorem d_MD_turn_51 : decode b_MD_turn 51 = .ok (.aload_n 0, 1) := by decide +kernel
theorem d_MD_turn_52 : decode b_MD_turn 52 = .ok (.getfield 74, 3) := by decide +kernel
theorem d_MD_turn_55 : decode b_MD_turn 55 = .ok (.iload_n 3, 1) := by decide +kernel
theorem d_MD_turn_56 : decode b_MD_turn 56 = .ok (.aload_n 0, 1) := by decide +kernel
theorem d_MD_turn_57 : decode b_MD_turn 57 = .ok (.getfield 74, 3) := by decide +kernel
theorem d_MD_turn_60 : decode b_MD_turn 60 = .ok (.iload 4, 2) := by decide +kernel
theorem d_MD_turn_62 : decode b_MD_turn 62 = .ok (.iaload, 1) := by decide +kernel
theorem d_MD_turn_63 : decode b_MD_turn 63 = .ok (.iastore, 1) := by decide +kernel
theorem d_MD_turn_64 : decode b_MD_turn 64 = .ok (.aload_n 0, 1) := by decide +kernel
theorem d_MD_turn_65 : decode b_MD_turn 65 = .ok (.getfield 74, 3) := by decide +kernel
theorem d_MD_turn_68 : decode b_MD_turn 68 = .ok (.iload 4, 2) := by decide +kernel
theorem d_MD_turn_70 : decode b_MD_turn 70 = .ok (.iload 6, 2) := by decide +kernel
theorem d_MD_turn_72 : decode b_MD_turn 72 = .ok (.iastore, 1) := by decide +kernel
theorem d_MD_turn_73 : decode b_MD_turn 73 = .ok (.iinc 3 1, 3) := by decide +kernel
theorem d_MD_turn_76 : decode b_MD_turn 76 = .ok (.iinc 4 (-1), 3) := by decide +kernel
theorem d_MD_turn_79 : decode b_MD_turn 79 = .ok (.goto (-72), 3) := by decide +kernel
theorem d_MD_turn_82 : decode b_MD_turn 82 = .ok (.return_, 1) := by decide +kernel
theorem d_MD_turnAll_0 : decode b_MD_turnAll 0 = .ok (.iconst 0, 1) := by decide +kernel
theorem d_MD_turnAll_1 : decode b_MD_turnAll 1 = .ok (.istore_n 2, 1) := by decide +kernel
theorem d_MD_turnAll_2 : decode b_MD_turnAll 2 = .ok (.iload_n 2, 1) := by decide +kernel
theorem d_MD_turnAll_3 : decode b_MD_turnAll 3 = .ok (.aload_n 0, 1) := by decide +kernel
theorem d_MD_turnAll_4 : decode b_MD_turnAll 4 = .ok (.getfield 251, 3) := by decide +kernel
theorem d_MD_turnAll_7 : decode b_MD_turnAll 7 = .ok (.if_icmp .ge 42, 3) := by decide +kernel
theorem d_MD_turnAll_10 : decode b_MD_turnAll 10 = .ok (.iload_n 2, 1) := by decide +kernel
theorem d_MD_turnAll_11 : decode b_MD_turnAll 11 = .ok (.istore_n 3, 1) := by decide +kernel
theorem d_MD_turnAll_12 : decode b_MD_turnAll 12 = .ok (.iload_n 3, 1) := by decide +kernel
theorem d_MD_turnAll_13 : decode b_MD_turnAll 13 = .ok (.aload_n 0, 1) := by decide +kernel
theorem d_MD_turnAll_14 : decode b_MD_turnAll 14 = .ok (.getfield 251, 3) := by decide +kernel
theorem d_MD_turnAll_17 : decode b_MD_turnAll 17 = .ok (.if_icmp .ge 19, 3) := by decide +kernel
theorem d_MD_turnAll_20 : decode b_MD_turnAll 20 = .ok (.aload_n 0, 1) := by decide +kernel
theorem d_MD_turnAll_21 : decode b_MD_turnAll 21 = .ok (.getfield 74, 3) := by decide +kernel
theorem d_MD_turnAll_24 : decode b_MD_turnAll 24 = .ok (.iload_n 3, 1) := by decide +kernel
theorem d_MD_turnAll_25 : decode b_MD_turnAll 25 = .ok (.iaload, 1) := by decide +kernel
theorem d_MD_turnAll_26 : decode b_MD_turnAll 26 = .ok (.iload_n 1, 1) := by decide +kernel
theorem d_MD_turnAll_27 : decode b_MD_turnAll 27 = .ok (.if_icmp .lt 9, 3) := by decide +kernel
theorem d_MD_turnAll_30 : decode b_MD_turnAll 30 = .ok (.iinc 3 1, 3) := by decide +kernel
theorem d_MD_turnAll_33 : decode b_MD_turnAll 33 = .ok (.goto (-21), 3) := by decide +kernel
theorem d_MD_turnAll_36 : decode b_MD_turnAll 36 = .ok (.aload_n 0, 1) := by decide +kernel
theorem d_MD_turnAll_37 : decode b_MD_turnAll 37 = .ok (.iload_n 2, 1) := by decide +kernel
theorem d_MD_turnAll_38 : decode b_MD_turnAll 38 = .ok (.iload_n 3, 1) := by decide +kernel
theorem d_MD_turnAll_39 : decode b_MD_turnAll 39 = .ok (.invokevirtual 254, 3) := by decide +kernel
theorem d_MD_turnAll_42 : decode b_MD_turnAll 42 = .ok (.iload_n 3, 1) := by decide +kernel
theorem d_MD_turnAll_43 : decode b_MD_turnAll 43 = .ok (.iconst 1, 1) := by decide +kernel
theorem d_MD_turnAll_44 : decode b_MD_turnAll 44 = .ok (.iadd, 1) := by decide +kernel
theorem d_MD_turnAll_45 : decode b_MD_turnAll 45 = .ok (.istore_n 2, 1) := by decide +kernel
theorem d_MD_turnAll_46 : decode b_MD_turnAll 46 = .ok (.goto (-44), 3) := by decide +kernel
theorem d_MD_turnAll_49 : decode b_MD_turnAll 49 = .ok (.return_, 1) := by decide +kernel
theorem d_MD_line_0 : decode b_MD_line 0 = .ok (.iload_n 1, 1) := by decide +kernel
theorem d_MD_line_1 : decode b_MD_line 1 = .ok (.ifCond .lt 28, 3) := by decide +kernel
theorem d_MD_line_4 : decode b_MD_line 4 = .ok (.iload_n 1, 1) := by decide +kernel
theorem d_MD_line_5 : decode b_MD_line 5 = .ok (.aload_n 0, 1) := by decide +kernel
theorem d_MD_line_6 : decode b_MD_line 6 = .ok (.getfield 119, 3) := by decide +kernel
theorem d_MD_line_9 : decode b_MD_line 9 = .ok (.if_icmp .ge 20, 3) := by decide +kernel
theorem d_MD_line_12 : decode b_MD_line 12 = .ok (.iload_n 2, 1) := by decide +kernel
theorem d_MD_line_13 : decode b_MD_line 13 = .ok (.iconst 1, 1) := by decide +kernel
theorem d_MD_line_14 : decode b_MD_line 14 = .ok (.if_icmp .lt 15, 3) := by decide +kernel
theorem d_MD_line_17 : decode b_MD_line 17 = .ok (.iload_n 2, 1) := by decide +kernel
theorem d_MD_line_18 : decode b_MD_line 18 = .ok (.aload_n 0, 1) := by decide +kernel
theorem d_MD_line_19 : decode b_MD_line 19 = .ok (.getfield 119, 3) := by decide +kernel
theorem d_MD_line_22 : decode b_MD_line 22 = .ok (.if_icmp .gt 7, 3) := by decide +kernel
theorem d_MD_line_25 : decode b_MD_line 25 = .ok (.iconst 1, 1) := by decide +kernel
theorem d_MD_line_26 : decode b_MD_line 26 = .ok (.goto 4, 3) := by decide +kernel
theorem d_MD_line_29 : decode b_MD_line 29 = .ok (.iconst 0, 1) := by decide +kernel
theorem d_MD_line_30 : decode b_MD_line 30 = .ok (.istore_n 3, 1) := by decide +kernel
theorem d_MD_line_31 : decode b_MD_line 31 = .ok (.iload_n 3, 1) := by decide +kernel
theorem d_MD_line_32 : decode b_MD_line 32 = .ok (.ifCond .eq 34, 3) := by decide +kernel
theorem d_MD_line_35 : decode b_MD_line 35 = .ok (.aload_n 0, 1) := by decide +kernel
theorem d_MD_line_36 : decode b_MD_line 36 = .ok (.getfield 92, 3) := by decide +kernel
theorem d_MD_line_39 : decode b_MD_line 39 = .ok (.ifCond .eq 27, 3) := by decide +kernel
theorem d_MD_line_42 : decode b_MD_line 42 = .ok (.iload_n 1, 1) := by decide +kernel
theorem d_MD_line_43 : decode b_MD_line 43 = .ok (.iload_n 2, 1) := by decide +kernel
theorem d_MD_line_44 : decode b_MD_line 44 = .ok (.if_icmp .ge 22, 3) := by decide +kernel
theorem d_MD_line_47 : decode b_MD_line 47 = .ok (.aload_n 0, 1) := by decide +kernel
theorem d_MD_line_48 : decode b_MD_line 48 = .ok (.iload_n 1, 1) := by decide +kernel
theorem d_MD_line_49 : decode b_MD_line 49 = .ok (.invokevirtual 257, 3) := by decide +kernel
theorem d_MD_line_52 : decode b_MD_line 52 = .ok (.aload_n 0, 1) := by decide +kernel
theorem d_MD_line_53 : decode b_MD_line 53 = .ok (.iload_n 2, 1) := by decide +kernel
theorem d_MD_line_54 : decode b_MD_line 54 = .ok (.iconst 1, 1) := by decide +kernel
theorem d_MD_line_55 : decode b_MD_line 55 = .ok (.isub, 1) := by decide +kernel
theorem d_MD_line_56 : decode b_MD_line 56 = .ok (.invokevirtual 257, 3) := by decide +kernel
theorem d_MD_line_59 : decode b_MD_line 59 = .ok (.if_icmp .ne 7, 3) := by decide +kernel
theorem d_MD_line_62 : decode b_MD_line 62 = .ok (.iconst 1, 1) := by decide +kernel
theorem d_MD_line_63 : decode b_MD_line 63 = .ok (.goto 4, 3) := by decide +kernel
theorem d_MD_line_66 : decode b_MD_line 66 = .ok (.iconst 0, 1) := by decide +kernel
theorem d_MD_line_67 : decode b_MD_line 67 = .ok (.istore 4, 2) := by decide +kernel
theorem d_MD_line_69 : decode b_MD_line 69 = .ok (.aload_n 0, 1) := by decide +kernel
theorem d_MD_line_70 : decode b_MD_line 70 = .ok (.aload_n 0, 1) := by decide +kernel
theorem d_MD_line_71 : decode b_MD_line 71 = .ok (.getfield 92, 3) := by decide +kernel
theorem d_MD_line_74 : decode b_MD_line 74 = .ok (.ifCond .ne 7, 3) := by decide +kernel
theorem d_MD_line_77 : decode b_MD_line 77 = .ok (.iconst 1, 1) := by decide +kernel
theorem d_MD_line_78 : decode b_MD_line 78 = .ok (.goto 21, 3) := by decide +kernel
theorem d_MD_line_81 : decode b_MD_line 81 = .ok (.iload_n 3, 1) := by decide +kernel
theorem d_MD_line_82 : decode b_MD_line 82 = .ok (.ifCond .ne 7, 3) := by decide +kernel
theorem d_MD_line_85 : decode b_MD_line 85 = .ok (.iconst 2, 1) := by decide +kernel
theorem d_MD_line_86 : decode b_MD_line 86 = .ok (.goto 13, 3) := by decide +kernel
theorem d_MD_line_89 : decode b_MD_line 89 = .ok (.iload 4, 2) := by decide +kernel
theorem d_MD_line_91 : decode b_MD_line 91 = .ok (.ifCond .ne 7, 3) := by decide +kernel
theorem d_MD_line_94 : decode b_MD_line 94 = .ok (.iconst 3, 1) := by decide +kernel
theorem d_MD_line_95 : decode b_MD_line 95 = .ok (.goto 4, 3) := by decide +kernel
theorem d_MD_line_98 : decode b_MD_line 98 = .ok (.iconst 0, 1) := by decide +kernel
theorem d_MD_line_99 : decode b_MD_line 99 = .ok (.invokevirtual 89, 3) := by decide +kernel
theorem d_MD_line_102 : decode b_MD_line 102 = .ok (.ifCond .eq 5, 3) := by decide +kernel
theorem d_MD_line_105 : decode b_MD_line 105 = .ok (.iconst 0, 1) := by decide +kernel
theorem d_MD_line_106 : decode b_MD_line 106 = .ok (.ireturn, 1) := by decide +kernel
theorem d_MD_line_107 : decode b_MD_line 107 = .ok (.aload_n 0, 1) := by decide +kernel
theorem d_MD_line_108 : decode b_MD_line 108 = .ok (.getfield 49, 3) := by decide +kernel
theorem d_MD_line_111 : decode b_MD_line 111 = .ok (.iconst 4, 1) := by decide +kernel
theorem d_MD_line_112 : decode b_MD_line 112 = .ok (.aload_n 0, 1) := by decide +kernel
theorem d_MD_line_113 : decode b_MD_line 113 = .ok (.iload_n 1, 1) := by decide +kernel
theorem d_MD_line_114 : decode b_MD_line 114 = .ok (.invokevirtual 257, 3) := by decide +kernel
theorem d_MD_line_117 : decode b_MD_line 117 = .ok (.imul, 1) := by decide +kernel
theorem d_MD_line_118 : decode b_MD_line 118 = .ok (.iconst 2, 1) := by decide +kernel
theorem d_MD_line_119 : decode b_MD_line 119 = .ok (.iadd, 1) := by decide +kernel
theorem d_MD_line_120 : decode b_MD_line 120 = .ok (.iaload, 1) := by decide +kernel
theorem d_MD_line_121 : decode b_MD_line 121 = .ok (.istore 5, 2) := by decide +kernel
theorem d_MD_line_123 : decode b_MD_line 123 = .ok (.aload_n 0, 1) := by decide +kernel
theorem d_MD_line_124 : decode b_MD_line 124 = .ok (.iconst 0, 1) := by decide +kernel
theorem d_MD_line_125 : decode b_MD_line 125 = .ok (.putfield 251, 3) := by decide +kernel
theorem d_MD_line_128 : decode b_MD_line 128 = .ok (.iload_n 1, 1) := by decide +kernel
theorem d_MD_line_129 : decode b_MD_line 129 = .ok (.istore 6, 2) := by decide +kernel
theorem d_MD_line_131 : decode b_MD_line 131 = .ok (.iload 6, 2) := by decide +kernel
theorem d_MD_line_133 : decode b_MD_line 133 = .ok (.iload_n 2, 1) := by decide +kernel
theorem d_MD_line_134 : decode b_MD_line 134 = .ok (.if_icmp .ge 71, 3) := by decide +kernel
theorem d_MD_line_137 : decode b_MD_line 137 = .ok (.aload_n 0, 1) := by decide +kernel
theorem d_MD_line_138 : decode b_MD_line 138 = .ok (.getfield 43, 3) := by decide +kernel
theorem d_MD_line_141 : decode b_MD_line 141 = .ok (.iload 6, 2) := by decide +kernel
theorem d_MD_line_143 : decode b_MD_line 143 = .ok (.iaload, 1) := by decide +kernel
theorem d_MD_line_144 : decode b_MD_line 144 = .ok (.ifCond .lt 55, 3) := by decide +kernel
theorem d_MD_line_147 : decode b_MD_line 147 = .ok (.aload_n 0, 1) := by decide +kernel
theorem d_MD_line_148 : decode b_MD_line 148 = .ok (.getfield 71, 3) := by decide +kernel
theorem d_MD_line_151 : decode b_MD_line 151 = .ok (.aload_n 0, 1) := by decide +kernel
theorem d_MD_line_152 : decode b_MD_line 152 = .ok (.getfield 251, 3) := by decide +kernel
theorem d_MD_line_155 : decode b_MD_line 155 = .ok (.iload 6, 2) := by decide +kernel
theorem d_MD_line_157 : decode b_MD_line 157 = .ok (.iastore, 1) := by decide +kernel
theorem d_MD_line_158 : decode b_MD_line 158 = .ok (.aload_n 0, 1) := by decide +kernel
theorem d_MD_line_159 : decode b_MD_line 159 = .ok (.getfield 74, 3) := by decide +kernel
theorem d_MD_line_162 : decode b_MD_line 162 = .ok (.aload_n 0, 1) := by decide +kernel
theorem d_MD_line_163 : decode b_MD_line 163 = .ok (.getfield 251, 3) := by decide +kernel
theorem d_MD_line_166 : decode b_MD_line 166 = .ok (.aload_n 0, 1) := by decide +kernel
theorem d_MD_line_167 : decode b_MD_line 167 = .ok (.iload 6, 2) := by decide +kernel
theorem d_MD_line_169 : decode b_MD_line 169 = .ok (.iload_n 2, 1) := by decide +kernel
theorem d_MD_line_170 : decode b_MD_line 170 = .ok (.invokevirtual 260, 3) := by decide +kernel
theorem d_MD_line_173 : decode b_MD_line 173 = .ok (.ifCond .eq 8, 3) := by decide +kernel
theorem d_MD_line_176 : decode b_MD_line 176 = .ok (.iload 5, 2) := by decide +kernel
theorem d_MD_line_178 : decode b_MD_line 178 = .ok (.goto 10, 3) := by decide +kernel
theorem d_MD_line_181 : decode b_MD_line 181 = .ok (.aload_n 0, 1) := by decide +kernel
theorem d_MD_line_182 : decode b_MD_line 182 = .ok (.getfield 43, 3) := by decide +kernel
theorem d_MD_line_185 : decode b_MD_line 185 = .ok (.iload 6, 2) := by decide +kernel
theorem d_MD_line_187 : decode b_MD_line 187 = .ok (.iaload, 1) := by decide +kernel
theorem d_MD_line_188 : decode b_MD_line 188 = .ok (.iastore, 1) := by decide +kernel
theorem d_MD_line_189 : decode b_MD_line 189 = .ok (.aload_n 0, 1) := by decide +kernel
theorem d_MD_line_190 : decode b_MD_line 190 = .ok (.dup, 1) := by decide +kernel
theorem d_MD_line_191 : decode b_MD_line 191 = .ok (.getfield 251, 3) := by decide +kernel
theorem d_MD_line_194 : decode b_MD_line 194 = .ok (.iconst 1, 1) := by decide +kernel
theorem d_MD_line_195 : decode b_MD_line 195 = .ok (.iadd, 1) := by decide +kernel
theorem d_MD_line_196 : decode b_MD_line 196 = .ok (.putfield 251, 3) := by decide +kernel
theorem d_MD_line_199 : decode b_MD_line 199 = .ok (.iinc 6 1, 3) := by decide +kernel
theorem d_MD_line_202 : decode b_MD_line 202 = .ok (.goto (-71), 3) := by decide +kernel
theorem d_MD_line_205 : decode b_MD_line 205 = .ok (.bipush 127, 2) := by decide +kernel
theorem d_MD_line_207 : decode b_MD_line 207 = .ok (.istore 6, 2) := by decide +kernel
theorem d_MD_line_209 : decode b_MD_line 209 = .ok (.iload 6, 2) := by decide +kernel
theorem d_MD_line_211 : decode b_MD_line 211 = .ok (.ifCond .le 15, 3) := by decide +kernel
theorem d_MD_line_214 : decode b_MD_line 214 = .ok (.aload_n 0, 1) := by decide +kernel
theorem d_MD_line_215 : decode b_MD_line 215 = .ok (.iload 6, 2) := by decide +kernel
theorem d_MD_line_217 : decode b_MD_line 217 = .ok (.invokevirtual 263, 3) := by decide +kernel
theorem d_MD_line_220 : decode b_MD_line 220 = .ok (.iinc 6 (-1), 3) := by decide +kernel
theorem d_MD_line_223 : decode b_MD_line 223 = .ok (.goto (-14), 3) := by decide +kernel
theorem d_MD_line_226 : decode b_MD_line 226 = .ok (.aload_n 0, 1) := by decide +kernel
theorem d_MD_line_227 : decode b_MD_line 227 = .ok (.iconst 1, 1) := by decide +kernel
theorem d_MD_line_228 : decode b_MD_line 228 = .ok (.putfield 245, 3) := by decide +kernel
theorem d_MD_line_231 : decode b_MD_line 231 = .ok (.aload_n 0, 1) := by decide +kernel
theorem d_MD_line_232 : decode b_MD_line 232 = .ok (.getfield 251, 3) := by decide +kernel
theorem d_MD_line_235 : decode b_MD_line 235 = .ok (.ireturn, 1) := by decide +kernel
theorem d_MD_seen_0 : decode b_MD_seen 0 = .ok (.iload_n 1, 1) := by decide +kernel
theorem d_MD_seen_1 : decode b_MD_seen 1 = .ok (.ifCond .lt 24, 3) := by decide +kernel
theorem d_MD_seen_4 : decode b_MD_seen 4 = .ok (.iload_n 1, 1) := by decide +kernel
theorem d_MD_seen_5 : decode b_MD_seen 5 = .ok (.aload_n 0, 1) := by decide +kernel
theorem d_MD_seen_6 : decode b_MD_seen 6 = .ok (.getfield 251, 3) := by decide +kernel
theorem d_MD_seen_9 : decode b_MD_seen 9 = .ok (.if_icmp .ge 16, 3) := by decide +kernel
theorem d_MD_seen_12 : decode b_MD_seen 12 = .ok (.iload_n 2, 1) := by decide +kernel
theorem d_MD_seen_13 : decode b_MD_seen 13 = .ok (.ifCond .lt 12, 3) := by decide +kernel
theorem d_MD_seen_16 : decode b_MD_seen 16 = .ok (.iload_n 2, 1) := by decide +kernel
theorem d_MD_seen_17 : decode b_MD_seen 17 = .ok (.iconst 3, 1) := by decide +kernel
theorem d_MD_seen_18 : decode b_MD_seen 18 = .ok (.if_icmp .ge 7, 3) := by decide +kernel
theorem d_MD_seen_21 : decode b_MD_seen 21 = .ok (.iconst 1, 1) := by decide +kernel
theorem d_MD_seen_22 : decode b_MD_seen 22 = .ok (.goto 4, 3) := by decide +kernel
theorem d_MD_seen_25 : decode b_MD_seen 25 = .ok (.iconst 0, 1) := by decide +kernel
theorem d_MD_seen_26 : decode b_MD_seen 26 = .ok (.istore_n 3, 1) := by decide +kernel
theorem d_MD_seen_27 : decode b_MD_seen 27 = .ok (.aload_n 0, 1) := by decide +kernel
theorem d_MD_seen_28 : decode b_MD_seen 28 = .ok (.aload_n 0, 1) := by decide +kernel
theorem d_MD_seen_29 : decode b_MD_seen 29 = .ok (.getfield 92, 3) := by decide +kernel
theorem d_MD_seen_32 : decode b_MD_seen 32 = .ok (.ifCond .eq 10, 3) := by decide +kernel
theorem d_MD_seen_35 : decode b_MD_seen 35 = .ok (.aload_n 0, 1) := by decide +kernel
theorem d_MD_seen_36 : decode b_MD_seen 36 = .ok (.getfield 245, 3) := by decide +kernel
theorem d_MD_seen_39 : decode b_MD_seen 39 = .ok (.ifCond .ne 7, 3) := by decide +kernel
theorem d_MD_seen_42 : decode b_MD_seen 42 = .ok (.iconst 1, 1) := by decide +kernel
theorem d_MD_seen_43 : decode b_MD_seen 43 = .ok (.goto 12, 3) := by decide +kernel
theorem d_MD_seen_46 : decode b_MD_seen 46 = .ok (.iload_n 3, 1) := by decide +kernel
theorem d_MD_seen_47 : decode b_MD_seen 47 = .ok (.ifCond .ne 7, 3) := by decide +kernel
theorem d_MD_seen_50 : decode b_MD_seen 50 = .ok (.iconst 2, 1) := by decide +kernel
theorem d_MD_seen_51 : decode b_MD_seen 51 = .ok (.goto 4, 3) := by decide +kernel
theorem d_MD_seen_54 : decode b_MD_seen 54 = .ok (.iconst 0, 1) := by decide +kernel
theorem d_MD_seen_55 : decode b_MD_seen 55 = .ok (.invokevirtual 89, 3) := by decide +kernel
theorem d_MD_seen_58 : decode b_MD_seen 58 = .ok (.ifCond .eq 5, 3) := by decide +kernel
theorem d_MD_seen_61 : decode b_MD_seen 61 = .ok (.iconst 0, 1) := by decide +kernel
theorem d_MD_seen_62 : decode b_MD_seen 62 = .ok (.ireturn, 1) := by decide +kernel
theorem d_MD_seen_63 : decode b_MD_seen 63 = .ok (.aload_n 0, 1) := by decide +kernel
theorem d_MD_seen_64 : decode b_MD_seen 64 = .ok (.getfield 7, 3) := by decide +kernel
theorem d_MD_seen_67 : decode b_MD_seen 67 = .ok (.aload_n 0, 1) := by decide +kernel
theorem d_MD_seen_68 : decode b_MD_seen 68 = .ok (.getfield 71, 3) := by decide +kernel
theorem d_MD_seen_71 : decode b_MD_seen 71 = .ok (.iload_n 1, 1) := by decide +kernel
theorem d_MD_seen_72 : decode b_MD_seen 72 = .ok (.iaload, 1) := by decide +kernel
theorem d_MD_seen_73 : decode b_MD_seen 73 = .ok (.iaload, 1) := by decide +kernel
theorem d_MD_seen_74 : decode b_MD_seen 74 = .ok (.istore 4, 2) := by decide +kernel
theorem d_MD_seen_76 : decode b_MD_seen 76 = .ok (.aload_n 0, 1) := by decide +kernel
theorem d_MD_seen_77 : decode b_MD_seen 77 = .ok (.iload 4, 2) := by decide +kernel
theorem d_MD_seen_79 : decode b_MD_seen 79 = .ok (.invokevirtual 112, 3) := by decide +kernel
theorem d_MD_seen_82 : decode b_MD_seen 82 = .ok (.istore 5, 2) := by decide +kernel
theorem d_MD_seen_84 : decode b_MD_seen 84 = .ok (.iload_n 2, 1) := by decide +kernel
theorem d_MD_seen_85 : decode b_MD_seen 85 = .ok (.ifCond .ne 12, 3) := by decide +kernel
theorem d_MD_seen_88 : decode b_MD_seen 88 = .ok (.aload_n 0, 1) := by decide +kernel
theorem d_MD_seen_89 : decode b_MD_seen 89 = .ok (.getfield 71, 3) := by decide +kernel
theorem d_MD_seen_92 : decode b_MD_seen 92 = .ok (.iload_n 1, 1) := by decide +kernel
theorem d_MD_seen_93 : decode b_MD_seen 93 = .ok (.iaload, 1) := by decide +kernel
theorem d_MD_seen_94 : decode b_MD_seen 94 = .ok (.goto 41, 3) := by decide +kernel
theorem d_MD_seen_97 : decode b_MD_seen 97 = .ok (.iload_n 2, 1) := by decide +kernel
theorem d_MD_seen_98 : decode b_MD_seen 98 = .ok (.iconst 1, 1) := by decide +kernel
theorem d_MD_seen_99 : decode b_MD_seen 99 = .ok (.if_icmp .ne 12, 3) := by decide +kernel
theorem d_MD_seen_102 : decode b_MD_seen 102 = .ok (.aload_n 0, 1) := by decide +kernel
theorem d_MD_seen_103 : decode b_MD_seen 103 = .ok (.getfield 74, 3) := by decide +kernel
theorem d_MD_seen_106 : decode b_MD_seen 106 = .ok (.iload_n 1, 1) := by decide +kernel
theorem d_MD_seen_107 : decode b_MD_seen 107 = .ok (.iaload, 1) := by decide +kernel
theorem d_MD_seen_108 : decode b_MD_seen 108 = .ok (.goto 27, 3) := by decide +kernel
theorem d_MD_seen_111 : decode b_MD_seen 111 = .ok (.aload_n 0, 1) := by decide +kernel
theorem d_MD_seen_112 : decode b_MD_seen 112 = .ok (.getfield 74, 3) := by decide +kernel
theorem d_MD_seen_115 : decode b_MD_seen 115 = .ok (.iload_n 1, 1) := by decide +kernel
theorem d_MD_seen_116 : decode b_MD_seen 116 = .ok (.iaload, 1) := by decide +kernel
theorem d_MD_seen_117 : decode b_MD_seen 117 = .ok (.iconst 2, 1) := by decide +kernel
theorem d_MD_seen_118 : decode b_MD_seen 118 = .ok (.irem, 1) := by decide +kernel
theorem d_MD_seen_119 : decode b_MD_seen 119 = .ok (.iconst 1, 1) := by decide +kernel
theorem d_MD_seen_120 : decode b_MD_seen 120 = .ok (.if_icmp .ne 13, 3) := by decide +kernel
theorem d_MD_seen_123 : decode b_MD_seen 123 = .ok (.iload 5, 2) := by decide +kernel
theorem d_MD_seen_125 : decode b_MD_seen 125 = .ok (.ifCond .lt 8, 3) := by decide +kernel
theorem d_MD_seen_128 : decode b_MD_seen 128 = .ok (.iload 5, 2) := by decide +kernel
theorem d_MD_seen_130 : decode b_MD_seen 130 = .ok (.goto 5, 3) := by decide +kernel
theorem d_MD_seen_133 : decode b_MD_seen 133 = .ok (.iload 4, 2) := by decide +kernel
theorem d_MD_seen_135 : decode b_MD_seen 135 = .ok (.ireturn, 1) := by decide +kernel
theorem d_MD_place_0 : decode b_MD_place 0 = .ok (.aload_n 0, 1) := by decide +kernel
theorem d_MD_place_1 : decode b_MD_place 1 = .ok (.aload_n 0, 1) := by decide +kernel
theorem d_MD_place_2 : decode b_MD_place 2 = .ok (.getfield 92, 3) := by decide +kernel
theorem d_MD_place_5 : decode b_MD_place 5 = .ok (.ifCond .eq 10, 3) := by decide +kernel
theorem d_MD_place_8 : decode b_MD_place 8 = .ok (.aload_n 0, 1) := by decide +kernel
theorem d_MD_place_9 : decode b_MD_place 9 = .ok (.getfield 245, 3) := by decide +kernel
theorem d_MD_place_12 : decode b_MD_place 12 = .ok (.ifCond .ne 7, 3) := by decide +kernel
theorem d_MD_place_15 : decode b_MD_place 15 = .ok (.iconst 1, 1) := by decide +kernel
theorem d_MD_place_16 : decode b_MD_place 16 = .ok (.goto 20, 3) := by decide +kernel
theorem d_MD_place_19 : decode b_MD_place 19 = .ok (.iload_n 1, 1) := by decide +kernel
theorem d_MD_place_20 : decode b_MD_place 20 = .ok (.ifCond .lt 11, 3) := by decide +kernel
theorem d_MD_place_23 : decode b_MD_place 23 = .ok (.iload_n 1, 1) := by decide +kernel
theorem d_MD_place_24 : decode b_MD_place 24 = .ok (.aload_n 0, 1) := by decide +kernel
theorem d_MD_place_25 : decode b_MD_place 25 = .ok (.getfield 119, 3) := by decide +kernel
theorem d_MD_place_28 : decode b_MD_place 28 = .ok (.if_icmp .lt 7, 3) := by decide +kernel
theorem d_MD_place_31 : decode b_MD_place 31 = .ok (.iconst 2, 1) := by decide +kernel
theorem d_MD_place_32 : decode b_MD_place 32 = .ok (.goto 4, 3) := by decide +kernel
theorem d_MD_place_35 : decode b_MD_place 35 = .ok (.iconst 0, 1) := by decide +kernel
theorem d_MD_place_36 : decode b_MD_place 36 = .ok (.invokevirtual 89, 3) := by decide +kernel
theorem d_MD_place_39 : decode b_MD_place 39 = .ok (.ifCond .eq 5, 3) := by decide +kernel
theorem d_MD_place_42 : decode b_MD_place 42 = .ok (.iconst 0, 1) := by decide +kernel
theorem d_MD_place_43 : decode b_MD_place 43 = .ok (.ireturn, 1) := by decide +kernel
theorem d_MD_place_44 : decode b_MD_place 44 = .ok (.iconst (-1), 1) := by decide +kernel
theorem d_MD_place_45 : decode b_MD_place 45 = .ok (.istore_n 2, 1) := by decide +kernel
theorem d_MD_place_46 : decode b_MD_place 46 = .ok (.iconst 0, 1) := by decide +kernel
theorem d_MD_place_47 : decode b_MD_place 47 = .ok (.istore_n 3, 1) := by decide +kernel
theorem d_MD_place_48 : decode b_MD_place 48 = .ok (.iload_n 3, 1) := by decide +kernel
theorem d_MD_place_49 : decode b_MD_place 49 = .ok (.aload_n 0, 1) := by decide +kernel
theorem d_MD_place_50 : decode b_MD_place 50 = .ok (.getfield 251, 3) := by decide +kernel
theorem d_MD_place_53 : decode b_MD_place 53 = .ok (.if_icmp .ge 25, 3) := by decide +kernel
theorem d_MD_place_56 : decode b_MD_place 56 = .ok (.aload_n 0, 1) := by decide +kernel
theorem d_MD_place_57 : decode b_MD_place 57 = .ok (.getfield 71, 3) := by decide +kernel
theorem d_MD_place_60 : decode b_MD_place 60 = .ok (.iload_n 3, 1) := by decide +kernel
theorem d_MD_place_61 : decode b_MD_place 61 = .ok (.iaload, 1) := by decide +kernel
theorem d_MD_place_62 : decode b_MD_place 62 = .ok (.iload_n 1, 1) := by decide +kernel
theorem d_MD_place_63 : decode b_MD_place 63 = .ok (.if_icmp .ne 7, 3) := by decide +kernel
theorem d_MD_place_66 : decode b_MD_place 66 = .ok (.iload_n 3, 1) := by decide +kernel
theorem d_MD_place_67 : decode b_MD_place 67 = .ok (.goto 4, 3) := by decide +kernel
theorem d_MD_place_70 : decode b_MD_place 70 = .ok (.iload_n 2, 1) := by decide +kernel
theorem d_MD_place_71 : decode b_MD_place 71 = .ok (.istore_n 2, 1) := by decide +kernel
theorem d_MD_place_72 : decode b_MD_place 72 = .ok (.iinc 3 1, 3) := by decide +kernel
theorem d_MD_place_75 : decode b_MD_place 75 = .ok (.goto (-27), 3) := by decide +kernel
theorem d_MD_place_78 : decode b_MD_place 78 = .ok (.iload_n 2, 1) := by decide +kernel
theorem d_MD_place_79 : decode b_MD_place 79 = .ok (.ireturn, 1) := by decide +kernel
