theorem dX8_air_0 : decode cX8_air 0 = .ok (.iload_n 1, 1) := by decide +kernel
theorem dX8_air_1 : decode cX8_air 1 = .ok (.bipush (-30), 2) := by decide +kernel
theorem dX8_air_3 : decode cX8_air 3 = .ok (.bipush 50, 2) := by decide +kernel
theorem dX8_air_5 : decode cX8_air 5 = .ok (.invokestatic 134, 3) := by decide +kernel
theorem dX8_air_8 : decode cX8_air 8 = .ok (.ifCond .ne 6, 3) := by decide +kernel
theorem dX8_air_11 : decode cX8_air 11 = .ok (.bipush (-100), 2) := by decide +kernel
theorem dX8_air_13 : decode cX8_air 13 = .ok (.ireturn, 1) := by decide +kernel
theorem dX8_air_14 : decode cX8_air 14 = .ok (.aload_n 0, 1) := by decide +kernel
theorem dX8_air_15 : decode cX8_air 15 = .ok (.getfield 7, 3) := by decide +kernel
theorem dX8_air_18 : decode cX8_air 18 = .ok (.istore_n 2, 1) := by decide +kernel
theorem dX8_air_19 : decode cX8_air 19 = .ok (.aload_n 0, 1) := by decide +kernel
theorem dX8_air_20 : decode cX8_air 20 = .ok (.iload_n 1, 1) := by decide +kernel
theorem dX8_air_21 : decode cX8_air 21 = .ok (.putfield 7, 3) := by decide +kernel
theorem dX8_air_24 : decode cX8_air 24 = .ok (.iload_n 2, 1) := by decide +kernel
theorem dX8_air_25 : decode cX8_air 25 = .ok (.ireturn, 1) := by decide +kernel
theorem dX8_bank_0 : decode cX8_bank 0 = .ok (.aload_n 0, 1) := by decide +kernel
theorem dX8_bank_1 : decode cX8_bank 1 = .ok (.getfield 131, 3) := by decide +kernel
theorem dX8_bank_4 : decode cX8_bank 4 = .ok (.iconst 4, 1) := by decide +kernel
theorem dX8_bank_5 : decode cX8_bank 5 = .ok (.if_icmp .eq 37, 3) := by decide +kernel
theorem dX8_bank_8 : decode cX8_bank 8 = .ok (.iload_n 1, 1) := by decide +kernel
theorem dX8_bank_9 : decode cX8_bank 9 = .ok (.iconst 1, 1) := by decide +kernel
theorem dX8_bank_10 : decode cX8_bank 10 = .ok (.bipush 100, 2) := by decide +kernel
theorem dX8_bank_12 : decode cX8_bank 12 = .ok (.invokestatic 134, 3) := by decide +kernel
theorem dX8_bank_15 : decode cX8_bank 15 = .ok (.ifCond .eq 27, 3) := by decide +kernel
theorem dX8_bank_18 : decode cX8_bank 18 = .ok (.iload_n 2, 1) := by decide +kernel
theorem dX8_bank_19 : decode cX8_bank 19 = .ok (.iconst 0, 1) := by decide +kernel
theorem dX8_bank_20 : decode cX8_bank 20 = .ok (.iload_n 1, 1) := by decide +kernel
theorem dX8_bank_21 : decode cX8_bank 21 = .ok (.sipush 400, 3) := by decide +kernel
theorem dX8_bank_24 : decode cX8_bank 24 = .ok (.imul, 1) := by decide +kernel
theorem dX8_bank_25 : decode cX8_bank 25 = .ok (.invokestatic 134, 3) := by decide +kernel
theorem dX8_bank_28 : decode cX8_bank 28 = .ok (.ifCond .eq 14, 3) := by decide +kernel
theorem dX8_bank_31 : decode cX8_bank 31 = .ok (.iload_n 3, 1) := by decide +kernel
theorem dX8_bank_32 : decode cX8_bank 32 = .ok (.iconst 0, 1) := by decide +kernel
theorem dX8_bank_33 : decode cX8_bank 33 = .ok (.sipush 400, 3) := by decide +kernel
theorem dX8_bank_36 : decode cX8_bank 36 = .ok (.invokestatic 134, 3) := by decide +kernel
theorem dX8_bank_39 : decode cX8_bank 39 = .ok (.ifCond .ne 5, 3) := by decide +kernel
theorem dX8_bank_42 : decode cX8_bank 42 = .ok (.iconst (-1), 1) := by decide +kernel
theorem dX8_bank_43 : decode cX8_bank 43 = .ok (.ireturn, 1) := by decide +kernel
theorem dX8_bank_44 : decode cX8_bank 44 = .ok (.aload_n 0, 1) := by decide +kernel
theorem dX8_bank_45 : decode cX8_bank 45 = .ok (.getfield 13, 3) := by decide +kernel
theorem dX8_bank_48 : decode cX8_bank 48 = .ok (.aload_n 0, 1) := by decide +kernel
theorem dX8_bank_49 : decode cX8_bank 49 = .ok (.getfield 131, 3) := by decide +kernel
theorem dX8_bank_52 : decode cX8_bank 52 = .ok (.iload_n 1, 1) := by decide +kernel
theorem dX8_bank_53 : decode cX8_bank 53 = .ok (.iastore, 1) := by decide +kernel
theorem dX8_bank_54 : decode cX8_bank 54 = .ok (.aload_n 0, 1) := by decide +kernel
theorem dX8_bank_55 : decode cX8_bank 55 = .ok (.getfield 17, 3) := by decide +kernel
theorem dX8_bank_58 : decode cX8_bank 58 = .ok (.aload_n 0, 1) := by decide +kernel
theorem dX8_bank_59 : decode cX8_bank 59 = .ok (.getfield 131, 3) := by decide +kernel
theorem dX8_bank_62 : decode cX8_bank 62 = .ok (.iload_n 2, 1) := by decide +kernel
theorem dX8_bank_63 : decode cX8_bank 63 = .ok (.iastore, 1) := by decide +kernel
theorem dX8_bank_64 : decode cX8_bank 64 = .ok (.aload_n 0, 1) := by decide +kernel
theorem dX8_bank_65 : decode cX8_bank 65 = .ok (.getfield 20, 3) := by decide +kernel
theorem dX8_bank_68 : decode cX8_bank 68 = .ok (.aload_n 0, 1) := by decide +kernel
theorem dX8_bank_69 : decode cX8_bank 69 = .ok (.getfield 131, 3) := by decide +kernel
theorem dX8_bank_72 : decode cX8_bank 72 = .ok (.iload_n 3, 1) := by decide +kernel
theorem dX8_bank_73 : decode cX8_bank 73 = .ok (.iastore, 1) := by decide +kernel
theorem dX8_bank_74 : decode cX8_bank 74 = .ok (.aload_n 0, 1) := by decide +kernel
theorem dX8_bank_75 : decode cX8_bank 75 = .ok (.dup, 1) := by decide +kernel
theorem dX8_bank_76 : decode cX8_bank 76 = .ok (.getfield 138, 3) := by decide +kernel
theorem dX8_bank_79 : decode cX8_bank 79 = .ok (.iload_n 2, 1) := by decide +kernel
theorem dX8_bank_80 : decode cX8_bank 80 = .ok (.iadd, 1) := by decide +kernel
theorem dX8_bank_81 : decode cX8_bank 81 = .ok (.putfield 138, 3) := by decide +kernel
theorem dX8_bank_84 : decode cX8_bank 84 = .ok (.aload_n 0, 1) := by decide +kernel
theorem dX8_bank_85 : decode cX8_bank 85 = .ok (.dup, 1) := by decide +kernel
theorem dX8_bank_86 : decode cX8_bank 86 = .ok (.getfield 131, 3) := by decide +kernel
theorem dX8_bank_89 : decode cX8_bank 89 = .ok (.iconst 1, 1) := by decide +kernel
theorem dX8_bank_90 : decode cX8_bank 90 = .ok (.iadd, 1) := by decide +kernel
theorem dX8_bank_91 : decode cX8_bank 91 = .ok (.putfield 131, 3) := by decide +kernel
theorem dX8_bank_94 : decode cX8_bank 94 = .ok (.aload_n 0, 1) := by decide +kernel
theorem dX8_bank_95 : decode cX8_bank 95 = .ok (.getfield 131, 3) := by decide +kernel
theorem dX8_bank_98 : decode cX8_bank 98 = .ok (.iconst 1, 1) := by decide +kernel
theorem dX8_bank_99 : decode cX8_bank 99 = .ok (.isub, 1) := by decide +kernel
theorem dX8_bank_100 : decode cX8_bank 100 = .ok (.ireturn, 1) := by decide +kernel
theorem dX8_banks_0 : decode cX8_banks 0 = .ok (.aload_n 0, 1) := by decide +kernel
theorem dX8_banks_1 : decode cX8_banks 1 = .ok (.iload_n 1, 1) := by decide +kernel
theorem dX8_banks_2 : decode cX8_banks 2 = .ok (.invokevirtual 141, 3) := by decide +kernel
theorem dX8_banks_5 : decode cX8_banks 5 = .ok (.ifCond .ne 5, 3) := by decide +kernel
theorem dX8_banks_8 : decode cX8_banks 8 = .ok (.iconst (-1), 1) := by decide +kernel
theorem dX8_banks_9 : decode cX8_banks 9 = .ok (.ireturn, 1) := by decide +kernel
theorem dX8_banks_10 : decode cX8_banks 10 = .ok (.iload_n 2, 1) := by decide +kernel
theorem dX8_banks_11 : decode cX8_banks 11 = .ok (.tableswitch 94 0 5 #[37, 44, 58, 65, 72, 79], 37) := by decide +kernel
theorem dX8_banks_48 : decode cX8_banks 48 = .ok (.aload_n 0, 1) := by decide +kernel
theorem dX8_banks_49 : decode cX8_banks 49 = .ok (.getfield 17, 3) := by decide +kernel
theorem dX8_banks_52 : decode cX8_banks 52 = .ok (.iload_n 1, 1) := by decide +kernel
theorem dX8_banks_53 : decode cX8_banks 53 = .ok (.iaload, 1) := by decide +kernel
theorem dX8_banks_54 : decode cX8_banks 54 = .ok (.ireturn, 1) := by decide +kernel
theorem dX8_banks_55 : decode cX8_banks 55 = .ok (.aload_n 0, 1) := by decide +kernel
theorem dX8_banks_56 : decode cX8_banks 56 = .ok (.getfield 17, 3) := by decide +kernel
theorem dX8_banks_59 : decode cX8_banks 59 = .ok (.iload_n 1, 1) := by decide +kernel
theorem dX8_banks_60 : decode cX8_banks 60 = .ok (.iaload, 1) := by decide +kernel
theorem dX8_banks_61 : decode cX8_banks 61 = .ok (.aload_n 0, 1) := by decide +kernel
theorem dX8_banks_62 : decode cX8_banks 62 = .ok (.getfield 13, 3) := by decide +kernel
theorem dX8_banks_65 : decode cX8_banks 65 = .ok (.iload_n 1, 1) := by decide +kernel
theorem dX8_banks_66 : decode cX8_banks 66 = .ok (.iaload, 1) := by decide +kernel
theorem dX8_banks_67 : decode cX8_banks 67 = .ok (.idiv, 1) := by decide +kernel
theorem dX8_banks_68 : decode cX8_banks 68 = .ok (.ireturn, 1) := by decide +kernel
theorem dX8_banks_69 : decode cX8_banks 69 = .ok (.aload_n 0, 1) := by decide +kernel
theorem dX8_banks_70 : decode cX8_banks 70 = .ok (.getfield 20, 3) := by decide +kernel
theorem dX8_banks_73 : decode cX8_banks 73 = .ok (.iload_n 1, 1) := by decide +kernel
theorem dX8_banks_74 : decode cX8_banks 74 = .ok (.iaload, 1) := by decide +kernel
theorem dX8_banks_75 : decode cX8_banks 75 = .ok (.ireturn, 1) := by decide +kernel
theorem dX8_banks_76 : decode cX8_banks 76 = .ok (.aload_n 0, 1) := by decide +kernel
theorem dX8_banks_77 : decode cX8_banks 77 = .ok (.getfield 23, 3) := by decide +kernel
theorem dX8_banks_80 : decode cX8_banks 80 = .ok (.iload_n 1, 1) := by decide +kernel
theorem dX8_banks_81 : decode cX8_banks 81 = .ok (.iaload, 1) := by decide +kernel
theorem dX8_banks_82 : decode cX8_banks 82 = .ok (.ireturn, 1) := by decide +kernel
theorem dX8_banks_83 : decode cX8_banks 83 = .ok (.aload_n 0, 1) := by decide +kernel
theorem dX8_banks_84 : decode cX8_banks 84 = .ok (.getfield 26, 3) := by decide +kernel
theorem dX8_banks_87 : decode cX8_banks 87 = .ok (.iload_n 1, 1) := by decide +kernel
theorem dX8_banks_88 : decode cX8_banks 88 = .ok (.iaload, 1) := by decide +kernel
theorem dX8_banks_89 : decode cX8_banks 89 = .ok (.ireturn, 1) := by decide +kernel
theorem dX8_banks_90 : decode cX8_banks 90 = .ok (.aload_n 0, 1) := by decide +kernel
theorem dX8_banks_91 : decode cX8_banks 91 = .ok (.getfield 29, 3) := by decide +kernel
theorem dX8_banks_94 : decode cX8_banks 94 = .ok (.iload_n 1, 1) := by decide +kernel
theorem dX8_banks_95 : decode cX8_banks 95 = .ok (.baload, 1) := by decide +kernel
theorem dX8_banks_96 : decode cX8_banks 96 = .ok (.ifCond .eq 7, 3) := by decide +kernel
theorem dX8_banks_99 : decode cX8_banks 99 = .ok (.iconst 1, 1) := by decide +kernel
theorem dX8_banks_100 : decode cX8_banks 100 = .ok (.goto 4, 3) := by decide +kernel
theorem dX8_banks_103 : decode cX8_banks 103 = .ok (.iconst 0, 1) := by decide +kernel
theorem dX8_banks_104 : decode cX8_banks 104 = .ok (.ireturn, 1) := by decide +kernel
theorem dX8_banks_105 : decode cX8_banks 105 = .ok (.iconst (-1), 1) := by decide +kernel
theorem dX8_banks_106 : decode cX8_banks 106 = .ok (.ireturn, 1) := by decide +kernel
theorem dX8_best_0 : decode cX8_best 0 = .ok (.iconst 0, 1) := by decide +kernel
theorem dX8_best_1 : decode cX8_best 1 = .ok (.istore 5, 2) := by decide +kernel
theorem dX8_best_3 : decode cX8_best 3 = .ok (.iload 5, 2) := by decide +kernel
theorem dX8_best_5 : decode cX8_best 5 = .ok (.aload_n 0, 1) := by decide +kernel
theorem dX8_best_6 : decode cX8_best 6 = .ok (.getfield 131, 3) := by decide +kernel
theorem dX8_best_9 : decode cX8_best 9 = .ok (.if_icmp .ge 19, 3) := by decide +kernel
theorem dX8_best_12 : decode cX8_best 12 = .ok (.aload_n 0, 1) := by decide +kernel
theorem dX8_best_13 : decode cX8_best 13 = .ok (.getfield 29, 3) := by decide +kernel
theorem dX8_best_16 : decode cX8_best 16 = .ok (.iload 5, 2) := by decide +kernel
theorem dX8_best_18 : decode cX8_best 18 = .ok (.baload, 1) := by decide +kernel
theorem dX8_best_19 : decode cX8_best 19 = .ok (.ifCond .eq 9, 3) := by decide +kernel
theorem dX8_best_22 : decode cX8_best 22 = .ok (.iinc 5 1, 3) := by decide +kernel
theorem dX8_best_25 : decode cX8_best 25 = .ok (.goto (-22), 3) := by decide +kernel
theorem dX8_best_28 : decode cX8_best 28 = .ok (.iload 5, 2) := by decide +kernel
theorem dX8_best_30 : decode cX8_best 30 = .ok (.aload_n 0, 1) := by decide +kernel
theorem dX8_best_31 : decode cX8_best 31 = .ok (.getfield 131, 3) := by decide +kernel
theorem dX8_best_34 : decode cX8_best 34 = .ok (.if_icmp .eq 46, 3) := by decide +kernel
theorem dX8_best_37 : decode cX8_best 37 = .ok (.iload_n 1, 1) := by decide +kernel
theorem dX8_best_38 : decode cX8_best 38 = .ok (.iconst 1, 1) := by decide +kernel
theorem dX8_best_39 : decode cX8_best 39 = .ok (.bipush 20, 2) := by decide +kernel
theorem dX8_best_41 : decode cX8_best 41 = .ok (.invokestatic 134, 3) := by decide +kernel
theorem dX8_best_44 : decode cX8_best 44 = .ok (.ifCond .eq 36, 3) := by decide +kernel
theorem dX8_best_47 : decode cX8_best 47 = .ok (.iload_n 3, 1) := by decide +kernel
theorem dX8_best_48 : decode cX8_best 48 = .ok (.iconst 1, 1) := by decide +kernel
theorem dX8_best_49 : decode cX8_best 49 = .ok (.sipush 300, 3) := by decide +kernel
theorem dX8_best_52 : decode cX8_best 52 = .ok (.invokestatic 134, 3) := by decide +kernel
theorem dX8_best_55 : decode cX8_best 55 = .ok (.ifCond .eq 25, 3) := by decide +kernel
theorem dX8_best_58 : decode cX8_best 58 = .ok (.iload_n 2, 1) := by decide +kernel
theorem dX8_best_59 : decode cX8_best 59 = .ok (.iconst 0, 1) := by decide +kernel
theorem dX8_best_60 : decode cX8_best 60 = .ok (.iload_n 1, 1) := by decide +kernel
theorem dX8_best_61 : decode cX8_best 61 = .ok (.iload_n 3, 1) := by decide +kernel
theorem dX8_best_62 : decode cX8_best 62 = .ok (.imul, 1) := by decide +kernel
theorem dX8_best_63 : decode cX8_best 63 = .ok (.invokestatic 134, 3) := by decide +kernel
theorem dX8_best_66 : decode cX8_best 66 = .ok (.ifCond .eq 14, 3) := by decide +kernel
theorem dX8_best_69 : decode cX8_best 69 = .ok (.iload 4, 2) := by decide +kernel
theorem dX8_best_71 : decode cX8_best 71 = .ok (.iconst 1, 1) := by decide +kernel
theorem dX8_best_72 : decode cX8_best 72 = .ok (.bipush 6, 2) := by decide +kernel
theorem dX8_best_74 : decode cX8_best 74 = .ok (.invokestatic 134, 3) := by decide +kernel
theorem dX8_best_77 : decode cX8_best 77 = .ok (.ifCond .ne 5, 3) := by decide +kernel
theorem dX8_best_80 : decode cX8_best 80 = .ok (.iconst (-1), 1) := by decide +kernel
theorem dX8_best_81 : decode cX8_best 81 = .ok (.ireturn, 1) := by decide +kernel
theorem dX8_best_82 : decode cX8_best 82 = .ok (.aload_n 0, 1) := by decide +kernel
theorem dX8_best_83 : decode cX8_best 83 = .ok (.iconst (-1), 1) := by decide +kernel
theorem dX8_best_84 : decode cX8_best 84 = .ok (.putfield 233, 3) := by decide +kernel
theorem dX8_best_87 : decode cX8_best 87 = .ok (.iconst 0, 1) := by decide +kernel
theorem dX8_best_88 : decode cX8_best 88 = .ok (.istore 6, 2) := by decide +kernel
theorem dX8_best_90 : decode cX8_best 90 = .ok (.iload 6, 2) := by decide +kernel
theorem dX8_best_92 : decode cX8_best 92 = .ok (.iload 4, 2) := by decide +kernel
theorem dX8_best_94 : decode cX8_best 94 = .ok (.if_icmp .ge 18, 3) := by decide +kernel
theorem dX8_best_97 : decode cX8_best 97 = .ok (.aload_n 0, 1) := by decide +kernel
theorem dX8_best_98 : decode cX8_best 98 = .ok (.getfield 112, 3) := by decide +kernel
theorem dX8_best_101 : decode cX8_best 101 = .ok (.iload 6, 2) := by decide +kernel
theorem dX8_best_103 : decode cX8_best 103 = .ok (.iload 5, 2) := by decide +kernel
theorem dX8_best_105 : decode cX8_best 105 = .ok (.iastore, 1) := by decide +kernel
theorem dX8_best_106 : decode cX8_best 106 = .ok (.iinc 6 1, 3) := by decide +kernel
theorem dX8_best_109 : decode cX8_best 109 = .ok (.goto (-19), 3) := by decide +kernel
theorem dX8_best_112 : decode cX8_best 112 = .ok (.iconst 1, 1) := by decide +kernel
theorem dX8_best_113 : decode cX8_best 113 = .ok (.istore 6, 2) := by decide +kernel
theorem dX8_best_115 : decode cX8_best 115 = .ok (.iload 6, 2) := by decide +kernel
theorem dX8_best_117 : decode cX8_best 117 = .ok (.ifCond .eq 116, 3) := by decide +kernel
theorem dX8_best_120 : decode cX8_best 120 = .ok (.aload_n 0, 1) := by decide +kernel
theorem dX8_best_121 : decode cX8_best 121 = .ok (.iload_n 1, 1) := by decide +kernel
theorem dX8_best_122 : decode cX8_best 122 = .ok (.iload_n 2, 1) := by decide +kernel
theorem dX8_best_123 : decode cX8_best 123 = .ok (.iload_n 3, 1) := by decide +kernel
theorem dX8_best_124 : decode cX8_best 124 = .ok (.iload 4, 2) := by decide +kernel
theorem dX8_best_126 : decode cX8_best 126 = .ok (.invokevirtual 236, 3) := by decide +kernel
theorem dX8_best_129 : decode cX8_best 129 = .ok (.istore 7, 2) := by decide +kernel
theorem dX8_best_131 : decode cX8_best 131 = .ok (.aload_n 0, 1) := by decide +kernel
theorem dX8_best_132 : decode cX8_best 132 = .ok (.iload 7, 2) := by decide +kernel
theorem dX8_best_134 : decode cX8_best 134 = .ok (.invokevirtual 240, 3) := by decide +kernel
theorem dX8_best_137 : decode cX8_best 137 = .ok (.ifCond .eq 85, 3) := by decide +kernel
theorem dX8_best_140 : decode cX8_best 140 = .ok (.aload_n 0, 1) := by decide +kernel
theorem dX8_best_141 : decode cX8_best 141 = .ok (.iload 7, 2) := by decide +kernel
theorem dX8_best_143 : decode cX8_best 143 = .ok (.putfield 233, 3) := by decide +kernel
theorem dX8_best_146 : decode cX8_best 146 = .ok (.iconst 0, 1) := by decide +kernel
theorem dX8_best_147 : decode cX8_best 147 = .ok (.istore 8, 2) := by decide +kernel
theorem dX8_best_149 : decode cX8_best 149 = .ok (.iload 8, 2) := by decide +kernel
theorem dX8_best_151 : decode cX8_best 151 = .ok (.iload 4, 2) := by decide +kernel
theorem dX8_best_153 : decode cX8_best 153 = .ok (.if_icmp .ge 37, 3) := by decide +kernel
theorem dX8_best_156 : decode cX8_best 156 = .ok (.aload_n 0, 1) := by decide +kernel
theorem dX8_best_157 : decode cX8_best 157 = .ok (.getfield 103, 3) := by decide +kernel
theorem dX8_best_160 : decode cX8_best 160 = .ok (.iload 8, 2) := by decide +kernel
theorem dX8_best_162 : decode cX8_best 162 = .ok (.aload_n 0, 1) := by decide +kernel
theorem dX8_best_163 : decode cX8_best 163 = .ok (.getfield 112, 3) := by decide +kernel
theorem dX8_best_166 : decode cX8_best 166 = .ok (.iload 8, 2) := by decide +kernel
theorem dX8_best_168 : decode cX8_best 168 = .ok (.iaload, 1) := by decide +kernel
theorem dX8_best_169 : decode cX8_best 169 = .ok (.iastore, 1) := by decide +kernel
theorem dX8_best_170 : decode cX8_best 170 = .ok (.aload_n 0, 1) := by decide +kernel
theorem dX8_best_171 : decode cX8_best 171 = .ok (.getfield 106, 3) := by decide +kernel
theorem dX8_best_174 : decode cX8_best 174 = .ok (.iload 8, 2) := by decide +kernel
theorem dX8_best_176 : decode cX8_best 176 = .ok (.aload_n 0, 1) := by decide +kernel
theorem dX8_best_177 : decode cX8_best 177 = .ok (.getfield 115, 3) := by decide +kernel
theorem dX8_best_180 : decode cX8_best 180 = .ok (.iload 8, 2) := by decide +kernel
theorem dX8_best_182 : decode cX8_best 182 = .ok (.iaload, 1) := by decide +kernel
theorem dX8_best_183 : decode cX8_best 183 = .ok (.iastore, 1) := by decide +kernel
theorem dX8_best_184 : decode cX8_best 184 = .ok (.iinc 8 1, 3) := by decide +kernel
theorem dX8_best_187 : decode cX8_best 187 = .ok (.goto (-38), 3) := by decide +kernel
theorem dX8_best_190 : decode cX8_best 190 = .ok (.iconst 0, 1) := by decide +kernel
theorem dX8_best_191 : decode cX8_best 191 = .ok (.istore 8, 2) := by decide +kernel
theorem dX8_best_193 : decode cX8_best 193 = .ok (.iload 8, 2) := by decide +kernel
theorem dX8_best_195 : decode cX8_best 195 = .ok (.aload_n 0, 1) := by decide +kernel
theorem dX8_best_196 : decode cX8_best 196 = .ok (.getfield 131, 3) := by decide +kernel
theorem dX8_best_199 : decode cX8_best 199 = .ok (.if_icmp .ge 23, 3) := by decide +kernel
theorem dX8_best_202 : decode cX8_best 202 = .ok (.aload_n 0, 1) := by decide +kernel
theorem dX8_best_203 : decode cX8_best 203 = .ok (.getfield 109, 3) := by decide +kernel
theorem dX8_best_206 : decode cX8_best 206 = .ok (.iload 8, 2) := by decide +kernel
theorem dX8_best_208 : decode cX8_best 208 = .ok (.aload_n 0, 1) := by decide +kernel
theorem dX8_best_209 : decode cX8_best 209 = .ok (.getfield 118, 3) := by decide +kernel
theorem dX8_best_212 : decode cX8_best 212 = .ok (.iload 8, 2) := by decide +kernel
theorem dX8_best_214 : decode cX8_best 214 = .ok (.iaload, 1) := by decide +kernel
theorem dX8_best_215 : decode cX8_best 215 = .ok (.iastore, 1) := by decide +kernel
theorem dX8_best_216 : decode cX8_best 216 = .ok (.iinc 8 1, 3) := by decide +kernel
theorem dX8_best_219 : decode cX8_best 219 = .ok (.goto (-26), 3) := by decide +kernel
theorem dX8_best_222 : decode cX8_best 222 = .ok (.aload_n 0, 1) := by decide +kernel
theorem dX8_best_223 : decode cX8_best 223 = .ok (.iload 4, 2) := by decide +kernel
theorem dX8_best_225 : decode cX8_best 225 = .ok (.invokevirtual 243, 3) := by decide +kernel
theorem dX8_best_228 : decode cX8_best 228 = .ok (.istore 6, 2) := by decide +kernel
theorem dX8_best_230 : decode cX8_best 230 = .ok (.goto (-115), 3) := by decide +kernel
theorem dX8_best_233 : decode cX8_best 233 = .ok (.aload_n 0, 1) := by decide +kernel
theorem dX8_best_234 : decode cX8_best 234 = .ok (.iconst 1, 1) := by decide +kernel
theorem dX8_best_235 : decode cX8_best 235 = .ok (.putfield 246, 3) := by decide +kernel
theorem dX8_best_238 : decode cX8_best 238 = .ok (.aload_n 0, 1) := by decide +kernel
theorem dX8_best_239 : decode cX8_best 239 = .ok (.iload 4, 2) := by decide +kernel
theorem dX8_best_241 : decode cX8_best 241 = .ok (.putfield 250, 3) := by decide +kernel
theorem dX8_best_244 : decode cX8_best 244 = .ok (.aload_n 0, 1) := by decide +kernel
theorem dX8_best_245 : decode cX8_best 245 = .ok (.getfield 233, 3) := by decide +kernel
theorem dX8_best_248 : decode cX8_best 248 = .ok (.ireturn, 1) := by decide +kernel
theorem dX8_bestOf_0 : decode cX8_bestOf 0 = .ok (.aload_n 0, 1) := by decide +kernel
theorem dX8_bestOf_1 : decode cX8_bestOf 1 = .ok (.getfield 246, 3) := by decide +kernel
theorem dX8_bestOf_4 : decode cX8_bestOf 4 = .ok (.ifCond .eq 17, 3) := by decide +kernel
theorem dX8_bestOf_7 : decode cX8_bestOf 7 = .ok (.iload_n 1, 1) := by decide +kernel
theorem dX8_bestOf_8 : decode cX8_bestOf 8 = .ok (.iconst 0, 1) := by decide +kernel
theorem dX8_bestOf_9 : decode cX8_bestOf 9 = .ok (.aload_n 0, 1) := by decide +kernel
theorem dX8_bestOf_10 : decode cX8_bestOf 10 = .ok (.getfield 250, 3) := by decide +kernel
theorem dX8_bestOf_13 : decode cX8_bestOf 13 = .ok (.iconst 1, 1) := by decide +kernel
theorem dX8_bestOf_14 : decode cX8_bestOf 14 = .ok (.isub, 1) := by decide +kernel
theorem dX8_bestOf_15 : decode cX8_bestOf 15 = .ok (.invokestatic 134, 3) := by decide +kernel
theorem dX8_bestOf_18 : decode cX8_bestOf 18 = .ok (.ifCond .ne 5, 3) := by decide +kernel
theorem dX8_bestOf_21 : decode cX8_bestOf 21 = .ok (.iconst (-1), 1) := by decide +kernel
theorem dX8_bestOf_22 : decode cX8_bestOf 22 = .ok (.ireturn, 1) := by decide +kernel
theorem dX8_bestOf_23 : decode cX8_bestOf 23 = .ok (.iload_n 2, 1) := by decide +kernel
theorem dX8_bestOf_24 : decode cX8_bestOf 24 = .ok (.ifCond .ne 12, 3) := by decide +kernel
theorem dX8_bestOf_27 : decode cX8_bestOf 27 = .ok (.aload_n 0, 1) := by decide +kernel
theorem dX8_bestOf_28 : decode cX8_bestOf 28 = .ok (.getfield 103, 3) := by decide +kernel
theorem dX8_bestOf_31 : decode cX8_bestOf 31 = .ok (.iload_n 1, 1) := by decide +kernel
theorem dX8_bestOf_32 : decode cX8_bestOf 32 = .ok (.iaload, 1) := by decide +kernel
theorem dX8_bestOf_33 : decode cX8_bestOf 33 = .ok (.goto 18, 3) := by decide +kernel
theorem dX8_bestOf_36 : decode cX8_bestOf 36 = .ok (.iload_n 2, 1) := by decide +kernel
theorem dX8_bestOf_37 : decode cX8_bestOf 37 = .ok (.iconst 1, 1) := by decide +kernel
theorem dX8_bestOf_38 : decode cX8_bestOf 38 = .ok (.if_icmp .ne 12, 3) := by decide +kernel
theorem dX8_bestOf_41 : decode cX8_bestOf 41 = .ok (.aload_n 0, 1) := by decide +kernel
theorem dX8_bestOf_42 : decode cX8_bestOf 42 = .ok (.getfield 106, 3) := by decide +kernel
theorem dX8_bestOf_45 : decode cX8_bestOf 45 = .ok (.iload_n 1, 1) := by decide +kernel
theorem dX8_bestOf_46 : decode cX8_bestOf 46 = .ok (.iaload, 1) := by decide +kernel
theorem dX8_bestOf_47 : decode cX8_bestOf 47 = .ok (.goto 4, 3) := by decide +kernel
theorem dX8_bestOf_50 : decode cX8_bestOf 50 = .ok (.iconst (-1), 1) := by decide +kernel
theorem dX8_bestOf_51 : decode cX8_bestOf 51 = .ok (.ireturn, 1) := by decide +kernel
theorem dX8_book_0 : decode cX8_book 0 = .ok (.aload_n 0, 1) := by decide +kernel
theorem dX8_book_1 : decode cX8_book 1 = .ok (.iconst 0, 1) := by decide +kernel
theorem dX8_book_2 : decode cX8_book 2 = .ok (.putfield 155, 3) := by decide +kernel
theorem dX8_book_5 : decode cX8_book 5 = .ok (.aload_n 0, 1) := by decide +kernel
theorem dX8_book_6 : decode cX8_book 6 = .ok (.iconst 0, 1) := by decide +kernel
theorem dX8_book_7 : decode cX8_book 7 = .ok (.putfield 152, 3) := by decide +kernel
theorem dX8_book_10 : decode cX8_book 10 = .ok (.aload_n 0, 1) := by decide +kernel
theorem dX8_book_11 : decode cX8_book 11 = .ok (.iconst 0, 1) := by decide +kernel
theorem dX8_book_12 : decode cX8_book 12 = .ok (.putfield 178, 3) := by decide +kernel
theorem dX8_book_15 : decode cX8_book 15 = .ok (.aload_n 0, 1) := by decide +kernel
theorem dX8_book_16 : decode cX8_book 16 = .ok (.iconst 0, 1) := by decide +kernel
theorem dX8_book_17 : decode cX8_book 17 = .ok (.putfield 175, 3) := by decide +kernel
theorem dX8_book_20 : decode cX8_book 20 = .ok (.iconst 0, 1) := by decide +kernel
theorem dX8_book_21 : decode cX8_book 21 = .ok (.istore_n 1, 1) := by decide +kernel
theorem dX8_book_22 : decode cX8_book 22 = .ok (.iload_n 1, 1) := by decide +kernel
theorem dX8_book_23 : decode cX8_book 23 = .ok (.iconst 5, 1) := by decide +kernel
theorem dX8_book_24 : decode cX8_book 24 = .ok (.if_icmp .ge 19, 3) := by decide +kernel
theorem dX8_book_27 : decode cX8_book 27 = .ok (.aload_n 0, 1) := by decide +kernel
theorem dX8_book_28 : decode cX8_book 28 = .ok (.getfield 97, 3) := by decide +kernel
theorem dX8_book_31 : decode cX8_book 31 = .ok (.iload_n 1, 1) := by decide +kernel
theorem dX8_book_32 : decode cX8_book 32 = .ok (.iload_n 1, 1) := by decide +kernel
theorem dX8_book_33 : decode cX8_book 33 = .ok (.invokestatic 127, 3) := by decide +kernel
theorem dX8_book_36 : decode cX8_book 36 = .ok (.iastore, 1) := by decide +kernel
theorem dX8_book_37 : decode cX8_book 37 = .ok (.iinc 1 1, 3) := by decide +kernel
theorem dX8_book_40 : decode cX8_book 40 = .ok (.goto (-18), 3) := by decide +kernel
theorem dX8_book_43 : decode cX8_book 43 = .ok (.iconst 0, 1) := by decide +kernel
theorem dX8_book_44 : decode cX8_book 44 = .ok (.istore_n 1, 1) := by decide +kernel
theorem dX8_book_45 : decode cX8_book 45 = .ok (.iconst 1, 1) := by decide +kernel
theorem dX8_book_46 : decode cX8_book 46 = .ok (.istore_n 2, 1) := by decide +kernel
theorem dX8_book_47 : decode cX8_book 47 = .ok (.aload_n 0, 1) := by decide +kernel
theorem dX8_book_48 : decode cX8_book 48 = .ok (.invokevirtual 158, 3) := by decide +kernel
theorem dX8_book_51 : decode cX8_book 51 = .ok (.iconst (-1), 1) := by decide +kernel
theorem dX8_book_52 : decode cX8_book 52 = .ok (.if_icmp .eq 7, 3) := by decide +kernel
theorem dX8_book_55 : decode cX8_book 55 = .ok (.iconst 1, 1) := by decide +kernel
theorem dX8_book_56 : decode cX8_book 56 = .ok (.goto 4, 3) := by decide +kernel
theorem dX8_book_59 : decode cX8_book 59 = .ok (.iconst 0, 1) := by decide +kernel
theorem dX8_book_60 : decode cX8_book 60 = .ok (.istore_n 3, 1) := by decide +kernel
theorem dX8_book_61 : decode cX8_book 61 = .ok (.iload_n 2, 1) := by decide +kernel
theorem dX8_book_62 : decode cX8_book 62 = .ok (.ifCond .eq 73, 3) := by decide +kernel
theorem dX8_book_65 : decode cX8_book 65 = .ok (.iload_n 3, 1) := by decide +kernel
theorem dX8_book_66 : decode cX8_book 66 = .ok (.ifCond .eq 69, 3) := by decide +kernel
theorem dX8_book_69 : decode cX8_book 69 = .ok (.aload_n 0, 1) := by decide +kernel
theorem dX8_book_70 : decode cX8_book 70 = .ok (.invokevirtual 184, 3) := by decide +kernel
theorem dX8_book_73 : decode cX8_book 73 = .ok (.istore_n 2, 1) := by decide +kernel
theorem dX8_book_74 : decode cX8_book 74 = .ok (.iinc 1 1, 3) := by decide +kernel
theorem dX8_book_77 : decode cX8_book 77 = .ok (.iload_n 2, 1) := by decide +kernel
theorem dX8_book_78 : decode cX8_book 78 = .ok (.ifCond .eq 15, 3) := by decide +kernel
theorem dX8_book_81 : decode cX8_book 81 = .ok (.aload_n 0, 1) := by decide +kernel
theorem dX8_book_82 : decode cX8_book 82 = .ok (.invokevirtual 158, 3) := by decide +kernel
theorem dX8_book_85 : decode cX8_book 85 = .ok (.iconst (-1), 1) := by decide +kernel
theorem dX8_book_86 : decode cX8_book 86 = .ok (.if_icmp .eq 7, 3) := by decide +kernel
theorem dX8_book_89 : decode cX8_book 89 = .ok (.iconst 1, 1) := by decide +kernel
theorem dX8_book_90 : decode cX8_book 90 = .ok (.goto 4, 3) := by decide +kernel
theorem dX8_book_93 : decode cX8_book 93 = .ok (.iconst 0, 1) := by decide +kernel
theorem dX8_book_94 : decode cX8_book 94 = .ok (.istore_n 3, 1) := by decide +kernel
theorem dX8_book_95 : decode cX8_book 95 = .ok (.iload_n 3, 1) := by decide +kernel
theorem dX8_book_96 : decode cX8_book 96 = .ok (.ifCond .eq 22, 3) := by decide +kernel
theorem dX8_book_99 : decode cX8_book 99 = .ok (.aload_n 0, 1) := by decide +kernel
theorem dX8_book_100 : decode cX8_book 100 = .ok (.invokevirtual 158, 3) := by decide +kernel
theorem dX8_book_103 : decode cX8_book 103 = .ok (.bipush 59, 2) := by decide +kernel
theorem dX8_book_105 : decode cX8_book 105 = .ok (.if_icmp .eq 13, 3) := by decide +kernel
theorem dX8_book_108 : decode cX8_book 108 = .ok (.aload_n 0, 1) := by decide +kernel
theorem dX8_book_109 : decode cX8_book 109 = .ok (.iconst 0, 1) := by decide +kernel
theorem dX8_book_110 : decode cX8_book 110 = .ok (.aload_n 0, 1) := by decide +kernel
theorem dX8_book_111 : decode cX8_book 111 = .ok (.getfield 155, 3) := by decide +kernel
theorem dX8_book_114 : decode cX8_book 114 = .ok (.invokevirtual 165, 3) := by decide +kernel
theorem dX8_book_117 : decode cX8_book 117 = .ok (.istore_n 2, 1) := by decide +kernel
theorem dX8_book_118 : decode cX8_book 118 = .ok (.iload_n 3, 1) := by decide +kernel
theorem dX8_book_119 : decode cX8_book 119 = .ok (.ifCond .eq (-58), 3) := by decide +kernel
theorem dX8_book_122 : decode cX8_book 122 = .ok (.aload_n 0, 1) := by decide +kernel
theorem dX8_book_123 : decode cX8_book 123 = .ok (.dup, 1) := by decide +kernel
theorem dX8_book_124 : decode cX8_book 124 = .ok (.getfield 155, 3) := by decide +kernel
theorem dX8_book_127 : decode cX8_book 127 = .ok (.iconst 1, 1) := by decide +kernel
theorem dX8_book_128 : decode cX8_book 128 = .ok (.iadd, 1) := by decide +kernel
theorem dX8_book_129 : decode cX8_book 129 = .ok (.putfield 155, 3) := by decide +kernel
theorem dX8_book_132 : decode cX8_book 132 = .ok (.goto (-71), 3) := by decide +kernel
theorem dX8_book_135 : decode cX8_book 135 = .ok (.aload_n 0, 1) := by decide +kernel
theorem dX8_book_136 : decode cX8_book 136 = .ok (.iconst 0, 1) := by decide +kernel
theorem dX8_book_137 : decode cX8_book 137 = .ok (.putfield 145, 3) := by decide +kernel
theorem dX8_book_140 : decode cX8_book 140 = .ok (.iload_n 2, 1) := by decide +kernel
theorem dX8_book_141 : decode cX8_book 141 = .ok (.ifCond .ne 11, 3) := by decide +kernel
theorem dX8_book_144 : decode cX8_book 144 = .ok (.bipush (-2), 2) := by decide +kernel
theorem dX8_book_146 : decode cX8_book 146 = .ok (.aload_n 0, 1) := by decide +kernel
theorem dX8_book_147 : decode cX8_book 147 = .ok (.getfield 152, 3) := by decide +kernel
theorem dX8_book_150 : decode cX8_book 150 = .ok (.isub, 1) := by decide +kernel
theorem dX8_book_151 : decode cX8_book 151 = .ok (.ireturn, 1) := by decide +kernel
theorem dX8_book_152 : decode cX8_book 152 = .ok (.aload_n 0, 1) := by decide +kernel
theorem dX8_book_153 : decode cX8_book 153 = .ok (.getfield 175, 3) := by decide +kernel
theorem dX8_book_156 : decode cX8_book 156 = .ok (.ifCond .ne 23, 3) := by decide +kernel
theorem dX8_book_159 : decode cX8_book 159 = .ok (.aload_n 0, 1) := by decide +kernel
theorem dX8_book_160 : decode cX8_book 160 = .ok (.getfield 88, 3) := by decide +kernel
theorem dX8_book_163 : decode cX8_book 163 = .ok (.iconst 0, 1) := by decide +kernel
theorem dX8_book_164 : decode cX8_book 164 = .ok (.iconst 0, 1) := by decide +kernel
theorem dX8_book_165 : decode cX8_book 165 = .ok (.iastore, 1) := by decide +kernel
theorem dX8_book_166 : decode cX8_book 166 = .ok (.aload_n 0, 1) := by decide +kernel
theorem dX8_book_167 : decode cX8_book 167 = .ok (.getfield 91, 3) := by decide +kernel
theorem dX8_book_170 : decode cX8_book 170 = .ok (.iconst 0, 1) := by decide +kernel
theorem dX8_book_171 : decode cX8_book 171 = .ok (.bipush 20, 2) := by decide +kernel
theorem dX8_book_173 : decode cX8_book 173 = .ok (.iastore, 1) := by decide +kernel
theorem dX8_book_174 : decode cX8_book 174 = .ok (.aload_n 0, 1) := by decide +kernel
theorem dX8_book_175 : decode cX8_book 175 = .ok (.iconst 1, 1) := by decide +kernel
theorem dX8_book_176 : decode cX8_book 176 = .ok (.putfield 175, 3) := by decide +kernel
theorem dX8_book_179 : decode cX8_book 179 = .ok (.aload_n 0, 1) := by decide +kernel
theorem dX8_book_180 : decode cX8_book 180 = .ok (.aload_n 0, 1) := by decide +kernel
theorem dX8_book_181 : decode cX8_book 181 = .ok (.getfield 175, 3) := by decide +kernel
theorem dX8_book_184 : decode cX8_book 184 = .ok (.putfield 124, 3) := by decide +kernel
theorem dX8_book_187 : decode cX8_book 187 = .ok (.iconst 0, 1) := by decide +kernel
theorem dX8_book_188 : decode cX8_book 188 = .ok (.istore 4, 2) := by decide +kernel
theorem dX8_book_190 : decode cX8_book 190 = .ok (.iload 4, 2) := by decide +kernel
theorem dX8_book_192 : decode cX8_book 192 = .ok (.aload_n 0, 1) := by decide +kernel
theorem dX8_book_193 : decode cX8_book 193 = .ok (.getfield 124, 3) := by decide +kernel
theorem dX8_book_196 : decode cX8_book 196 = .ok (.if_icmp .ge 37, 3) := by decide +kernel
theorem dX8_book_199 : decode cX8_book 199 = .ok (.aload_n 0, 1) := by decide +kernel
theorem dX8_book_200 : decode cX8_book 200 = .ok (.getfield 82, 3) := by decide +kernel
theorem dX8_book_203 : decode cX8_book 203 = .ok (.iload 4, 2) := by decide +kernel
theorem dX8_book_205 : decode cX8_book 205 = .ok (.aload_n 0, 1) := by decide +kernel
theorem dX8_book_206 : decode cX8_book 206 = .ok (.getfield 88, 3) := by decide +kernel
theorem dX8_book_209 : decode cX8_book 209 = .ok (.iload 4, 2) := by decide +kernel
theorem dX8_book_211 : decode cX8_book 211 = .ok (.iaload, 1) := by decide +kernel
theorem dX8_book_212 : decode cX8_book 212 = .ok (.iastore, 1) := by decide +kernel
theorem dX8_book_213 : decode cX8_book 213 = .ok (.aload_n 0, 1) := by decide +kernel
theorem dX8_book_214 : decode cX8_book 214 = .ok (.getfield 85, 3) := by decide +kernel
theorem dX8_book_217 : decode cX8_book 217 = .ok (.iload 4, 2) := by decide +kernel
theorem dX8_book_219 : decode cX8_book 219 = .ok (.aload_n 0, 1) := by decide +kernel
theorem dX8_book_220 : decode cX8_book 220 = .ok (.getfield 91, 3) := by decide +kernel
theorem dX8_book_223 : decode cX8_book 223 = .ok (.iload 4, 2) := by decide +kernel
theorem dX8_book_225 : decode cX8_book 225 = .ok (.iaload, 1) := by decide +kernel
theorem dX8_book_226 : decode cX8_book 226 = .ok (.iastore, 1) := by decide +kernel
theorem dX8_book_227 : decode cX8_book 227 = .ok (.iinc 4 1, 3) := by decide +kernel
theorem dX8_book_230 : decode cX8_book 230 = .ok (.goto (-40), 3) := by decide +kernel
theorem dX8_book_233 : decode cX8_book 233 = .ok (.iconst 0, 1) := by decide +kernel
theorem dX8_book_234 : decode cX8_book 234 = .ok (.istore 4, 2) := by decide +kernel
theorem dX8_book_236 : decode cX8_book 236 = .ok (.iload 4, 2) := by decide +kernel
theorem dX8_book_238 : decode cX8_book 238 = .ok (.iconst 5, 1) := by decide +kernel
theorem dX8_book_239 : decode cX8_book 239 = .ok (.if_icmp .ge 23, 3) := by decide +kernel
theorem dX8_book_242 : decode cX8_book 242 = .ok (.aload_n 0, 1) := by decide +kernel
theorem dX8_book_243 : decode cX8_book 243 = .ok (.getfield 94, 3) := by decide +kernel
theorem dX8_book_246 : decode cX8_book 246 = .ok (.iload 4, 2) := by decide +kernel
theorem dX8_book_248 : decode cX8_book 248 = .ok (.aload_n 0, 1) := by decide +kernel
theorem dX8_book_249 : decode cX8_book 249 = .ok (.getfield 97, 3) := by decide +kernel
theorem dX8_book_252 : decode cX8_book 252 = .ok (.iload 4, 2) := by decide +kernel
theorem dX8_book_254 : decode cX8_book 254 = .ok (.iaload, 1) := by decide +kernel
theorem dX8_book_255 : decode cX8_book 255 = .ok (.iastore, 1) := by decide +kernel
theorem dX8_book_256 : decode cX8_book 256 = .ok (.iinc 4 1, 3) := by decide +kernel
theorem dX8_book_259 : decode cX8_book 259 = .ok (.goto (-23), 3) := by decide +kernel
theorem dX8_book_262 : decode cX8_book 262 = .ok (.iload_n 1, 1) := by decide +kernel
theorem dX8_book_263 : decode cX8_book 263 = .ok (.ireturn, 1) := by decide +kernel
theorem dX8_car_0 : decode cX8_car 0 = .ok (.aload_n 0, 1) := by decide +kernel
theorem dX8_car_1 : decode cX8_car 1 = .ok (.getfield 191, 3) := by decide +kernel
theorem dX8_car_4 : decode cX8_car 4 = .ok (.bipush 60, 2) := by decide +kernel
theorem dX8_car_6 : decode cX8_car 6 = .ok (.if_icmp .eq 35, 3) := by decide +kernel
theorem dX8_car_9 : decode cX8_car 9 = .ok (.iload_n 1, 1) := by decide +kernel
theorem dX8_car_10 : decode cX8_car 10 = .ok (.iconst 1, 1) := by decide +kernel
theorem dX8_car_11 : decode cX8_car 11 = .ok (.bipush 20, 2) := by decide +kernel
theorem dX8_car_13 : decode cX8_car 13 = .ok (.invokestatic 134, 3) := by decide +kernel
theorem dX8_car_16 : decode cX8_car 16 = .ok (.ifCond .eq 25, 3) := by decide +kernel
theorem dX8_car_19 : decode cX8_car 19 = .ok (.iload_n 3, 1) := by decide +kernel
theorem dX8_car_20 : decode cX8_car 20 = .ok (.iconst 1, 1) := by decide +kernel
theorem dX8_car_21 : decode cX8_car 21 = .ok (.sipush 300, 3) := by decide +kernel
theorem dX8_car_24 : decode cX8_car 24 = .ok (.invokestatic 134, 3) := by decide +kernel
theorem dX8_car_27 : decode cX8_car 27 = .ok (.ifCond .eq 14, 3) := by decide +kernel
theorem dX8_car_30 : decode cX8_car 30 = .ok (.iload_n 2, 1) := by decide +kernel
theorem dX8_car_31 : decode cX8_car 31 = .ok (.iconst 0, 1) := by decide +kernel
theorem dX8_car_32 : decode cX8_car 32 = .ok (.iload_n 1, 1) := by decide +kernel
theorem dX8_car_33 : decode cX8_car 33 = .ok (.iload_n 3, 1) := by decide +kernel
theorem dX8_car_34 : decode cX8_car 34 = .ok (.imul, 1) := by decide +kernel
theorem dX8_car_35 : decode cX8_car 35 = .ok (.invokestatic 134, 3) := by decide +kernel
theorem dX8_car_38 : decode cX8_car 38 = .ok (.ifCond .ne 5, 3) := by decide +kernel
theorem dX8_car_41 : decode cX8_car 41 = .ok (.iconst (-1), 1) := by decide +kernel
theorem dX8_car_42 : decode cX8_car 42 = .ok (.ireturn, 1) := by decide +kernel
theorem dX8_car_43 : decode cX8_car 43 = .ok (.aload_n 0, 1) := by decide +kernel
theorem dX8_car_44 : decode cX8_car 44 = .ok (.getfield 45, 3) := by decide +kernel
theorem dX8_car_47 : decode cX8_car 47 = .ok (.aload_n 0, 1) := by decide +kernel
theorem dX8_car_48 : decode cX8_car 48 = .ok (.getfield 191, 3) := by decide +kernel
theorem dX8_car_51 : decode cX8_car 51 = .ok (.iload_n 1, 1) := by decide +kernel
theorem dX8_car_52 : decode cX8_car 52 = .ok (.iastore, 1) := by decide +kernel
theorem dX8_car_53 : decode cX8_car 53 = .ok (.aload_n 0, 1) := by decide +kernel
theorem dX8_car_54 : decode cX8_car 54 = .ok (.getfield 48, 3) := by decide +kernel
theorem dX8_car_57 : decode cX8_car 57 = .ok (.aload_n 0, 1) := by decide +kernel
theorem dX8_car_58 : decode cX8_car 58 = .ok (.getfield 191, 3) := by decide +kernel
theorem dX8_car_61 : decode cX8_car 61 = .ok (.iload_n 2, 1) := by decide +kernel
theorem dX8_car_62 : decode cX8_car 62 = .ok (.iastore, 1) := by decide +kernel
theorem dX8_car_63 : decode cX8_car 63 = .ok (.aload_n 0, 1) := by decide +kernel
theorem dX8_car_64 : decode cX8_car 64 = .ok (.getfield 51, 3) := by decide +kernel
theorem dX8_car_67 : decode cX8_car 67 = .ok (.aload_n 0, 1) := by decide +kernel
theorem dX8_car_68 : decode cX8_car 68 = .ok (.getfield 191, 3) := by decide +kernel
theorem dX8_car_71 : decode cX8_car 71 = .ok (.iload_n 3, 1) := by decide +kernel
theorem dX8_car_72 : decode cX8_car 72 = .ok (.iastore, 1) := by decide +kernel
theorem dX8_car_73 : decode cX8_car 73 = .ok (.aload_n 0, 1) := by decide +kernel
theorem dX8_car_74 : decode cX8_car 74 = .ok (.getfield 57, 3) := by decide +kernel
theorem dX8_car_77 : decode cX8_car 77 = .ok (.aload_n 0, 1) := by decide +kernel
theorem dX8_car_78 : decode cX8_car 78 = .ok (.getfield 191, 3) := by decide +kernel
theorem dX8_car_81 : decode cX8_car 81 = .ok (.bipush 10, 2) := by decide +kernel
theorem dX8_car_83 : decode cX8_car 83 = .ok (.aload_n 0, 1) := by decide +kernel
theorem dX8_car_84 : decode cX8_car 84 = .ok (.getfield 7, 3) := by decide +kernel
theorem dX8_car_87 : decode cX8_car 87 = .ok (.imul, 1) := by decide +kernel
theorem dX8_car_88 : decode cX8_car 88 = .ok (.iastore, 1) := by decide +kernel
theorem dX8_car_89 : decode cX8_car 89 = .ok (.aload_n 0, 1) := by decide +kernel
theorem dX8_car_90 : decode cX8_car 90 = .ok (.getfield 60, 3) := by decide +kernel
theorem dX8_car_93 : decode cX8_car 93 = .ok (.aload_n 0, 1) := by decide +kernel
theorem dX8_car_94 : decode cX8_car 94 = .ok (.getfield 191, 3) := by decide +kernel
theorem dX8_car_97 : decode cX8_car 97 = .ok (.iconst (-1), 1) := by decide +kernel
theorem dX8_car_98 : decode cX8_car 98 = .ok (.iastore, 1) := by decide +kernel
theorem dX8_car_99 : decode cX8_car 99 = .ok (.aload_n 0, 1) := by decide +kernel
theorem dX8_car_100 : decode cX8_car 100 = .ok (.getfield 63, 3) := by decide +kernel
theorem dX8_car_103 : decode cX8_car 103 = .ok (.aload_n 0, 1) := by decide +kernel
theorem dX8_car_104 : decode cX8_car 104 = .ok (.getfield 191, 3) := by decide +kernel
theorem dX8_car_107 : decode cX8_car 107 = .ok (.iconst (-1), 1) := by decide +kernel
theorem dX8_car_108 : decode cX8_car 108 = .ok (.iastore, 1) := by decide +kernel
theorem dX8_car_109 : decode cX8_car 109 = .ok (.aload_n 0, 1) := by decide +kernel
theorem dX8_car_110 : decode cX8_car 110 = .ok (.getfield 66, 3) := by decide +kernel
theorem dX8_car_113 : decode cX8_car 113 = .ok (.aload_n 0, 1) := by decide +kernel
theorem dX8_car_114 : decode cX8_car 114 = .ok (.getfield 191, 3) := by decide +kernel
theorem dX8_car_117 : decode cX8_car 117 = .ok (.iconst (-1), 1) := by decide +kernel
theorem dX8_car_118 : decode cX8_car 118 = .ok (.iastore, 1) := by decide +kernel
theorem dX8_car_119 : decode cX8_car 119 = .ok (.aload_n 0, 1) := by decide +kernel
theorem dX8_car_120 : decode cX8_car 120 = .ok (.dup, 1) := by decide +kernel
theorem dX8_car_121 : decode cX8_car 121 = .ok (.getfield 138, 3) := by decide +kernel
theorem dX8_car_124 : decode cX8_car 124 = .ok (.iload_n 2, 1) := by decide +kernel
theorem dX8_car_125 : decode cX8_car 125 = .ok (.iadd, 1) := by decide +kernel
theorem dX8_car_126 : decode cX8_car 126 = .ok (.putfield 138, 3) := by decide +kernel
theorem dX8_car_129 : decode cX8_car 129 = .ok (.aload_n 0, 1) := by decide +kernel
theorem dX8_car_130 : decode cX8_car 130 = .ok (.dup, 1) := by decide +kernel
theorem dX8_car_131 : decode cX8_car 131 = .ok (.getfield 191, 3) := by decide +kernel
theorem dX8_car_134 : decode cX8_car 134 = .ok (.iconst 1, 1) := by decide +kernel
theorem dX8_car_135 : decode cX8_car 135 = .ok (.iadd, 1) := by decide +kernel
theorem dX8_car_136 : decode cX8_car 136 = .ok (.putfield 191, 3) := by decide +kernel
theorem dX8_car_139 : decode cX8_car 139 = .ok (.aload_n 0, 1) := by decide +kernel
theorem dX8_car_140 : decode cX8_car 140 = .ok (.getfield 191, 3) := by decide +kernel
theorem dX8_car_143 : decode cX8_car 143 = .ok (.iconst 1, 1) := by decide +kernel
theorem dX8_car_144 : decode cX8_car 144 = .ok (.isub, 1) := by decide +kernel
theorem dX8_car_145 : decode cX8_car 145 = .ok (.ireturn, 1) := by decide +kernel
theorem dX8_cars_0 : decode cX8_cars 0 = .ok (.aload_n 0, 1) := by decide +kernel
theorem dX8_cars_1 : decode cX8_cars 1 = .ok (.iload_n 1, 1) := by decide +kernel
theorem dX8_cars_2 : decode cX8_cars 2 = .ok (.invokevirtual 194, 3) := by decide +kernel
theorem dX8_cars_5 : decode cX8_cars 5 = .ok (.ifCond .ne 16, 3) := by decide +kernel
theorem dX8_cars_8 : decode cX8_cars 8 = .ok (.iload_n 2, 1) := by decide +kernel
theorem dX8_cars_9 : decode cX8_cars 9 = .ok (.iconst 3, 1) := by decide +kernel
theorem dX8_cars_10 : decode cX8_cars 10 = .ok (.if_icmp .ne 9, 3) := by decide +kernel
theorem dX8_cars_13 : decode cX8_cars 13 = .ok (.sipush (-1000), 3) := by decide +kernel
theorem dX8_cars_16 : decode cX8_cars 16 = .ok (.goto 4, 3) := by decide +kernel
theorem dX8_cars_19 : decode cX8_cars 19 = .ok (.iconst (-1), 1) := by decide +kernel
theorem dX8_cars_20 : decode cX8_cars 20 = .ok (.ireturn, 1) := by decide +kernel
theorem dX8_cars_21 : decode cX8_cars 21 = .ok (.iload_n 2, 1) := by decide +kernel
theorem dX8_cars_22 : decode cX8_cars 22 = .ok (.tableswitch 109 0 7 #[46, 53, 60, 74, 81, 88, 95, 102], 46) := by decide +kernel
theorem dX8_cars_68 : decode cX8_cars 68 = .ok (.aload_n 0, 1) := by decide +kernel
theorem dX8_cars_69 : decode cX8_cars 69 = .ok (.getfield 54, 3) := by decide +kernel
theorem dX8_cars_72 : decode cX8_cars 72 = .ok (.iload_n 1, 1) := by decide +kernel
theorem dX8_cars_73 : decode cX8_cars 73 = .ok (.iaload, 1) := by decide +kernel
theorem dX8_cars_74 : decode cX8_cars 74 = .ok (.ireturn, 1) := by decide +kernel
theorem dX8_cars_75 : decode cX8_cars 75 = .ok (.aload_n 0, 1) := by decide +kernel
theorem dX8_cars_76 : decode cX8_cars 76 = .ok (.getfield 48, 3) := by decide +kernel
theorem dX8_cars_79 : decode cX8_cars 79 = .ok (.iload_n 1, 1) := by decide +kernel
theorem dX8_cars_80 : decode cX8_cars 80 = .ok (.iaload, 1) := by decide +kernel
theorem dX8_cars_81 : decode cX8_cars 81 = .ok (.ireturn, 1) := by decide +kernel
theorem dX8_cars_82 : decode cX8_cars 82 = .ok (.aload_n 0, 1) := by decide +kernel
theorem dX8_cars_83 : decode cX8_cars 83 = .ok (.getfield 48, 3) := by decide +kernel
theorem dX8_cars_86 : decode cX8_cars 86 = .ok (.iload_n 1, 1) := by decide +kernel
theorem dX8_cars_87 : decode cX8_cars 87 = .ok (.iaload, 1) := by decide +kernel
theorem dX8_cars_88 : decode cX8_cars 88 = .ok (.aload_n 0, 1) := by decide +kernel
theorem dX8_cars_89 : decode cX8_cars 89 = .ok (.getfield 45, 3) := by decide +kernel
theorem dX8_cars_92 : decode cX8_cars 92 = .ok (.iload_n 1, 1) := by decide +kernel
theorem dX8_cars_93 : decode cX8_cars 93 = .ok (.iaload, 1) := by decide +kernel
theorem dX8_cars_94 : decode cX8_cars 94 = .ok (.idiv, 1) := by decide +kernel
theorem dX8_cars_95 : decode cX8_cars 95 = .ok (.ireturn, 1) := by decide +kernel
theorem dX8_cars_96 : decode cX8_cars 96 = .ok (.aload_n 0, 1) := by decide +kernel
theorem dX8_cars_97 : decode cX8_cars 97 = .ok (.getfield 57, 3) := by decide +kernel
theorem dX8_cars_100 : decode cX8_cars 100 = .ok (.iload_n 1, 1) := by decide +kernel
theorem dX8_cars_101 : decode cX8_cars 101 = .ok (.iaload, 1) := by decide +kernel
theorem dX8_cars_102 : decode cX8_cars 102 = .ok (.ireturn, 1) := by decide +kernel
theorem dX8_cars_103 : decode cX8_cars 103 = .ok (.aload_n 0, 1) := by decide +kernel
theorem dX8_cars_104 : decode cX8_cars 104 = .ok (.getfield 60, 3) := by decide +kernel
theorem dX8_cars_107 : decode cX8_cars 107 = .ok (.iload_n 1, 1) := by decide +kernel
theorem dX8_cars_108 : decode cX8_cars 108 = .ok (.iaload, 1) := by decide +kernel
theorem dX8_cars_109 : decode cX8_cars 109 = .ok (.ireturn, 1) := by decide +kernel
theorem dX8_cars_110 : decode cX8_cars 110 = .ok (.aload_n 0, 1) := by decide +kernel
theorem dX8_cars_111 : decode cX8_cars 111 = .ok (.getfield 63, 3) := by decide +kernel
theorem dX8_cars_114 : decode cX8_cars 114 = .ok (.iload_n 1, 1) := by decide +kernel
theorem dX8_cars_115 : decode cX8_cars 115 = .ok (.iaload, 1) := by decide +kernel
theorem dX8_cars_116 : decode cX8_cars 116 = .ok (.ireturn, 1) := by decide +kernel
theorem dX8_cars_117 : decode cX8_cars 117 = .ok (.aload_n 0, 1) := by decide +kernel
theorem dX8_cars_118 : decode cX8_cars 118 = .ok (.getfield 66, 3) := by decide +kernel
theorem dX8_cars_121 : decode cX8_cars 121 = .ok (.iload_n 1, 1) := by decide +kernel
theorem dX8_cars_122 : decode cX8_cars 122 = .ok (.iaload, 1) := by decide +kernel
theorem dX8_cars_123 : decode cX8_cars 123 = .ok (.ireturn, 1) := by decide +kernel
theorem dX8_cars_124 : decode cX8_cars 124 = .ok (.aload_n 0, 1) := by decide +kernel
theorem dX8_cars_125 : decode cX8_cars 125 = .ok (.getfield 69, 3) := by decide +kernel
theorem dX8_cars_128 : decode cX8_cars 128 = .ok (.iload_n 1, 1) := by decide +kernel
theorem dX8_cars_129 : decode cX8_cars 129 = .ok (.iaload, 1) := by decide +kernel
theorem dX8_cars_130 : decode cX8_cars 130 = .ok (.ireturn, 1) := by decide +kernel
theorem dX8_cars_131 : decode cX8_cars 131 = .ok (.iconst (-1), 1) := by decide +kernel
theorem dX8_cars_132 : decode cX8_cars 132 = .ok (.ireturn, 1) := by decide +kernel
theorem dX8_clause_0 : decode cX8_clause 0 = .ok (.aload_n 0, 1) := by decide +kernel
theorem dX8_clause_1 : decode cX8_clause 1 = .ok (.invokevirtual 172, 3) := by decide +kernel
theorem dX8_clause_4 : decode cX8_clause 4 = .ok (.istore_n 1, 1) := by decide +kernel
theorem dX8_clause_5 : decode cX8_clause 5 = .ok (.iload_n 1, 1) := by decide +kernel
theorem dX8_clause_6 : decode cX8_clause 6 = .ok (.ifCond .ge 13, 3) := by decide +kernel
theorem dX8_clause_9 : decode cX8_clause 9 = .ok (.aload_n 0, 1) := by decide +kernel
theorem dX8_clause_10 : decode cX8_clause 10 = .ok (.iconst 0, 1) := by decide +kernel
theorem dX8_clause_11 : decode cX8_clause 11 = .ok (.aload_n 0, 1) := by decide +kernel
theorem dX8_clause_12 : decode cX8_clause 12 = .ok (.getfield 155, 3) := by decide +kernel
theorem dX8_clause_15 : decode cX8_clause 15 = .ok (.invokevirtual 165, 3) := by decide +kernel
theorem dX8_clause_18 : decode cX8_clause 18 = .ok (.ireturn, 1) := by decide +kernel
theorem dX8_clause_19 : decode cX8_clause 19 = .ok (.iload_n 1, 1) := by decide +kernel
theorem dX8_clause_20 : decode cX8_clause 20 = .ok (.iconst 5, 1) := by decide +kernel
theorem dX8_clause_21 : decode cX8_clause 21 = .ok (.if_icmp .ne 15, 3) := by decide +kernel
theorem dX8_clause_24 : decode cX8_clause 24 = .ok (.aload_n 0, 1) := by decide +kernel
theorem dX8_clause_25 : decode cX8_clause 25 = .ok (.getfield 175, 3) := by decide +kernel
theorem dX8_clause_28 : decode cX8_clause 28 = .ok (.bipush 8, 2) := by decide +kernel
theorem dX8_clause_30 : decode cX8_clause 30 = .ok (.if_icmp .ne 28, 3) := by decide +kernel
theorem dX8_clause_33 : decode cX8_clause 33 = .ok (.goto 15, 3) := by decide +kernel
theorem dX8_clause_36 : decode cX8_clause 36 = .ok (.aload_n 0, 1) := by decide +kernel
theorem dX8_clause_37 : decode cX8_clause 37 = .ok (.getfield 178, 3) := by decide +kernel
theorem dX8_clause_40 : decode cX8_clause 40 = .ok (.iload_n 1, 1) := by decide +kernel
theorem dX8_clause_41 : decode cX8_clause 41 = .ok (.ishr, 1) := by decide +kernel
theorem dX8_clause_42 : decode cX8_clause 42 = .ok (.iconst 1, 1) := by decide +kernel
theorem dX8_clause_43 : decode cX8_clause 43 = .ok (.iand, 1) := by decide +kernel
theorem dX8_clause_44 : decode cX8_clause 44 = .ok (.iconst 1, 1) := by decide +kernel
theorem dX8_clause_45 : decode cX8_clause 45 = .ok (.if_icmp .ne 13, 3) := by decide +kernel
theorem dX8_clause_48 : decode cX8_clause 48 = .ok (.aload_n 0, 1) := by decide +kernel
theorem dX8_clause_49 : decode cX8_clause 49 = .ok (.iconst 2, 1) := by decide +kernel
theorem dX8_clause_50 : decode cX8_clause 50 = .ok (.aload_n 0, 1) := by decide +kernel
theorem dX8_clause_51 : decode cX8_clause 51 = .ok (.getfield 155, 3) := by decide +kernel
theorem dX8_clause_54 : decode cX8_clause 54 = .ok (.invokevirtual 165, 3) := by decide +kernel
theorem dX8_clause_57 : decode cX8_clause 57 = .ok (.ireturn, 1) := by decide +kernel
theorem dX8_clause_58 : decode cX8_clause 58 = .ok (.aload_n 0, 1) := by decide +kernel
theorem dX8_clause_59 : decode cX8_clause 59 = .ok (.dup, 1) := by decide +kernel
theorem dX8_clause_60 : decode cX8_clause 60 = .ok (.getfield 155, 3) := by decide +kernel
theorem dX8_clause_63 : decode cX8_clause 63 = .ok (.aload_n 0, 1) := by decide +kernel
theorem dX8_clause_64 : decode cX8_clause 64 = .ok (.getfield 162, 3) := by decide +kernel
theorem dX8_clause_67 : decode cX8_clause 67 = .ok (.iadd, 1) := by decide +kernel
theorem dX8_clause_68 : decode cX8_clause 68 = .ok (.putfield 155, 3) := by decide +kernel
theorem dX8_clause_71 : decode cX8_clause 71 = .ok (.iload_n 1, 1) := by decide +kernel
theorem dX8_clause_72 : decode cX8_clause 72 = .ok (.iconst 5, 1) := by decide +kernel
theorem dX8_clause_73 : decode cX8_clause 73 = .ok (.if_icmp .ne 90, 3) := by decide +kernel
theorem dX8_clause_76 : decode cX8_clause 76 = .ok (.aload_n 0, 1) := by decide +kernel
theorem dX8_clause_77 : decode cX8_clause 77 = .ok (.aload_n 0, 1) := by decide +kernel
theorem dX8_clause_78 : decode cX8_clause 78 = .ok (.getfield 175, 3) := by decide +kernel
theorem dX8_clause_81 : decode cX8_clause 81 = .ok (.ifCond .ne 7, 3) := by decide +kernel
theorem dX8_clause_84 : decode cX8_clause 84 = .ok (.iconst 0, 1) := by decide +kernel
theorem dX8_clause_85 : decode cX8_clause 85 = .ok (.goto 16, 3) := by decide +kernel
theorem dX8_clause_88 : decode cX8_clause 88 = .ok (.aload_n 0, 1) := by decide +kernel
theorem dX8_clause_89 : decode cX8_clause 89 = .ok (.getfield 88, 3) := by decide +kernel
theorem dX8_clause_92 : decode cX8_clause 92 = .ok (.aload_n 0, 1) := by decide +kernel
theorem dX8_clause_93 : decode cX8_clause 93 = .ok (.getfield 175, 3) := by decide +kernel
theorem dX8_clause_96 : decode cX8_clause 96 = .ok (.iconst 1, 1) := by decide +kernel
theorem dX8_clause_97 : decode cX8_clause 97 = .ok (.isub, 1) := by decide +kernel
theorem dX8_clause_98 : decode cX8_clause 98 = .ok (.iaload, 1) := by decide +kernel
theorem dX8_clause_99 : decode cX8_clause 99 = .ok (.iconst 1, 1) := by decide +kernel
theorem dX8_clause_100 : decode cX8_clause 100 = .ok (.iadd, 1) := by decide +kernel
theorem dX8_clause_101 : decode cX8_clause 101 = .ok (.sipush 400, 3) := by decide +kernel
theorem dX8_clause_104 : decode cX8_clause 104 = .ok (.invokevirtual 181, 3) := by decide +kernel
theorem dX8_clause_107 : decode cX8_clause 107 = .ok (.ifCond .ne 5, 3) := by decide +kernel
theorem dX8_clause_110 : decode cX8_clause 110 = .ok (.iconst 0, 1) := by decide +kernel
theorem dX8_clause_111 : decode cX8_clause 111 = .ok (.ireturn, 1) := by decide +kernel
theorem dX8_clause_112 : decode cX8_clause 112 = .ok (.aload_n 0, 1) := by decide +kernel
theorem dX8_clause_113 : decode cX8_clause 113 = .ok (.getfield 88, 3) := by decide +kernel
theorem dX8_clause_116 : decode cX8_clause 116 = .ok (.aload_n 0, 1) := by decide +kernel
theorem dX8_clause_117 : decode cX8_clause 117 = .ok (.getfield 175, 3) := by decide +kernel
theorem dX8_clause_120 : decode cX8_clause 120 = .ok (.aload_n 0, 1) := by decide +kernel
theorem dX8_clause_121 : decode cX8_clause 121 = .ok (.getfield 169, 3) := by decide +kernel
theorem dX8_clause_124 : decode cX8_clause 124 = .ok (.iastore, 1) := by decide +kernel
theorem dX8_clause_125 : decode cX8_clause 125 = .ok (.aload_n 0, 1) := by decide +kernel
theorem dX8_clause_126 : decode cX8_clause 126 = .ok (.iconst 0, 1) := by decide +kernel
theorem dX8_clause_127 : decode cX8_clause 127 = .ok (.sipush 500, 3) := by decide +kernel
theorem dX8_clause_130 : decode cX8_clause 130 = .ok (.invokevirtual 181, 3) := by decide +kernel
theorem dX8_clause_133 : decode cX8_clause 133 = .ok (.ifCond .ne 5, 3) := by decide +kernel
theorem dX8_clause_136 : decode cX8_clause 136 = .ok (.iconst 0, 1) := by decide +kernel
theorem dX8_clause_137 : decode cX8_clause 137 = .ok (.ireturn, 1) := by decide +kernel
theorem dX8_clause_138 : decode cX8_clause 138 = .ok (.aload_n 0, 1) := by decide +kernel
theorem dX8_clause_139 : decode cX8_clause 139 = .ok (.getfield 91, 3) := by decide +kernel
theorem dX8_clause_142 : decode cX8_clause 142 = .ok (.aload_n 0, 1) := by decide +kernel
theorem dX8_clause_143 : decode cX8_clause 143 = .ok (.getfield 175, 3) := by decide +kernel
theorem dX8_clause_146 : decode cX8_clause 146 = .ok (.aload_n 0, 1) := by decide +kernel
theorem dX8_clause_147 : decode cX8_clause 147 = .ok (.getfield 169, 3) := by decide +kernel
theorem dX8_clause_150 : decode cX8_clause 150 = .ok (.iastore, 1) := by decide +kernel
theorem dX8_clause_151 : decode cX8_clause 151 = .ok (.aload_n 0, 1) := by decide +kernel
theorem dX8_clause_152 : decode cX8_clause 152 = .ok (.dup, 1) := by decide +kernel
theorem dX8_clause_153 : decode cX8_clause 153 = .ok (.getfield 175, 3) := by decide +kernel
theorem dX8_clause_156 : decode cX8_clause 156 = .ok (.iconst 1, 1) := by decide +kernel
theorem dX8_clause_157 : decode cX8_clause 157 = .ok (.iadd, 1) := by decide +kernel
theorem dX8_clause_158 : decode cX8_clause 158 = .ok (.putfield 175, 3) := by decide +kernel
theorem dX8_clause_161 : decode cX8_clause 161 = .ok (.iconst 1, 1) := by decide +kernel
theorem dX8_clause_162 : decode cX8_clause 162 = .ok (.ireturn, 1) := by decide +kernel
theorem dX8_clause_163 : decode cX8_clause 163 = .ok (.aload_n 0, 1) := by decide +kernel
theorem dX8_clause_164 : decode cX8_clause 164 = .ok (.dup, 1) := by decide +kernel
theorem dX8_clause_165 : decode cX8_clause 165 = .ok (.getfield 178, 3) := by decide +kernel
theorem dX8_clause_168 : decode cX8_clause 168 = .ok (.iconst 1, 1) := by decide +kernel
theorem dX8_clause_169 : decode cX8_clause 169 = .ok (.iload_n 1, 1) := by decide +kernel
theorem dX8_clause_170 : decode cX8_clause 170 = .ok (.ishl, 1) := by decide +kernel
theorem dX8_clause_171 : decode cX8_clause 171 = .ok (.ior, 1) := by decide +kernel
theorem dX8_clause_172 : decode cX8_clause 172 = .ok (.putfield 178, 3) := by decide +kernel
theorem dX8_clause_175 : decode cX8_clause 175 = .ok (.aload_n 0, 1) := by decide +kernel
theorem dX8_clause_176 : decode cX8_clause 176 = .ok (.iload_n 1, 1) := by decide +kernel
theorem dX8_clause_177 : decode cX8_clause 177 = .ok (.iconst 1, 1) := by decide +kernel
theorem dX8_clause_178 : decode cX8_clause 178 = .ok (.if_icmp .eq 8, 3) := by decide +kernel
theorem dX8_clause_181 : decode cX8_clause 181 = .ok (.iload_n 1, 1) := by decide +kernel
theorem dX8_clause_182 : decode cX8_clause 182 = .ok (.iconst 4, 1) := by decide +kernel
theorem dX8_clause_183 : decode cX8_clause 183 = .ok (.if_icmp .ne 7, 3) := by decide +kernel
theorem dX8_clause_186 : decode cX8_clause 186 = .ok (.iconst 1, 1) := by decide +kernel
theorem dX8_clause_187 : decode cX8_clause 187 = .ok (.goto 4, 3) := by decide +kernel
theorem dX8_clause_190 : decode cX8_clause 190 = .ok (.iconst 0, 1) := by decide +kernel
theorem dX8_clause_191 : decode cX8_clause 191 = .ok (.iload_n 1, 1) := by decide +kernel
theorem dX8_clause_192 : decode cX8_clause 192 = .ok (.ifCond .eq 8, 3) := by decide +kernel
theorem dX8_clause_195 : decode cX8_clause 195 = .ok (.iload_n 1, 1) := by decide +kernel
theorem dX8_clause_196 : decode cX8_clause 196 = .ok (.iconst 1, 1) := by decide +kernel
theorem dX8_clause_197 : decode cX8_clause 197 = .ok (.if_icmp .ne 8, 3) := by decide +kernel
theorem dX8_clause_200 : decode cX8_clause 200 = .ok (.bipush 100, 2) := by decide +kernel
theorem dX8_clause_202 : decode cX8_clause 202 = .ok (.goto 17, 3) := by decide +kernel
theorem dX8_clause_205 : decode cX8_clause 205 = .ok (.iload_n 1, 1) := by decide +kernel
theorem dX8_clause_206 : decode cX8_clause 206 = .ok (.iconst 2, 1) := by decide +kernel
theorem dX8_clause_207 : decode cX8_clause 207 = .ok (.if_icmp .ne 9, 3) := by decide +kernel
theorem dX8_clause_210 : decode cX8_clause 210 = .ok (.sipush 200, 3) := by decide +kernel
theorem dX8_clause_213 : decode cX8_clause 213 = .ok (.goto 6, 3) := by decide +kernel
theorem dX8_clause_216 : decode cX8_clause 216 = .ok (.sipush 500, 3) := by decide +kernel
theorem dX8_clause_219 : decode cX8_clause 219 = .ok (.invokevirtual 181, 3) := by decide +kernel
theorem dX8_clause_222 : decode cX8_clause 222 = .ok (.ifCond .ne 5, 3) := by decide +kernel
theorem dX8_clause_225 : decode cX8_clause 225 = .ok (.iconst 0, 1) := by decide +kernel
theorem dX8_clause_226 : decode cX8_clause 226 = .ok (.ireturn, 1) := by decide +kernel
theorem dX8_clause_227 : decode cX8_clause 227 = .ok (.aload_n 0, 1) := by decide +kernel
theorem dX8_clause_228 : decode cX8_clause 228 = .ok (.getfield 97, 3) := by decide +kernel
theorem dX8_clause_231 : decode cX8_clause 231 = .ok (.iload_n 1, 1) := by decide +kernel
theorem dX8_clause_232 : decode cX8_clause 232 = .ok (.aload_n 0, 1) := by decide +kernel
theorem dX8_clause_233 : decode cX8_clause 233 = .ok (.getfield 169, 3) := by decide +kernel
theorem dX8_clause_236 : decode cX8_clause 236 = .ok (.iastore, 1) := by decide +kernel
theorem dX8_clause_237 : decode cX8_clause 237 = .ok (.iconst 1, 1) := by decide +kernel
theorem dX8_clause_238 : decode cX8_clause 238 = .ok (.ireturn, 1) := by decide +kernel
theorem dX8_closed_0 : decode cX8_closed 0 = .ok (.iload_n 1, 1) := by decide +kernel
theorem dX8_closed_1 : decode cX8_closed 1 = .ok (.iconst 0, 1) := by decide +kernel
theorem dX8_closed_2 : decode cX8_closed 2 = .ok (.bipush 23, 2) := by decide +kernel
theorem dX8_closed_4 : decode cX8_closed 4 = .ok (.invokestatic 134, 3) := by decide +kernel
theorem dX8_closed_7 : decode cX8_closed 7 = .ok (.ifCond .eq 13, 3) := by decide +kernel
theorem dX8_closed_10 : decode cX8_closed 10 = .ok (.aload_n 0, 1) := by decide +kernel
theorem dX8_closed_11 : decode cX8_closed 11 = .ok (.getfield 42, 3) := by decide +kernel
theorem dX8_closed_14 : decode cX8_closed 14 = .ok (.iload_n 1, 1) := by decide +kernel
theorem dX8_closed_15 : decode cX8_closed 15 = .ok (.baload, 1) := by decide +kernel
theorem dX8_closed_16 : decode cX8_closed 16 = .ok (.iload_n 2, 1) := by decide +kernel
theorem dX8_closed_17 : decode cX8_closed 17 = .ok (.if_icmp .ne 5, 3) := by decide +kernel
theorem dX8_closed_20 : decode cX8_closed 20 = .ok (.iconst 0, 1) := by decide +kernel
theorem dX8_closed_21 : decode cX8_closed 21 = .ok (.ireturn, 1) := by decide +kernel
theorem dX8_closed_22 : decode cX8_closed 22 = .ok (.aload_n 0, 1) := by decide +kernel
theorem dX8_closed_23 : decode cX8_closed 23 = .ok (.getfield 42, 3) := by decide +kernel
theorem dX8_closed_26 : decode cX8_closed 26 = .ok (.iload_n 1, 1) := by decide +kernel
theorem dX8_closed_27 : decode cX8_closed 27 = .ok (.iload_n 2, 1) := by decide +kernel
theorem dX8_closed_28 : decode cX8_closed 28 = .ok (.bastore, 1) := by decide +kernel
theorem dX8_closed_29 : decode cX8_closed 29 = .ok (.iconst 1, 1) := by decide +kernel
theorem dX8_closed_30 : decode cX8_closed 30 = .ok (.ireturn, 1) := by decide +kernel
theorem dX8_cooled_0 : decode cX8_cooled 0 = .ok (.iload_n 1, 1) := by decide +kernel
theorem dX8_cooled_1 : decode cX8_cooled 1 = .ok (.iload_n 1, 1) := by decide +kernel
theorem dX8_cooled_2 : decode cX8_cooled 2 = .ok (.bipush 10, 2) := by decide +kernel
theorem dX8_cooled_4 : decode cX8_cooled 4 = .ok (.aload_n 0, 1) := by decide +kernel
theorem dX8_cooled_5 : decode cX8_cooled 5 = .ok (.getfield 7, 3) := by decide +kernel
theorem dX8_cooled_8 : decode cX8_cooled 8 = .ok (.imul, 1) := by decide +kernel
theorem dX8_cooled_9 : decode cX8_cooled 9 = .ok (.isub, 1) := by decide +kernel
theorem dX8_cooled_10 : decode cX8_cooled 10 = .ok (.aload_n 0, 1) := by decide +kernel
theorem dX8_cooled_11 : decode cX8_cooled 11 = .ok (.getfield 94, 3) := by decide +kernel
theorem dX8_cooled_14 : decode cX8_cooled 14 = .ok (.iconst 1, 1) := by decide +kernel
theorem dX8_cooled_15 : decode cX8_cooled 15 = .ok (.iaload, 1) := by decide +kernel
theorem dX8_cooled_16 : decode cX8_cooled 16 = .ok (.idiv, 1) := by decide +kernel
theorem dX8_cooled_17 : decode cX8_cooled 17 = .ok (.isub, 1) := by decide +kernel
theorem dX8_cooled_18 : decode cX8_cooled 18 = .ok (.ireturn, 1) := by decide +kernel
theorem dX8_count_0 : decode cX8_count 0 = .ok (.iconst 0, 1) := by decide +kernel
theorem dX8_count_1 : decode cX8_count 1 = .ok (.istore_n 2, 1) := by decide +kernel
theorem dX8_count_2 : decode cX8_count 2 = .ok (.iload_n 1, 1) := by decide +kernel
theorem dX8_count_3 : decode cX8_count 3 = .ok (.tableswitch 143 0 9 #[53, 58, 63, 68, 103, 108, 113, 118, 123, 138], 53) := by decide +kernel
theorem dX8_count_56 : decode cX8_count 56 = .ok (.aload_n 0, 1) := by decide +kernel
theorem dX8_count_57 : decode cX8_count 57 = .ok (.getfield 197, 3) := by decide +kernel
theorem dX8_count_60 : decode cX8_count 60 = .ok (.ireturn, 1) := by decide +kernel
theorem dX8_count_61 : decode cX8_count 61 = .ok (.aload_n 0, 1) := by decide +kernel
theorem dX8_count_62 : decode cX8_count 62 = .ok (.getfield 131, 3) := by decide +kernel
theorem dX8_count_65 : decode cX8_count 65 = .ok (.ireturn, 1) := by decide +kernel
theorem dX8_count_66 : decode cX8_count 66 = .ok (.aload_n 0, 1) := by decide +kernel
theorem dX8_count_67 : decode cX8_count 67 = .ok (.getfield 191, 3) := by decide +kernel
theorem dX8_count_70 : decode cX8_count 70 = .ok (.ireturn, 1) := by decide +kernel
theorem dX8_count_71 : decode cX8_count 71 = .ok (.iconst 0, 1) := by decide +kernel
theorem dX8_count_72 : decode cX8_count 72 = .ok (.istore_n 3, 1) := by decide +kernel
theorem dX8_count_73 : decode cX8_count 73 = .ok (.iload_n 3, 1) := by decide +kernel
theorem dX8_count_74 : decode cX8_count 74 = .ok (.aload_n 0, 1) := by decide +kernel
theorem dX8_count_75 : decode cX8_count 75 = .ok (.getfield 191, 3) := by decide +kernel
theorem dX8_count_78 : decode cX8_count 78 = .ok (.if_icmp .ge 26, 3) := by decide +kernel
theorem dX8_count_81 : decode cX8_count 81 = .ok (.iload_n 2, 1) := by decide +kernel
theorem dX8_count_82 : decode cX8_count 82 = .ok (.aload_n 0, 1) := by decide +kernel
theorem dX8_count_83 : decode cX8_count 83 = .ok (.getfield 54, 3) := by decide +kernel
theorem dX8_count_86 : decode cX8_count 86 = .ok (.iload_n 3, 1) := by decide +kernel
theorem dX8_count_87 : decode cX8_count 87 = .ok (.iaload, 1) := by decide +kernel
theorem dX8_count_88 : decode cX8_count 88 = .ok (.ifCond .ne 7, 3) := by decide +kernel
theorem dX8_count_91 : decode cX8_count 91 = .ok (.iconst 1, 1) := by decide +kernel
theorem dX8_count_92 : decode cX8_count 92 = .ok (.goto 4, 3) := by decide +kernel
theorem dX8_count_95 : decode cX8_count 95 = .ok (.iconst 0, 1) := by decide +kernel
theorem dX8_count_96 : decode cX8_count 96 = .ok (.iadd, 1) := by decide +kernel
theorem dX8_count_97 : decode cX8_count 97 = .ok (.istore_n 2, 1) := by decide +kernel
theorem dX8_count_98 : decode cX8_count 98 = .ok (.iinc 3 1, 3) := by decide +kernel
theorem dX8_count_101 : decode cX8_count 101 = .ok (.goto (-28), 3) := by decide +kernel
theorem dX8_count_104 : decode cX8_count 104 = .ok (.iload_n 2, 1) := by decide +kernel
theorem dX8_count_105 : decode cX8_count 105 = .ok (.ireturn, 1) := by decide +kernel
theorem dX8_count_106 : decode cX8_count 106 = .ok (.aload_n 0, 1) := by decide +kernel
theorem dX8_count_107 : decode cX8_count 107 = .ok (.getfield 208, 3) := by decide +kernel
theorem dX8_count_110 : decode cX8_count 110 = .ok (.ireturn, 1) := by decide +kernel
theorem dX8_count_111 : decode cX8_count 111 = .ok (.aload_n 0, 1) := by decide +kernel
theorem dX8_count_112 : decode cX8_count 112 = .ok (.getfield 211, 3) := by decide +kernel
theorem dX8_count_115 : decode cX8_count 115 = .ok (.ireturn, 1) := by decide +kernel
theorem dX8_count_116 : decode cX8_count 116 = .ok (.aload_n 0, 1) := by decide +kernel
theorem dX8_count_117 : decode cX8_count 117 = .ok (.getfield 227, 3) := by decide +kernel
theorem dX8_count_120 : decode cX8_count 120 = .ok (.ireturn, 1) := by decide +kernel
theorem dX8_count_121 : decode cX8_count 121 = .ok (.aload_n 0, 1) := by decide +kernel
theorem dX8_count_122 : decode cX8_count 122 = .ok (.getfield 230, 3) := by decide +kernel
theorem dX8_count_125 : decode cX8_count 125 = .ok (.ireturn, 1) := by decide +kernel
theorem dX8_count_126 : decode cX8_count 126 = .ok (.aload_n 0, 1) := by decide +kernel
theorem dX8_count_127 : decode cX8_count 127 = .ok (.getfield 138, 3) := by decide +kernel
theorem dX8_count_130 : decode cX8_count 130 = .ok (.aload_n 0, 1) := by decide +kernel
theorem dX8_count_131 : decode cX8_count 131 = .ok (.getfield 208, 3) := by decide +kernel
theorem dX8_count_134 : decode cX8_count 134 = .ok (.iadd, 1) := by decide +kernel
theorem dX8_count_135 : decode cX8_count 135 = .ok (.aload_n 0, 1) := by decide +kernel
theorem dX8_count_136 : decode cX8_count 136 = .ok (.getfield 230, 3) := by decide +kernel
theorem dX8_count_139 : decode cX8_count 139 = .ok (.iadd, 1) := by decide +kernel
theorem dX8_count_140 : decode cX8_count 140 = .ok (.ireturn, 1) := by decide +kernel
theorem dX8_count_141 : decode cX8_count 141 = .ok (.aload_n 0, 1) := by decide +kernel
theorem dX8_count_142 : decode cX8_count 142 = .ok (.getfield 145, 3) := by decide +kernel
theorem dX8_count_145 : decode cX8_count 145 = .ok (.ireturn, 1) := by decide +kernel
theorem dX8_count_146 : decode cX8_count 146 = .ok (.iload_n 1, 1) := by decide +kernel
theorem dX8_count_147 : decode cX8_count 147 = .ok (.bipush 10, 2) := by decide +kernel
theorem dX8_count_149 : decode cX8_count 149 = .ok (.bipush 14, 2) := by decide +kernel
theorem dX8_count_151 : decode cX8_count 151 = .ok (.invokestatic 134, 3) := by decide +kernel
theorem dX8_count_154 : decode cX8_count 154 = .ok (.ifCond .eq 15, 3) := by decide +kernel
theorem dX8_count_157 : decode cX8_count 157 = .ok (.aload_n 0, 1) := by decide +kernel
theorem dX8_count_158 : decode cX8_count 158 = .ok (.getfield 94, 3) := by decide +kernel
theorem dX8_count_161 : decode cX8_count 161 = .ok (.iload_n 1, 1) := by decide +kernel
theorem dX8_count_162 : decode cX8_count 162 = .ok (.bipush 10, 2) := by decide +kernel
theorem dX8_count_164 : decode cX8_count 164 = .ok (.isub, 1) := by decide +kernel
theorem dX8_count_165 : decode cX8_count 165 = .ok (.iaload, 1) := by decide +kernel
theorem dX8_count_166 : decode cX8_count 166 = .ok (.goto 4, 3) := by decide +kernel
theorem dX8_count_169 : decode cX8_count 169 = .ok (.iconst (-1), 1) := by decide +kernel
theorem dX8_count_170 : decode cX8_count 170 = .ok (.ireturn, 1) := by decide +kernel
theorem dX8_draws_0 : decode cX8_draws 0 = .ok (.aload_n 0, 1) := by decide +kernel
theorem dX8_draws_1 : decode cX8_draws 1 = .ok (.getfield 36, 3) := by decide +kernel
theorem dX8_draws_4 : decode cX8_draws 4 = .ok (.iload_n 1, 1) := by decide +kernel
theorem dX8_draws_5 : decode cX8_draws 5 = .ok (.iaload, 1) := by decide +kernel
theorem dX8_draws_6 : decode cX8_draws 6 = .ok (.istore_n 2, 1) := by decide +kernel
theorem dX8_draws_7 : decode cX8_draws 7 = .ok (.aload_n 0, 1) := by decide +kernel
theorem dX8_draws_8 : decode cX8_draws 8 = .ok (.getfield 72, 3) := by decide +kernel
theorem dX8_draws_11 : decode cX8_draws 11 = .ok (.iload_n 2, 1) := by decide +kernel
theorem dX8_draws_12 : decode cX8_draws 12 = .ok (.baload, 1) := by decide +kernel
theorem dX8_draws_13 : decode cX8_draws 13 = .ok (.ifCond .eq 10, 3) := by decide +kernel
theorem dX8_draws_16 : decode cX8_draws 16 = .ok (.aload_n 0, 1) := by decide +kernel
theorem dX8_draws_17 : decode cX8_draws 17 = .ok (.iload_n 1, 1) := by decide +kernel
theorem dX8_draws_18 : decode cX8_draws 18 = .ok (.iconst 4, 1) := by decide +kernel
theorem dX8_draws_19 : decode cX8_draws 19 = .ok (.invokevirtual 200, 3) := by decide +kernel
theorem dX8_draws_22 : decode cX8_draws 22 = .ok (.return_, 1) := by decide +kernel
theorem dX8_draws_23 : decode cX8_draws 23 = .ok (.aload_n 0, 1) := by decide +kernel
theorem dX8_draws_24 : decode cX8_draws 24 = .ok (.getfield 60, 3) := by decide +kernel
theorem dX8_draws_27 : decode cX8_draws 27 = .ok (.iload_n 2, 1) := by decide +kernel
theorem dX8_draws_28 : decode cX8_draws 28 = .ok (.iaload, 1) := by decide +kernel
theorem dX8_draws_29 : decode cX8_draws 29 = .ok (.aload_n 0, 1) := by decide +kernel
theorem dX8_draws_30 : decode cX8_draws 30 = .ok (.getfield 131, 3) := by decide +kernel
theorem dX8_draws_33 : decode cX8_draws 33 = .ok (.if_icmp .ge 168, 3) := by decide +kernel
theorem dX8_draws_36 : decode cX8_draws 36 = .ok (.aload_n 0, 1) := by decide +kernel
theorem dX8_draws_37 : decode cX8_draws 37 = .ok (.getfield 60, 3) := by decide +kernel
theorem dX8_draws_40 : decode cX8_draws 40 = .ok (.iload_n 2, 1) := by decide +kernel
theorem dX8_draws_41 : decode cX8_draws 41 = .ok (.iaload, 1) := by decide +kernel
theorem dX8_draws_42 : decode cX8_draws 42 = .ok (.istore_n 3, 1) := by decide +kernel
theorem dX8_draws_43 : decode cX8_draws 43 = .ok (.aload_n 0, 1) := by decide +kernel
theorem dX8_draws_44 : decode cX8_draws 44 = .ok (.getfield 29, 3) := by decide +kernel
theorem dX8_draws_47 : decode cX8_draws 47 = .ok (.iload_n 3, 1) := by decide +kernel
theorem dX8_draws_48 : decode cX8_draws 48 = .ok (.baload, 1) := by decide +kernel
theorem dX8_draws_49 : decode cX8_draws 49 = .ok (.ifCond .eq 7, 3) := by decide +kernel
theorem dX8_draws_52 : decode cX8_draws 52 = .ok (.iconst 0, 1) := by decide +kernel
theorem dX8_draws_53 : decode cX8_draws 53 = .ok (.goto 43, 3) := by decide +kernel
theorem dX8_draws_56 : decode cX8_draws 56 = .ok (.aload_n 0, 1) := by decide +kernel
theorem dX8_draws_57 : decode cX8_draws 57 = .ok (.aload_n 0, 1) := by decide +kernel
theorem dX8_draws_58 : decode cX8_draws 58 = .ok (.getfield 13, 3) := by decide +kernel
theorem dX8_draws_61 : decode cX8_draws 61 = .ok (.iload_n 3, 1) := by decide +kernel
theorem dX8_draws_62 : decode cX8_draws 62 = .ok (.iaload, 1) := by decide +kernel
theorem dX8_draws_63 : decode cX8_draws 63 = .ok (.aload_n 0, 1) := by decide +kernel
theorem dX8_draws_64 : decode cX8_draws 64 = .ok (.getfield 17, 3) := by decide +kernel
theorem dX8_draws_67 : decode cX8_draws 67 = .ok (.iload_n 3, 1) := by decide +kernel
theorem dX8_draws_68 : decode cX8_draws 68 = .ok (.iaload, 1) := by decide +kernel
theorem dX8_draws_69 : decode cX8_draws 69 = .ok (.aload_n 0, 1) := by decide +kernel
theorem dX8_draws_70 : decode cX8_draws 70 = .ok (.getfield 45, 3) := by decide +kernel
theorem dX8_draws_73 : decode cX8_draws 73 = .ok (.iload_n 2, 1) := by decide +kernel
theorem dX8_draws_74 : decode cX8_draws 74 = .ok (.iaload, 1) := by decide +kernel
theorem dX8_draws_75 : decode cX8_draws 75 = .ok (.aload_n 0, 1) := by decide +kernel
theorem dX8_draws_76 : decode cX8_draws 76 = .ok (.getfield 48, 3) := by decide +kernel
theorem dX8_draws_79 : decode cX8_draws 79 = .ok (.iload_n 2, 1) := by decide +kernel
theorem dX8_draws_80 : decode cX8_draws 80 = .ok (.iaload, 1) := by decide +kernel
theorem dX8_draws_81 : decode cX8_draws 81 = .ok (.aload_n 0, 1) := by decide +kernel
theorem dX8_draws_82 : decode cX8_draws 82 = .ok (.getfield 51, 3) := by decide +kernel
theorem dX8_draws_85 : decode cX8_draws 85 = .ok (.iload_n 2, 1) := by decide +kernel
theorem dX8_draws_86 : decode cX8_draws 86 = .ok (.iaload, 1) := by decide +kernel
theorem dX8_draws_87 : decode cX8_draws 87 = .ok (.aload_n 0, 1) := by decide +kernel
theorem dX8_draws_88 : decode cX8_draws 88 = .ok (.getfield 57, 3) := by decide +kernel
theorem dX8_draws_91 : decode cX8_draws 91 = .ok (.iload_n 2, 1) := by decide +kernel
theorem dX8_draws_92 : decode cX8_draws 92 = .ok (.iaload, 1) := by decide +kernel
theorem dX8_draws_93 : decode cX8_draws 93 = .ok (.invokevirtual 204, 3) := by decide +kernel
theorem dX8_draws_96 : decode cX8_draws 96 = .ok (.istore 4, 2) := by decide +kernel
theorem dX8_draws_98 : decode cX8_draws 98 = .ok (.aload_n 0, 1) := by decide +kernel
theorem dX8_draws_99 : decode cX8_draws 99 = .ok (.getfield 29, 3) := by decide +kernel
theorem dX8_draws_102 : decode cX8_draws 102 = .ok (.iload_n 3, 1) := by decide +kernel
theorem dX8_draws_103 : decode cX8_draws 103 = .ok (.baload, 1) := by decide +kernel
theorem dX8_draws_104 : decode cX8_draws 104 = .ok (.ifCond .ne 84, 3) := by decide +kernel
theorem dX8_draws_107 : decode cX8_draws 107 = .ok (.iload 4, 2) := by decide +kernel
theorem dX8_draws_109 : decode cX8_draws 109 = .ok (.aload_n 0, 1) := by decide +kernel
theorem dX8_draws_110 : decode cX8_draws 110 = .ok (.getfield 94, 3) := by decide +kernel
theorem dX8_draws_113 : decode cX8_draws 113 = .ok (.iconst 4, 1) := by decide +kernel
theorem dX8_draws_114 : decode cX8_draws 114 = .ok (.iaload, 1) := by decide +kernel
theorem dX8_draws_115 : decode cX8_draws 115 = .ok (.if_icmp .lt 73, 3) := by decide +kernel
theorem dX8_draws_118 : decode cX8_draws 118 = .ok (.aload_n 0, 1) := by decide +kernel
theorem dX8_draws_119 : decode cX8_draws 119 = .ok (.getfield 17, 3) := by decide +kernel
theorem dX8_draws_122 : decode cX8_draws 122 = .ok (.iload_n 3, 1) := by decide +kernel
theorem dX8_draws_123 : decode cX8_draws 123 = .ok (.dup2, 1) := by decide +kernel
theorem dX8_draws_124 : decode cX8_draws 124 = .ok (.iaload, 1) := by decide +kernel
theorem dX8_draws_125 : decode cX8_draws 125 = .ok (.iload 4, 2) := by decide +kernel
theorem dX8_draws_127 : decode cX8_draws 127 = .ok (.isub, 1) := by decide +kernel
theorem dX8_draws_128 : decode cX8_draws 128 = .ok (.iastore, 1) := by decide +kernel
theorem dX8_draws_129 : decode cX8_draws 129 = .ok (.aload_n 0, 1) := by decide +kernel
theorem dX8_draws_130 : decode cX8_draws 130 = .ok (.getfield 23, 3) := by decide +kernel
theorem dX8_draws_133 : decode cX8_draws 133 = .ok (.iload_n 3, 1) := by decide +kernel
theorem dX8_draws_134 : decode cX8_draws 134 = .ok (.dup2, 1) := by decide +kernel
theorem dX8_draws_135 : decode cX8_draws 135 = .ok (.iaload, 1) := by decide +kernel
theorem dX8_draws_136 : decode cX8_draws 136 = .ok (.iload 4, 2) := by decide +kernel
theorem dX8_draws_138 : decode cX8_draws 138 = .ok (.iadd, 1) := by decide +kernel
theorem dX8_draws_139 : decode cX8_draws 139 = .ok (.iastore, 1) := by decide +kernel
theorem dX8_draws_140 : decode cX8_draws 140 = .ok (.aload_n 0, 1) := by decide +kernel
theorem dX8_draws_141 : decode cX8_draws 141 = .ok (.getfield 48, 3) := by decide +kernel
theorem dX8_draws_144 : decode cX8_draws 144 = .ok (.iload_n 2, 1) := by decide +kernel
theorem dX8_draws_145 : decode cX8_draws 145 = .ok (.dup2, 1) := by decide +kernel
theorem dX8_draws_146 : decode cX8_draws 146 = .ok (.iaload, 1) := by decide +kernel
theorem dX8_draws_147 : decode cX8_draws 147 = .ok (.iload 4, 2) := by decide +kernel
theorem dX8_draws_149 : decode cX8_draws 149 = .ok (.iadd, 1) := by decide +kernel
theorem dX8_draws_150 : decode cX8_draws 150 = .ok (.iastore, 1) := by decide +kernel
theorem dX8_draws_151 : decode cX8_draws 151 = .ok (.aload_n 0, 1) := by decide +kernel
theorem dX8_draws_152 : decode cX8_draws 152 = .ok (.getfield 69, 3) := by decide +kernel
theorem dX8_draws_155 : decode cX8_draws 155 = .ok (.iload_n 2, 1) := by decide +kernel
theorem dX8_draws_156 : decode cX8_draws 156 = .ok (.dup2, 1) := by decide +kernel
theorem dX8_draws_157 : decode cX8_draws 157 = .ok (.iaload, 1) := by decide +kernel
theorem dX8_draws_158 : decode cX8_draws 158 = .ok (.iload 4, 2) := by decide +kernel
theorem dX8_draws_160 : decode cX8_draws 160 = .ok (.iadd, 1) := by decide +kernel
theorem dX8_draws_161 : decode cX8_draws 161 = .ok (.iastore, 1) := by decide +kernel
theorem dX8_draws_162 : decode cX8_draws 162 = .ok (.aload_n 0, 1) := by decide +kernel
theorem dX8_draws_163 : decode cX8_draws 163 = .ok (.getfield 57, 3) := by decide +kernel
theorem dX8_draws_166 : decode cX8_draws 166 = .ok (.iload_n 2, 1) := by decide +kernel
theorem dX8_draws_167 : decode cX8_draws 167 = .ok (.dup2, 1) := by decide +kernel
theorem dX8_draws_168 : decode cX8_draws 168 = .ok (.iaload, 1) := by decide +kernel
theorem dX8_draws_169 : decode cX8_draws 169 = .ok (.iload 4, 2) := by decide +kernel
theorem dX8_draws_171 : decode cX8_draws 171 = .ok (.aload_n 0, 1) := by decide +kernel
theorem dX8_draws_172 : decode cX8_draws 172 = .ok (.getfield 94, 3) := by decide +kernel
theorem dX8_draws_175 : decode cX8_draws 175 = .ok (.iconst 0, 1) := by decide +kernel
theorem dX8_draws_176 : decode cX8_draws 176 = .ok (.iaload, 1) := by decide +kernel
theorem dX8_draws_177 : decode cX8_draws 177 = .ok (.imul, 1) := by decide +kernel
theorem dX8_draws_178 : decode cX8_draws 178 = .ok (.aload_n 0, 1) := by decide +kernel
theorem dX8_draws_179 : decode cX8_draws 179 = .ok (.getfield 45, 3) := by decide +kernel
theorem dX8_draws_182 : decode cX8_draws 182 = .ok (.iload_n 2, 1) := by decide +kernel
theorem dX8_draws_183 : decode cX8_draws 183 = .ok (.iaload, 1) := by decide +kernel
theorem dX8_draws_184 : decode cX8_draws 184 = .ok (.idiv, 1) := by decide +kernel
theorem dX8_draws_185 : decode cX8_draws 185 = .ok (.iadd, 1) := by decide +kernel
theorem dX8_draws_186 : decode cX8_draws 186 = .ok (.iastore, 1) := by decide +kernel
theorem dX8_draws_187 : decode cX8_draws 187 = .ok (.return_, 1) := by decide +kernel
theorem dX8_draws_188 : decode cX8_draws 188 = .ok (.aload_n 0, 1) := by decide +kernel
theorem dX8_draws_189 : decode cX8_draws 189 = .ok (.getfield 60, 3) := by decide +kernel
theorem dX8_draws_192 : decode cX8_draws 192 = .ok (.iload_n 2, 1) := by decide +kernel
theorem dX8_draws_193 : decode cX8_draws 193 = .ok (.dup2, 1) := by decide +kernel
theorem dX8_draws_194 : decode cX8_draws 194 = .ok (.iaload, 1) := by decide +kernel
theorem dX8_draws_195 : decode cX8_draws 195 = .ok (.iconst 1, 1) := by decide +kernel
theorem dX8_draws_196 : decode cX8_draws 196 = .ok (.iadd, 1) := by decide +kernel
theorem dX8_draws_197 : decode cX8_draws 197 = .ok (.iastore, 1) := by decide +kernel
theorem dX8_draws_198 : decode cX8_draws 198 = .ok (.goto (-175), 3) := by decide +kernel
theorem dX8_draws_201 : decode cX8_draws 201 = .ok (.aload_n 0, 1) := by decide +kernel
theorem dX8_draws_202 : decode cX8_draws 202 = .ok (.iload_n 1, 1) := by decide +kernel
theorem dX8_draws_203 : decode cX8_draws 203 = .ok (.aload_n 0, 1) := by decide +kernel
theorem dX8_draws_204 : decode cX8_draws 204 = .ok (.getfield 48, 3) := by decide +kernel
theorem dX8_draws_207 : decode cX8_draws 207 = .ok (.iload_n 2, 1) := by decide +kernel
theorem dX8_draws_208 : decode cX8_draws 208 = .ok (.iaload, 1) := by decide +kernel
theorem dX8_draws_209 : decode cX8_draws 209 = .ok (.aload_n 0, 1) := by decide +kernel
theorem dX8_draws_210 : decode cX8_draws 210 = .ok (.getfield 45, 3) := by decide +kernel
theorem dX8_draws_213 : decode cX8_draws 213 = .ok (.iload_n 2, 1) := by decide +kernel
theorem dX8_draws_214 : decode cX8_draws 214 = .ok (.iaload, 1) := by decide +kernel
theorem dX8_draws_215 : decode cX8_draws 215 = .ok (.aload_n 0, 1) := by decide +kernel
theorem dX8_draws_216 : decode cX8_draws 216 = .ok (.getfield 51, 3) := by decide +kernel
theorem dX8_draws_219 : decode cX8_draws 219 = .ok (.iload_n 2, 1) := by decide +kernel
theorem dX8_draws_220 : decode cX8_draws 220 = .ok (.iaload, 1) := by decide +kernel
theorem dX8_draws_221 : decode cX8_draws 221 = .ok (.imul, 1) := by decide +kernel
theorem dX8_draws_222 : decode cX8_draws 222 = .ok (.if_icmp .ne 7, 3) := by decide +kernel
theorem dX8_draws_225 : decode cX8_draws 225 = .ok (.iconst 2, 1) := by decide +kernel
theorem dX8_draws_226 : decode cX8_draws 226 = .ok (.goto 4, 3) := by decide +kernel
theorem dX8_draws_229 : decode cX8_draws 229 = .ok (.iconst 3, 1) := by decide +kernel
theorem dX8_draws_230 : decode cX8_draws 230 = .ok (.invokevirtual 200, 3) := by decide +kernel
theorem dX8_draws_233 : decode cX8_draws 233 = .ok (.return_, 1) := by decide +kernel
theorem dX8_end_0 : decode cX8_end 0 = .ok (.iload_n 1, 1) := by decide +kernel
theorem dX8_end_1 : decode cX8_end 1 = .ok (.ifCond .lt 11, 3) := by decide +kernel
theorem dX8_end_4 : decode cX8_end 4 = .ok (.iload_n 1, 1) := by decide +kernel
theorem dX8_end_5 : decode cX8_end 5 = .ok (.aload_n 0, 1) := by decide +kernel
theorem dX8_end_6 : decode cX8_end 6 = .ok (.getfield 145, 3) := by decide +kernel
theorem dX8_end_9 : decode cX8_end 9 = .ok (.if_icmp .le 5, 3) := by decide +kernel
theorem dX8_end_12 : decode cX8_end 12 = .ok (.iconst (-1), 1) := by decide +kernel
theorem dX8_end_13 : decode cX8_end 13 = .ok (.ireturn, 1) := by decide +kernel
theorem dX8_end_14 : decode cX8_end 14 = .ok (.aload_n 0, 1) := by decide +kernel
theorem dX8_end_15 : decode cX8_end 15 = .ok (.iload_n 1, 1) := by decide +kernel
theorem dX8_end_16 : decode cX8_end 16 = .ok (.putfield 145, 3) := by decide +kernel
theorem dX8_end_19 : decode cX8_end 19 = .ok (.iload_n 1, 1) := by decide +kernel
theorem dX8_end_20 : decode cX8_end 20 = .ok (.ireturn, 1) := by decide +kernel
theorem dX8_fails_0 : decode cX8_fails 0 = .ok (.aload_n 0, 1) := by decide +kernel
theorem dX8_fails_1 : decode cX8_fails 1 = .ok (.getfield 152, 3) := by decide +kernel
theorem dX8_fails_4 : decode cX8_fails 4 = .ok (.ifCond .ne 15, 3) := by decide +kernel
theorem dX8_fails_7 : decode cX8_fails 7 = .ok (.aload_n 0, 1) := by decide +kernel
theorem dX8_fails_8 : decode cX8_fails 8 = .ok (.iconst 1, 1) := by decide +kernel
theorem dX8_fails_9 : decode cX8_fails 9 = .ok (.bipush 8, 2) := by decide +kernel
theorem dX8_fails_11 : decode cX8_fails 11 = .ok (.iload_n 2, 1) := by decide +kernel
theorem dX8_fails_12 : decode cX8_fails 12 = .ok (.imul, 1) := by decide +kernel
theorem dX8_fails_13 : decode cX8_fails 13 = .ok (.iadd, 1) := by decide +kernel
theorem dX8_fails_14 : decode cX8_fails 14 = .ok (.iload_n 1, 1) := by decide +kernel
theorem dX8_fails_15 : decode cX8_fails 15 = .ok (.iadd, 1) := by decide +kernel
theorem dX8_fails_16 : decode cX8_fails 16 = .ok (.putfield 152, 3) := by decide +kernel
theorem dX8_fails_19 : decode cX8_fails 19 = .ok (.iconst 0, 1) := by decide +kernel
theorem dX8_fails_20 : decode cX8_fails 20 = .ok (.ireturn, 1) := by decide +kernel
theorem dX8_feed_0 : decode cX8_feed 0 = .ok (.aload_n 0, 1) := by decide +kernel
theorem dX8_feed_1 : decode cX8_feed 1 = .ok (.getfield 145, 3) := by decide +kernel
theorem dX8_feed_4 : decode cX8_feed 4 = .ok (.bipush 20, 2) := by decide +kernel
theorem dX8_feed_6 : decode cX8_feed 6 = .ok (.iadd, 1) := by decide +kernel
theorem dX8_feed_7 : decode cX8_feed 7 = .ok (.sipush 200, 3) := by decide +kernel
theorem dX8_feed_10 : decode cX8_feed 10 = .ok (.if_icmp .le 5, 3) := by decide +kernel
theorem dX8_feed_13 : decode cX8_feed 13 = .ok (.iconst (-1), 1) := by decide +kernel
theorem dX8_feed_14 : decode cX8_feed 14 = .ok (.ireturn, 1) := by decide +kernel
theorem dX8_feed_15 : decode cX8_feed 15 = .ok (.aload_n 0, 1) := by decide +kernel
theorem dX8_feed_16 : decode cX8_feed 16 = .ok (.iload_n 1, 1) := by decide +kernel
theorem dX8_feed_17 : decode cX8_feed 17 = .ok (.invokevirtual 148, 3) := by decide +kernel
theorem dX8_feed_20 : decode cX8_feed 20 = .ok (.aload_n 0, 1) := by decide +kernel
theorem dX8_feed_21 : decode cX8_feed 21 = .ok (.iload_n 2, 1) := by decide +kernel
theorem dX8_feed_22 : decode cX8_feed 22 = .ok (.invokevirtual 148, 3) := by decide +kernel
theorem dX8_feed_25 : decode cX8_feed 25 = .ok (.aload_n 0, 1) := by decide +kernel
theorem dX8_feed_26 : decode cX8_feed 26 = .ok (.iload_n 3, 1) := by decide +kernel
theorem dX8_feed_27 : decode cX8_feed 27 = .ok (.invokevirtual 148, 3) := by decide +kernel
theorem dX8_feed_30 : decode cX8_feed 30 = .ok (.aload_n 0, 1) := by decide +kernel
theorem dX8_feed_31 : decode cX8_feed 31 = .ok (.iload 4, 2) := by decide +kernel
theorem dX8_feed_33 : decode cX8_feed 33 = .ok (.invokevirtual 148, 3) := by decide +kernel
theorem dX8_feed_36 : decode cX8_feed 36 = .ok (.aload_n 0, 1) := by decide +kernel
theorem dX8_feed_37 : decode cX8_feed 37 = .ok (.iload 5, 2) := by decide +kernel
theorem dX8_feed_39 : decode cX8_feed 39 = .ok (.invokevirtual 148, 3) := by decide +kernel
theorem dX8_feed_42 : decode cX8_feed 42 = .ok (.aload_n 0, 1) := by decide +kernel
theorem dX8_feed_43 : decode cX8_feed 43 = .ok (.getfield 145, 3) := by decide +kernel
theorem dX8_feed_46 : decode cX8_feed 46 = .ok (.ireturn, 1) := by decide +kernel
theorem dX8_flow_0 : decode cX8_flow 0 = .ok (.iload_n 1, 1) := by decide +kernel
theorem dX8_flow_1 : decode cX8_flow 1 = .ok (.sipush (-400), 3) := by decide +kernel
theorem dX8_flow_4 : decode cX8_flow 4 = .ok (.sipush 400, 3) := by decide +kernel
theorem dX8_flow_7 : decode cX8_flow 7 = .ok (.invokestatic 134, 3) := by decide +kernel
theorem dX8_flow_10 : decode cX8_flow 10 = .ok (.ifCond .eq 11, 3) := by decide +kernel
theorem dX8_flow_13 : decode cX8_flow 13 = .ok (.aload_n 0, 1) := by decide +kernel
theorem dX8_flow_14 : decode cX8_flow 14 = .ok (.iload_n 1, 1) := by decide +kernel
theorem dX8_flow_15 : decode cX8_flow 15 = .ok (.invokevirtual 188, 3) := by decide +kernel
theorem dX8_flow_18 : decode cX8_flow 18 = .ok (.goto 4, 3) := by decide +kernel
theorem dX8_flow_21 : decode cX8_flow 21 = .ok (.iconst (-1), 1) := by decide +kernel
theorem dX8_flow_22 : decode cX8_flow 22 = .ok (.ireturn, 1) := by decide +kernel
theorem dX8_flowAt_0 : decode cX8_flowAt 0 = .ok (.iconst 0, 1) := by decide +kernel
theorem dX8_flowAt_1 : decode cX8_flowAt 1 = .ok (.istore_n 2, 1) := by decide +kernel
theorem dX8_flowAt_2 : decode cX8_flowAt 2 = .ok (.iconst 0, 1) := by decide +kernel
theorem dX8_flowAt_3 : decode cX8_flowAt 3 = .ok (.istore_n 3, 1) := by decide +kernel
theorem dX8_flowAt_4 : decode cX8_flowAt 4 = .ok (.iload_n 3, 1) := by decide +kernel
theorem dX8_flowAt_5 : decode cX8_flowAt 5 = .ok (.aload_n 0, 1) := by decide +kernel
theorem dX8_flowAt_6 : decode cX8_flowAt 6 = .ok (.getfield 124, 3) := by decide +kernel
theorem dX8_flowAt_9 : decode cX8_flowAt 9 = .ok (.if_icmp .ge 26, 3) := by decide +kernel
theorem dX8_flowAt_12 : decode cX8_flowAt 12 = .ok (.aload_n 0, 1) := by decide +kernel
theorem dX8_flowAt_13 : decode cX8_flowAt 13 = .ok (.getfield 82, 3) := by decide +kernel
theorem dX8_flowAt_16 : decode cX8_flowAt 16 = .ok (.iload_n 3, 1) := by decide +kernel
theorem dX8_flowAt_17 : decode cX8_flowAt 17 = .ok (.iaload, 1) := by decide +kernel
theorem dX8_flowAt_18 : decode cX8_flowAt 18 = .ok (.iload_n 1, 1) := by decide +kernel
theorem dX8_flowAt_19 : decode cX8_flowAt 19 = .ok (.if_icmp .gt 10, 3) := by decide +kernel
theorem dX8_flowAt_22 : decode cX8_flowAt 22 = .ok (.aload_n 0, 1) := by decide +kernel
theorem dX8_flowAt_23 : decode cX8_flowAt 23 = .ok (.getfield 85, 3) := by decide +kernel
theorem dX8_flowAt_26 : decode cX8_flowAt 26 = .ok (.iload_n 3, 1) := by decide +kernel
theorem dX8_flowAt_27 : decode cX8_flowAt 27 = .ok (.iaload, 1) := by decide +kernel
theorem dX8_flowAt_28 : decode cX8_flowAt 28 = .ok (.istore_n 2, 1) := by decide +kernel
theorem dX8_flowAt_29 : decode cX8_flowAt 29 = .ok (.iinc 3 1, 3) := by decide +kernel
theorem dX8_flowAt_32 : decode cX8_flowAt 32 = .ok (.goto (-28), 3) := by decide +kernel
theorem dX8_flowAt_35 : decode cX8_flowAt 35 = .ok (.iload_n 2, 1) := by decide +kernel
theorem dX8_flowAt_36 : decode cX8_flowAt 36 = .ok (.ireturn, 1) := by decide +kernel
theorem dX8_four_0 : decode cX8_four 0 = .ok (.bipush 24, 2) := by decide +kernel
theorem dX8_four_2 : decode cX8_four 2 = .ok (.istore_n 2, 1) := by decide +kernel
theorem dX8_four_3 : decode cX8_four 3 = .ok (.iload_n 2, 1) := by decide +kernel
theorem dX8_four_4 : decode cX8_four 4 = .ok (.ifCond .lt 32, 3) := by decide +kernel
theorem dX8_four_7 : decode cX8_four 7 = .ok (.aload_n 0, 1) := by decide +kernel
theorem dX8_four_8 : decode cX8_four 8 = .ok (.getfield 78, 3) := by decide +kernel
theorem dX8_four_11 : decode cX8_four 11 = .ok (.aload_n 0, 1) := by decide +kernel
theorem dX8_four_12 : decode cX8_four 12 = .ok (.getfield 145, 3) := by decide +kernel
theorem dX8_four_15 : decode cX8_four 15 = .ok (.iload_n 1, 1) := by decide +kernel
theorem dX8_four_16 : decode cX8_four 16 = .ok (.iload_n 2, 1) := by decide +kernel
theorem dX8_four_17 : decode cX8_four 17 = .ok (.ishr, 1) := by decide +kernel
theorem dX8_four_18 : decode cX8_four 18 = .ok (.i2b, 1) := by decide +kernel
theorem dX8_four_19 : decode cX8_four 19 = .ok (.bastore, 1) := by decide +kernel
theorem dX8_four_20 : decode cX8_four 20 = .ok (.aload_n 0, 1) := by decide +kernel
theorem dX8_four_21 : decode cX8_four 21 = .ok (.dup, 1) := by decide +kernel
theorem dX8_four_22 : decode cX8_four 22 = .ok (.getfield 145, 3) := by decide +kernel
theorem dX8_four_25 : decode cX8_four 25 = .ok (.iconst 1, 1) := by decide +kernel
theorem dX8_four_26 : decode cX8_four 26 = .ok (.iadd, 1) := by decide +kernel
theorem dX8_four_27 : decode cX8_four 27 = .ok (.putfield 145, 3) := by decide +kernel
theorem dX8_four_30 : decode cX8_four 30 = .ok (.iinc 2 (-8), 3) := by decide +kernel
theorem dX8_four_33 : decode cX8_four 33 = .ok (.goto (-30), 3) := by decide +kernel
theorem dX8_four_36 : decode cX8_four 36 = .ok (.return_, 1) := by decide +kernel
theorem dX8_goes_0 : decode cX8_goes 0 = .ok (.aload_n 0, 1) := by decide +kernel
theorem dX8_goes_1 : decode cX8_goes 1 = .ok (.getfield 36, 3) := by decide +kernel
theorem dX8_goes_4 : decode cX8_goes 4 = .ok (.iload_n 1, 1) := by decide +kernel
theorem dX8_goes_5 : decode cX8_goes 5 = .ok (.iaload, 1) := by decide +kernel
theorem dX8_goes_6 : decode cX8_goes 6 = .ok (.istore_n 3, 1) := by decide +kernel
theorem dX8_goes_7 : decode cX8_goes 7 = .ok (.aload_n 0, 1) := by decide +kernel
theorem dX8_goes_8 : decode cX8_goes 8 = .ok (.getfield 54, 3) := by decide +kernel
theorem dX8_goes_11 : decode cX8_goes 11 = .ok (.iload_n 3, 1) := by decide +kernel
theorem dX8_goes_12 : decode cX8_goes 12 = .ok (.iload_n 2, 1) := by decide +kernel
theorem dX8_goes_13 : decode cX8_goes 13 = .ok (.iastore, 1) := by decide +kernel
theorem dX8_goes_14 : decode cX8_goes 14 = .ok (.aload_n 0, 1) := by decide +kernel
theorem dX8_goes_15 : decode cX8_goes 15 = .ok (.getfield 66, 3) := by decide +kernel
theorem dX8_goes_18 : decode cX8_goes 18 = .ok (.iload_n 3, 1) := by decide +kernel
theorem dX8_goes_19 : decode cX8_goes 19 = .ok (.aload_n 0, 1) := by decide +kernel
theorem dX8_goes_20 : decode cX8_goes 20 = .ok (.getfield 197, 3) := by decide +kernel
theorem dX8_goes_23 : decode cX8_goes 23 = .ok (.iastore, 1) := by decide +kernel
theorem dX8_goes_24 : decode cX8_goes 24 = .ok (.aload_n 0, 1) := by decide +kernel
theorem dX8_goes_25 : decode cX8_goes 25 = .ok (.getfield 60, 3) := by decide +kernel
theorem dX8_goes_28 : decode cX8_goes 28 = .ok (.iload_n 3, 1) := by decide +kernel
theorem dX8_goes_29 : decode cX8_goes 29 = .ok (.iconst (-1), 1) := by decide +kernel
theorem dX8_goes_30 : decode cX8_goes 30 = .ok (.iastore, 1) := by decide +kernel
theorem dX8_goes_31 : decode cX8_goes 31 = .ok (.aload_n 0, 1) := by decide +kernel
theorem dX8_goes_32 : decode cX8_goes 32 = .ok (.getfield 36, 3) := by decide +kernel
theorem dX8_goes_35 : decode cX8_goes 35 = .ok (.iload_n 1, 1) := by decide +kernel
theorem dX8_goes_36 : decode cX8_goes 36 = .ok (.iconst (-1), 1) := by decide +kernel
theorem dX8_goes_37 : decode cX8_goes 37 = .ok (.iastore, 1) := by decide +kernel
theorem dX8_goes_38 : decode cX8_goes 38 = .ok (.return_, 1) := by decide +kernel
theorem dX8_goesOn_0 : decode cX8_goesOn 0 = .ok (.iload_n 1, 1) := by decide +kernel
theorem dX8_goesOn_1 : decode cX8_goesOn 1 = .ok (.iconst 1, 1) := by decide +kernel
theorem dX8_goesOn_2 : decode cX8_goesOn 2 = .ok (.isub, 1) := by decide +kernel
theorem dX8_goesOn_3 : decode cX8_goesOn 3 = .ok (.istore_n 2, 1) := by decide +kernel
theorem dX8_goesOn_4 : decode cX8_goesOn 4 = .ok (.iload_n 2, 1) := by decide +kernel
theorem dX8_goesOn_5 : decode cX8_goesOn 5 = .ok (.ifCond .lt 108, 3) := by decide +kernel
theorem dX8_goesOn_8 : decode cX8_goesOn 8 = .ok (.aload_n 0, 1) := by decide +kernel
theorem dX8_goesOn_9 : decode cX8_goesOn 9 = .ok (.getfield 112, 3) := by decide +kernel
theorem dX8_goesOn_12 : decode cX8_goesOn 12 = .ok (.iload_n 2, 1) := by decide +kernel
theorem dX8_goesOn_13 : decode cX8_goesOn 13 = .ok (.dup2, 1) := by decide +kernel
theorem dX8_goesOn_14 : decode cX8_goesOn 14 = .ok (.iaload, 1) := by decide +kernel
theorem dX8_goesOn_15 : decode cX8_goesOn 15 = .ok (.iconst 1, 1) := by decide +kernel
theorem dX8_goesOn_16 : decode cX8_goesOn 16 = .ok (.iadd, 1) := by decide +kernel
theorem dX8_goesOn_17 : decode cX8_goesOn 17 = .ok (.iastore, 1) := by decide +kernel
theorem dX8_goesOn_18 : decode cX8_goesOn 18 = .ok (.aload_n 0, 1) := by decide +kernel
theorem dX8_goesOn_19 : decode cX8_goesOn 19 = .ok (.getfield 112, 3) := by decide +kernel
theorem dX8_goesOn_22 : decode cX8_goesOn 22 = .ok (.iload_n 2, 1) := by decide +kernel
theorem dX8_goesOn_23 : decode cX8_goesOn 23 = .ok (.iaload, 1) := by decide +kernel
theorem dX8_goesOn_24 : decode cX8_goesOn 24 = .ok (.aload_n 0, 1) := by decide +kernel
theorem dX8_goesOn_25 : decode cX8_goesOn 25 = .ok (.getfield 131, 3) := by decide +kernel
theorem dX8_goesOn_28 : decode cX8_goesOn 28 = .ok (.if_icmp .ge 30, 3) := by decide +kernel
theorem dX8_goesOn_31 : decode cX8_goesOn 31 = .ok (.aload_n 0, 1) := by decide +kernel
theorem dX8_goesOn_32 : decode cX8_goesOn 32 = .ok (.getfield 29, 3) := by decide +kernel
theorem dX8_goesOn_35 : decode cX8_goesOn 35 = .ok (.aload_n 0, 1) := by decide +kernel
theorem dX8_goesOn_36 : decode cX8_goesOn 36 = .ok (.getfield 112, 3) := by decide +kernel
theorem dX8_goesOn_39 : decode cX8_goesOn 39 = .ok (.iload_n 2, 1) := by decide +kernel
theorem dX8_goesOn_40 : decode cX8_goesOn 40 = .ok (.iaload, 1) := by decide +kernel
theorem dX8_goesOn_41 : decode cX8_goesOn 41 = .ok (.baload, 1) := by decide +kernel
theorem dX8_goesOn_42 : decode cX8_goesOn 42 = .ok (.ifCond .eq 16, 3) := by decide +kernel
theorem dX8_goesOn_45 : decode cX8_goesOn 45 = .ok (.aload_n 0, 1) := by decide +kernel
theorem dX8_goesOn_46 : decode cX8_goesOn 46 = .ok (.getfield 112, 3) := by decide +kernel
theorem dX8_goesOn_49 : decode cX8_goesOn 49 = .ok (.iload_n 2, 1) := by decide +kernel
theorem dX8_goesOn_50 : decode cX8_goesOn 50 = .ok (.dup2, 1) := by decide +kernel
theorem dX8_goesOn_51 : decode cX8_goesOn 51 = .ok (.iaload, 1) := by decide +kernel
theorem dX8_goesOn_52 : decode cX8_goesOn 52 = .ok (.iconst 1, 1) := by decide +kernel
theorem dX8_goesOn_53 : decode cX8_goesOn 53 = .ok (.iadd, 1) := by decide +kernel
theorem dX8_goesOn_54 : decode cX8_goesOn 54 = .ok (.iastore, 1) := by decide +kernel
theorem dX8_goesOn_55 : decode cX8_goesOn 55 = .ok (.goto (-37), 3) := by decide +kernel
theorem dX8_goesOn_58 : decode cX8_goesOn 58 = .ok (.aload_n 0, 1) := by decide +kernel
theorem dX8_goesOn_59 : decode cX8_goesOn 59 = .ok (.getfield 112, 3) := by decide +kernel
theorem dX8_goesOn_62 : decode cX8_goesOn 62 = .ok (.iload_n 2, 1) := by decide +kernel
theorem dX8_goesOn_63 : decode cX8_goesOn 63 = .ok (.iaload, 1) := by decide +kernel
theorem dX8_goesOn_64 : decode cX8_goesOn 64 = .ok (.aload_n 0, 1) := by decide +kernel
theorem dX8_goesOn_65 : decode cX8_goesOn 65 = .ok (.getfield 131, 3) := by decide +kernel
theorem dX8_goesOn_68 : decode cX8_goesOn 68 = .ok (.if_icmp .ge 5, 3) := by decide +kernel
theorem dX8_goesOn_71 : decode cX8_goesOn 71 = .ok (.iconst 1, 1) := by decide +kernel
theorem dX8_goesOn_72 : decode cX8_goesOn 72 = .ok (.ireturn, 1) := by decide +kernel
theorem dX8_goesOn_73 : decode cX8_goesOn 73 = .ok (.aload_n 0, 1) := by decide +kernel
theorem dX8_goesOn_74 : decode cX8_goesOn 74 = .ok (.getfield 112, 3) := by decide +kernel
theorem dX8_goesOn_77 : decode cX8_goesOn 77 = .ok (.iload_n 2, 1) := by decide +kernel
theorem dX8_goesOn_78 : decode cX8_goesOn 78 = .ok (.iconst 0, 1) := by decide +kernel
theorem dX8_goesOn_79 : decode cX8_goesOn 79 = .ok (.iastore, 1) := by decide +kernel
theorem dX8_goesOn_80 : decode cX8_goesOn 80 = .ok (.aload_n 0, 1) := by decide +kernel
theorem dX8_goesOn_81 : decode cX8_goesOn 81 = .ok (.getfield 29, 3) := by decide +kernel
theorem dX8_goesOn_84 : decode cX8_goesOn 84 = .ok (.aload_n 0, 1) := by decide +kernel
theorem dX8_goesOn_85 : decode cX8_goesOn 85 = .ok (.getfield 112, 3) := by decide +kernel
theorem dX8_goesOn_88 : decode cX8_goesOn 88 = .ok (.iload_n 2, 1) := by decide +kernel
theorem dX8_goesOn_89 : decode cX8_goesOn 89 = .ok (.iaload, 1) := by decide +kernel
theorem dX8_goesOn_90 : decode cX8_goesOn 90 = .ok (.baload, 1) := by decide +kernel
theorem dX8_goesOn_91 : decode cX8_goesOn 91 = .ok (.ifCond .eq 16, 3) := by decide +kernel
theorem dX8_goesOn_94 : decode cX8_goesOn 94 = .ok (.aload_n 0, 1) := by decide +kernel
theorem dX8_goesOn_95 : decode cX8_goesOn 95 = .ok (.getfield 112, 3) := by decide +kernel
theorem dX8_goesOn_98 : decode cX8_goesOn 98 = .ok (.iload_n 2, 1) := by decide +kernel
theorem dX8_goesOn_99 : decode cX8_goesOn 99 = .ok (.dup2, 1) := by decide +kernel
theorem dX8_goesOn_100 : decode cX8_goesOn 100 = .ok (.iaload, 1) := by decide +kernel
theorem dX8_goesOn_101 : decode cX8_goesOn 101 = .ok (.iconst 1, 1) := by decide +kernel
theorem dX8_goesOn_102 : decode cX8_goesOn 102 = .ok (.iadd, 1) := by decide +kernel
theorem dX8_goesOn_103 : decode cX8_goesOn 103 = .ok (.iastore, 1) := by decide +kernel
theorem dX8_goesOn_104 : decode cX8_goesOn 104 = .ok (.goto (-24), 3) := by decide +kernel
theorem dX8_goesOn_107 : decode cX8_goesOn 107 = .ok (.iinc 2 (-1), 3) := by decide +kernel
theorem dX8_goesOn_110 : decode cX8_goesOn 110 = .ok (.goto (-106), 3) := by decide +kernel
theorem dX8_goesOn_113 : decode cX8_goesOn 113 = .ok (.iconst 0, 1) := by decide +kernel
theorem dX8_goesOn_114 : decode cX8_goesOn 114 = .ok (.ireturn, 1) := by decide +kernel
theorem dX8_hoses_0 : decode cX8_hoses 0 = .ok (.iload_n 1, 1) := by decide +kernel
theorem dX8_hoses_1 : decode cX8_hoses 1 = .ok (.iconst 1, 1) := by decide +kernel
theorem dX8_hoses_2 : decode cX8_hoses 2 = .ok (.iconst 2, 1) := by decide +kernel
theorem dX8_hoses_3 : decode cX8_hoses 3 = .ok (.invokestatic 134, 3) := by decide +kernel
theorem dX8_hoses_6 : decode cX8_hoses 6 = .ok (.ifCond .eq 18, 3) := by decide +kernel
theorem dX8_hoses_9 : decode cX8_hoses 9 = .ok (.iload_n 1, 1) := by decide +kernel
theorem dX8_hoses_10 : decode cX8_hoses 10 = .ok (.iconst 1, 1) := by decide +kernel
theorem dX8_hoses_11 : decode cX8_hoses 11 = .ok (.if_icmp .ne 15, 3) := by decide +kernel
theorem dX8_hoses_14 : decode cX8_hoses 14 = .ok (.aload_n 0, 1) := by decide +kernel
theorem dX8_hoses_15 : decode cX8_hoses 15 = .ok (.getfield 36, 3) := by decide +kernel
theorem dX8_hoses_18 : decode cX8_hoses 18 = .ok (.iconst 1, 1) := by decide +kernel
theorem dX8_hoses_19 : decode cX8_hoses 19 = .ok (.iaload, 1) := by decide +kernel
theorem dX8_hoses_20 : decode cX8_hoses 20 = .ok (.iconst (-1), 1) := by decide +kernel
theorem dX8_hoses_21 : decode cX8_hoses 21 = .ok (.if_icmp .eq 5, 3) := by decide +kernel
theorem dX8_hoses_24 : decode cX8_hoses 24 = .ok (.iconst (-1), 1) := by decide +kernel
theorem dX8_hoses_25 : decode cX8_hoses 25 = .ok (.ireturn, 1) := by decide +kernel
theorem dX8_hoses_26 : decode cX8_hoses 26 = .ok (.aload_n 0, 1) := by decide +kernel
theorem dX8_hoses_27 : decode cX8_hoses 27 = .ok (.getfield 33, 3) := by decide +kernel
theorem dX8_hoses_30 : decode cX8_hoses 30 = .ok (.istore_n 2, 1) := by decide +kernel
theorem dX8_hoses_31 : decode cX8_hoses 31 = .ok (.aload_n 0, 1) := by decide +kernel
theorem dX8_hoses_32 : decode cX8_hoses 32 = .ok (.iload_n 1, 1) := by decide +kernel
theorem dX8_hoses_33 : decode cX8_hoses 33 = .ok (.putfield 33, 3) := by decide +kernel
theorem dX8_hoses_36 : decode cX8_hoses 36 = .ok (.iload_n 2, 1) := by decide +kernel
theorem dX8_hoses_37 : decode cX8_hoses 37 = .ok (.ireturn, 1) := by decide +kernel
theorem dX8_in_0 : decode cX8_in 0 = .ok (.iload_n 0, 1) := by decide +kernel
theorem dX8_in_1 : decode cX8_in 1 = .ok (.iload_n 1, 1) := by decide +kernel
theorem dX8_in_2 : decode cX8_in 2 = .ok (.if_icmp .lt 12, 3) := by decide +kernel
theorem dX8_in_5 : decode cX8_in 5 = .ok (.iload_n 0, 1) := by decide +kernel
theorem dX8_in_6 : decode cX8_in 6 = .ok (.iload_n 2, 1) := by decide +kernel
theorem dX8_in_7 : decode cX8_in 7 = .ok (.if_icmp .gt 7, 3) := by decide +kernel
theorem dX8_in_10 : decode cX8_in 10 = .ok (.iconst 1, 1) := by decide +kernel
theorem dX8_in_11 : decode cX8_in 11 = .ok (.goto 4, 3) := by decide +kernel
theorem dX8_in_14 : decode cX8_in 14 = .ok (.iconst 0, 1) := by decide +kernel
theorem dX8_in_15 : decode cX8_in 15 = .ok (.ireturn, 1) := by decide +kernel
theorem dX8_init_0 : decode cX8_init 0 = .ok (.aload_n 0, 1) := by decide +kernel
theorem dX8_init_1 : decode cX8_init 1 = .ok (.invokespecial 1, 3) := by decide +kernel
theorem dX8_init_4 : decode cX8_init 4 = .ok (.aload_n 0, 1) := by decide +kernel
theorem dX8_init_5 : decode cX8_init 5 = .ok (.bipush 15, 2) := by decide +kernel
theorem dX8_init_7 : decode cX8_init 7 = .ok (.putfield 7, 3) := by decide +kernel
theorem dX8_init_10 : decode cX8_init 10 = .ok (.aload_n 0, 1) := by decide +kernel
theorem dX8_init_11 : decode cX8_init 11 = .ok (.iconst 4, 1) := by decide +kernel
theorem dX8_init_12 : decode cX8_init 12 = .ok (.newarray .int, 2) := by decide +kernel
theorem dX8_init_14 : decode cX8_init 14 = .ok (.putfield 13, 3) := by decide +kernel
theorem dX8_init_17 : decode cX8_init 17 = .ok (.aload_n 0, 1) := by decide +kernel
theorem dX8_init_18 : decode cX8_init 18 = .ok (.iconst 4, 1) := by decide +kernel
theorem dX8_init_19 : decode cX8_init 19 = .ok (.newarray .int, 2) := by decide +kernel
theorem dX8_init_21 : decode cX8_init 21 = .ok (.putfield 17, 3) := by decide +kernel
theorem dX8_init_24 : decode cX8_init 24 = .ok (.aload_n 0, 1) := by decide +kernel
theorem dX8_init_25 : decode cX8_init 25 = .ok (.iconst 4, 1) := by decide +kernel
theorem dX8_init_26 : decode cX8_init 26 = .ok (.newarray .int, 2) := by decide +kernel
theorem dX8_init_28 : decode cX8_init 28 = .ok (.putfield 20, 3) := by decide +kernel
theorem dX8_init_31 : decode cX8_init 31 = .ok (.aload_n 0, 1) := by decide +kernel
theorem dX8_init_32 : decode cX8_init 32 = .ok (.iconst 4, 1) := by decide +kernel
theorem dX8_init_33 : decode cX8_init 33 = .ok (.newarray .int, 2) := by decide +kernel
theorem dX8_init_35 : decode cX8_init 35 = .ok (.putfield 23, 3) := by decide +kernel
theorem dX8_init_38 : decode cX8_init 38 = .ok (.aload_n 0, 1) := by decide +kernel
theorem dX8_init_39 : decode cX8_init 39 = .ok (.iconst 4, 1) := by decide +kernel
theorem dX8_init_40 : decode cX8_init 40 = .ok (.newarray .int, 2) := by decide +kernel
theorem dX8_init_42 : decode cX8_init 42 = .ok (.putfield 26, 3) := by decide +kernel
theorem dX8_init_45 : decode cX8_init 45 = .ok (.aload_n 0, 1) := by decide +kernel
theorem dX8_init_46 : decode cX8_init 46 = .ok (.iconst 4, 1) := by decide +kernel
theorem dX8_init_47 : decode cX8_init 47 = .ok (.newarray .boolean, 2) := by decide +kernel
theorem dX8_init_49 : decode cX8_init 49 = .ok (.putfield 29, 3) := by decide +kernel
theorem dX8_init_52 : decode cX8_init 52 = .ok (.aload_n 0, 1) := by decide +kernel
theorem dX8_init_53 : decode cX8_init 53 = .ok (.iconst 1, 1) := by decide +kernel
theorem dX8_init_54 : decode cX8_init 54 = .ok (.putfield 33, 3) := by decide +kernel
theorem dX8_init_57 : decode cX8_init 57 = .ok (.aload_n 0, 1) := by decide +kernel
theorem dX8_init_58 : decode cX8_init 58 = .ok (.iconst 2, 1) := by decide +kernel
theorem dX8_init_59 : decode cX8_init 59 = .ok (.newarray .int, 2) := by decide +kernel
theorem dX8_init_61 : decode cX8_init 61 = .ok (.dup, 1) := by decide +kernel
theorem dX8_init_62 : decode cX8_init 62 = .ok (.iconst 0, 1) := by decide +kernel
theorem dX8_init_63 : decode cX8_init 63 = .ok (.iconst (-1), 1) := by decide +kernel
theorem dX8_init_64 : decode cX8_init 64 = .ok (.iastore, 1) := by decide +kernel
theorem dX8_init_65 : decode cX8_init 65 = .ok (.dup, 1) := by decide +kernel
theorem dX8_init_66 : decode cX8_init 66 = .ok (.iconst 1, 1) := by decide +kernel
theorem dX8_init_67 : decode cX8_init 67 = .ok (.iconst (-1), 1) := by decide +kernel
theorem dX8_init_68 : decode cX8_init 68 = .ok (.iastore, 1) := by decide +kernel
theorem dX8_init_69 : decode cX8_init 69 = .ok (.putfield 36, 3) := by decide +kernel
theorem dX8_init_72 : decode cX8_init 72 = .ok (.aload_n 0, 1) := by decide +kernel
theorem dX8_init_73 : decode cX8_init 73 = .ok (.bipush 24, 2) := by decide +kernel
theorem dX8_init_75 : decode cX8_init 75 = .ok (.newarray .int, 2) := by decide +kernel
theorem dX8_init_77 : decode cX8_init 77 = .ok (.putfield 39, 3) := by decide +kernel
theorem dX8_init_80 : decode cX8_init 80 = .ok (.aload_n 0, 1) := by decide +kernel
theorem dX8_init_81 : decode cX8_init 81 = .ok (.bipush 24, 2) := by decide +kernel
theorem dX8_init_83 : decode cX8_init 83 = .ok (.newarray .boolean, 2) := by decide +kernel
theorem dX8_init_85 : decode cX8_init 85 = .ok (.putfield 42, 3) := by decide +kernel
theorem dX8_init_88 : decode cX8_init 88 = .ok (.aload_n 0, 1) := by decide +kernel
theorem dX8_init_89 : decode cX8_init 89 = .ok (.bipush 60, 2) := by decide +kernel
theorem dX8_init_91 : decode cX8_init 91 = .ok (.newarray .int, 2) := by decide +kernel
theorem dX8_init_93 : decode cX8_init 93 = .ok (.putfield 45, 3) := by decide +kernel
theorem dX8_init_96 : decode cX8_init 96 = .ok (.aload_n 0, 1) := by decide +kernel
theorem dX8_init_97 : decode cX8_init 97 = .ok (.bipush 60, 2) := by decide +kernel
theorem dX8_init_99 : decode cX8_init 99 = .ok (.newarray .int, 2) := by decide +kernel
theorem dX8_init_101 : decode cX8_init 101 = .ok (.putfield 48, 3) := by decide +kernel
theorem dX8_init_104 : decode cX8_init 104 = .ok (.aload_n 0, 1) := by decide +kernel
theorem dX8_init_105 : decode cX8_init 105 = .ok (.bipush 60, 2) := by decide +kernel
theorem dX8_init_107 : decode cX8_init 107 = .ok (.newarray .int, 2) := by decide +kernel
theorem dX8_init_109 : decode cX8_init 109 = .ok (.putfield 51, 3) := by decide +kernel
theorem dX8_init_112 : decode cX8_init 112 = .ok (.aload_n 0, 1) := by decide +kernel
theorem dX8_init_113 : decode cX8_init 113 = .ok (.bipush 60, 2) := by decide +kernel
theorem dX8_init_115 : decode cX8_init 115 = .ok (.newarray .int, 2) := by decide +kernel
theorem dX8_init_117 : decode cX8_init 117 = .ok (.putfield 54, 3) := by decide +kernel
theorem dX8_init_120 : decode cX8_init 120 = .ok (.aload_n 0, 1) := by decide +kernel
theorem dX8_init_121 : decode cX8_init 121 = .ok (.bipush 60, 2) := by decide +kernel
theorem dX8_init_123 : decode cX8_init 123 = .ok (.newarray .int, 2) := by decide +kernel
theorem dX8_init_125 : decode cX8_init 125 = .ok (.putfield 57, 3) := by decide +kernel
theorem dX8_init_128 : decode cX8_init 128 = .ok (.aload_n 0, 1) := by decide +kernel
theorem dX8_init_129 : decode cX8_init 129 = .ok (.bipush 60, 2) := by decide +kernel
theorem dX8_init_131 : decode cX8_init 131 = .ok (.newarray .int, 2) := by decide +kernel
theorem dX8_init_133 : decode cX8_init 133 = .ok (.putfield 60, 3) := by decide +kernel
theorem dX8_init_136 : decode cX8_init 136 = .ok (.aload_n 0, 1) := by decide +kernel
theorem dX8_init_137 : decode cX8_init 137 = .ok (.bipush 60, 2) := by decide +kernel
theorem dX8_init_139 : decode cX8_init 139 = .ok (.newarray .int, 2) := by decide +kernel
theorem dX8_init_141 : decode cX8_init 141 = .ok (.putfield 63, 3) := by decide +kernel
theorem dX8_init_144 : decode cX8_init 144 = .ok (.aload_n 0, 1) := by decide +kernel
theorem dX8_init_145 : decode cX8_init 145 = .ok (.bipush 60, 2) := by decide +kernel
theorem dX8_init_147 : decode cX8_init 147 = .ok (.newarray .int, 2) := by decide +kernel
theorem dX8_init_149 : decode cX8_init 149 = .ok (.putfield 66, 3) := by decide +kernel
theorem dX8_init_152 : decode cX8_init 152 = .ok (.aload_n 0, 1) := by decide +kernel
theorem dX8_init_153 : decode cX8_init 153 = .ok (.bipush 60, 2) := by decide +kernel
theorem dX8_init_155 : decode cX8_init 155 = .ok (.newarray .int, 2) := by decide +kernel
theorem dX8_init_157 : decode cX8_init 157 = .ok (.putfield 69, 3) := by decide +kernel
theorem dX8_init_160 : decode cX8_init 160 = .ok (.aload_n 0, 1) := by decide +kernel
theorem dX8_init_161 : decode cX8_init 161 = .ok (.bipush 60, 2) := by decide +kernel
theorem dX8_init_163 : decode cX8_init 163 = .ok (.newarray .boolean, 2) := by decide +kernel
theorem dX8_init_165 : decode cX8_init 165 = .ok (.putfield 72, 3) := by decide +kernel
theorem dX8_init_168 : decode cX8_init 168 = .ok (.aload_n 0, 1) := by decide +kernel
theorem dX8_init_169 : decode cX8_init 169 = .ok (.iconst 2, 1) := by decide +kernel
theorem dX8_init_170 : decode cX8_init 170 = .ok (.putfield 75, 3) := by decide +kernel
theorem dX8_init_173 : decode cX8_init 173 = .ok (.aload_n 0, 1) := by decide +kernel
theorem dX8_init_174 : decode cX8_init 174 = .ok (.sipush 200, 3) := by decide +kernel
theorem dX8_init_177 : decode cX8_init 177 = .ok (.newarray .byte, 2) := by decide +kernel
theorem dX8_init_179 : decode cX8_init 179 = .ok (.putfield 78, 3) := by decide +kernel
theorem dX8_init_182 : decode cX8_init 182 = .ok (.aload_n 0, 1) := by decide +kernel
theorem dX8_init_183 : decode cX8_init 183 = .ok (.bipush 8, 2) := by decide +kernel
theorem dX8_init_185 : decode cX8_init 185 = .ok (.newarray .int, 2) := by decide +kernel
theorem dX8_init_187 : decode cX8_init 187 = .ok (.putfield 82, 3) := by decide +kernel
theorem dX8_init_190 : decode cX8_init 190 = .ok (.aload_n 0, 1) := by decide +kernel
theorem dX8_init_191 : decode cX8_init 191 = .ok (.bipush 8, 2) := by decide +kernel
theorem dX8_init_193 : decode cX8_init 193 = .ok (.newarray .int, 2) := by decide +kernel
theorem dX8_init_195 : decode cX8_init 195 = .ok (.putfield 85, 3) := by decide +kernel
theorem dX8_init_198 : decode cX8_init 198 = .ok (.aload_n 0, 1) := by decide +kernel
theorem dX8_init_199 : decode cX8_init 199 = .ok (.bipush 8, 2) := by decide +kernel
theorem dX8_init_201 : decode cX8_init 201 = .ok (.newarray .int, 2) := by decide +kernel
theorem dX8_init_203 : decode cX8_init 203 = .ok (.putfield 88, 3) := by decide +kernel
theorem dX8_init_206 : decode cX8_init 206 = .ok (.aload_n 0, 1) := by decide +kernel
theorem dX8_init_207 : decode cX8_init 207 = .ok (.bipush 8, 2) := by decide +kernel
theorem dX8_init_209 : decode cX8_init 209 = .ok (.newarray .int, 2) := by decide +kernel
theorem dX8_init_211 : decode cX8_init 211 = .ok (.putfield 91, 3) := by decide +kernel
theorem dX8_init_214 : decode cX8_init 214 = .ok (.aload_n 0, 1) := by decide +kernel
theorem dX8_init_215 : decode cX8_init 215 = .ok (.iconst 5, 1) := by decide +kernel
theorem dX8_init_216 : decode cX8_init 216 = .ok (.newarray .int, 2) := by decide +kernel
theorem dX8_init_218 : decode cX8_init 218 = .ok (.putfield 94, 3) := by decide +kernel
theorem dX8_init_221 : decode cX8_init 221 = .ok (.aload_n 0, 1) := by decide +kernel
theorem dX8_init_222 : decode cX8_init 222 = .ok (.iconst 5, 1) := by decide +kernel
theorem dX8_init_223 : decode cX8_init 223 = .ok (.newarray .int, 2) := by decide +kernel
theorem dX8_init_225 : decode cX8_init 225 = .ok (.putfield 97, 3) := by decide +kernel
theorem dX8_init_228 : decode cX8_init 228 = .ok (.aload_n 0, 1) := by decide +kernel
theorem dX8_init_229 : decode cX8_init 229 = .ok (.bipush 36, 2) := by decide +kernel
theorem dX8_init_231 : decode cX8_init 231 = .ok (.newarray .byte, 2) := by decide +kernel
theorem dX8_init_233 : decode cX8_init 233 = .ok (.dup, 1) := by decide +kernel
theorem dX8_init_234 : decode cX8_init 234 = .ok (.iconst 0, 1) := by decide +kernel
theorem dX8_init_235 : decode cX8_init 235 = .ok (.bipush 119, 2) := by decide +kernel
theorem dX8_init_237 : decode cX8_init 237 = .ok (.bastore, 1) := by decide +kernel
theorem dX8_init_238 : decode cX8_init 238 = .ok (.dup, 1) := by decide +kernel
theorem dX8_init_239 : decode cX8_init 239 = .ok (.iconst 1, 1) := by decide +kernel
theorem dX8_init_240 : decode cX8_init 240 = .ok (.bipush 97, 2) := by decide +kernel
theorem dX8_init_242 : decode cX8_init 242 = .ok (.bastore, 1) := by decide +kernel
theorem dX8_init_243 : decode cX8_init 243 = .ok (.dup, 1) := by decide +kernel
theorem dX8_init_244 : decode cX8_init 244 = .ok (.iconst 2, 1) := by decide +kernel
theorem dX8_init_245 : decode cX8_init 245 = .ok (.bipush 114, 2) := by decide +kernel
theorem dX8_init_247 : decode cX8_init 247 = .ok (.bastore, 1) := by decide +kernel
theorem dX8_init_248 : decode cX8_init 248 = .ok (.dup, 1) := by decide +kernel
theorem dX8_init_249 : decode cX8_init 249 = .ok (.iconst 3, 1) := by decide +kernel
theorem dX8_init_250 : decode cX8_init 250 = .ok (.bipush 109, 2) := by decide +kernel
theorem dX8_init_252 : decode cX8_init 252 = .ok (.bastore, 1) := by decide +kernel
theorem dX8_init_253 : decode cX8_init 253 = .ok (.dup, 1) := by decide +kernel
theorem dX8_init_254 : decode cX8_init 254 = .ok (.iconst 4, 1) := by decide +kernel
theorem dX8_init_255 : decode cX8_init 255 = .ok (.iconst 0, 1) := by decide +kernel
theorem dX8_init_256 : decode cX8_init 256 = .ok (.bastore, 1) := by decide +kernel
theorem dX8_init_257 : decode cX8_init 257 = .ok (.dup, 1) := by decide +kernel
theorem dX8_init_258 : decode cX8_init 258 = .ok (.iconst 5, 1) := by decide +kernel
theorem dX8_init_259 : decode cX8_init 259 = .ok (.iconst 0, 1) := by decide +kernel
theorem dX8_init_260 : decode cX8_init 260 = .ok (.bastore, 1) := by decide +kernel
theorem dX8_init_261 : decode cX8_init 261 = .ok (.dup, 1) := by decide +kernel
theorem dX8_init_262 : decode cX8_init 262 = .ok (.bipush 6, 2) := by decide +kernel
theorem dX8_init_264 : decode cX8_init 264 = .ok (.bipush 99, 2) := by decide +kernel
theorem dX8_init_266 : decode cX8_init 266 = .ok (.bastore, 1) := by decide +kernel
theorem dX8_init_267 : decode cX8_init 267 = .ok (.dup, 1) := by decide +kernel
theorem dX8_init_268 : decode cX8_init 268 = .ok (.bipush 7, 2) := by decide +kernel
theorem dX8_init_270 : decode cX8_init 270 = .ok (.bipush 111, 2) := by decide +kernel
theorem dX8_init_272 : decode cX8_init 272 = .ok (.bastore, 1) := by decide +kernel
theorem dX8_init_273 : decode cX8_init 273 = .ok (.dup, 1) := by decide +kernel
theorem dX8_init_274 : decode cX8_init 274 = .ok (.bipush 8, 2) := by decide +kernel
theorem dX8_init_276 : decode cX8_init 276 = .ok (.bipush 111, 2) := by decide +kernel
theorem dX8_init_278 : decode cX8_init 278 = .ok (.bastore, 1) := by decide +kernel
theorem dX8_init_279 : decode cX8_init 279 = .ok (.dup, 1) := by decide +kernel
theorem dX8_init_280 : decode cX8_init 280 = .ok (.bipush 9, 2) := by decide +kernel
theorem dX8_init_282 : decode cX8_init 282 = .ok (.bipush 108, 2) := by decide +kernel
theorem dX8_init_284 : decode cX8_init 284 = .ok (.bastore, 1) := by decide +kernel
theorem dX8_init_285 : decode cX8_init 285 = .ok (.dup, 1) := by decide +kernel
theorem dX8_init_286 : decode cX8_init 286 = .ok (.bipush 10, 2) := by decide +kernel
theorem dX8_init_288 : decode cX8_init 288 = .ok (.iconst 0, 1) := by decide +kernel
theorem dX8_init_289 : decode cX8_init 289 = .ok (.bastore, 1) := by decide +kernel
theorem dX8_init_290 : decode cX8_init 290 = .ok (.dup, 1) := by decide +kernel
theorem dX8_init_291 : decode cX8_init 291 = .ok (.bipush 11, 2) := by decide +kernel
theorem dX8_init_293 : decode cX8_init 293 = .ok (.iconst 0, 1) := by decide +kernel
theorem dX8_init_294 : decode cX8_init 294 = .ok (.bastore, 1) := by decide +kernel
theorem dX8_init_295 : decode cX8_init 295 = .ok (.dup, 1) := by decide +kernel
theorem dX8_init_296 : decode cX8_init 296 = .ok (.bipush 12, 2) := by decide +kernel
theorem dX8_init_298 : decode cX8_init 298 = .ok (.bipush 108, 2) := by decide +kernel
theorem dX8_init_300 : decode cX8_init 300 = .ok (.bastore, 1) := by decide +kernel
theorem dX8_init_301 : decode cX8_init 301 = .ok (.dup, 1) := by decide +kernel
theorem dX8_init_302 : decode cX8_init 302 = .ok (.bipush 13, 2) := by decide +kernel
theorem dX8_init_304 : decode cX8_init 304 = .ok (.bipush 105, 2) := by decide +kernel
theorem dX8_init_306 : decode cX8_init 306 = .ok (.bastore, 1) := by decide +kernel
theorem dX8_init_307 : decode cX8_init 307 = .ok (.dup, 1) := by decide +kernel
theorem dX8_init_308 : decode cX8_init 308 = .ok (.bipush 14, 2) := by decide +kernel
theorem dX8_init_310 : decode cX8_init 310 = .ok (.bipush 109, 2) := by decide +kernel
theorem dX8_init_312 : decode cX8_init 312 = .ok (.bastore, 1) := by decide +kernel
theorem dX8_init_313 : decode cX8_init 313 = .ok (.dup, 1) := by decide +kernel
theorem dX8_init_314 : decode cX8_init 314 = .ok (.bipush 15, 2) := by decide +kernel
theorem dX8_init_316 : decode cX8_init 316 = .ok (.bipush 105, 2) := by decide +kernel
theorem dX8_init_318 : decode cX8_init 318 = .ok (.bastore, 1) := by decide +kernel
theorem dX8_init_319 : decode cX8_init 319 = .ok (.dup, 1) := by decide +kernel
theorem dX8_init_320 : decode cX8_init 320 = .ok (.bipush 16, 2) := by decide +kernel
theorem dX8_init_322 : decode cX8_init 322 = .ok (.bipush 116, 2) := by decide +kernel
theorem dX8_init_324 : decode cX8_init 324 = .ok (.bastore, 1) := by decide +kernel
theorem dX8_init_325 : decode cX8_init 325 = .ok (.dup, 1) := by decide +kernel
theorem dX8_init_326 : decode cX8_init 326 = .ok (.bipush 17, 2) := by decide +kernel
theorem dX8_init_328 : decode cX8_init 328 = .ok (.iconst 0, 1) := by decide +kernel
theorem dX8_init_329 : decode cX8_init 329 = .ok (.bastore, 1) := by decide +kernel
theorem dX8_init_330 : decode cX8_init 330 = .ok (.dup, 1) := by decide +kernel
theorem dX8_init_331 : decode cX8_init 331 = .ok (.bipush 18, 2) := by decide +kernel
theorem dX8_init_333 : decode cX8_init 333 = .ok (.bipush 112, 2) := by decide +kernel
theorem dX8_init_335 : decode cX8_init 335 = .ok (.bastore, 1) := by decide +kernel
theorem dX8_init_336 : decode cX8_init 336 = .ok (.dup, 1) := by decide +kernel
theorem dX8_init_337 : decode cX8_init 337 = .ok (.bipush 19, 2) := by decide +kernel
theorem dX8_init_339 : decode cX8_init 339 = .ok (.bipush 114, 2) := by decide +kernel
theorem dX8_init_341 : decode cX8_init 341 = .ok (.bastore, 1) := by decide +kernel
theorem dX8_init_342 : decode cX8_init 342 = .ok (.dup, 1) := by decide +kernel
theorem dX8_init_343 : decode cX8_init 343 = .ok (.bipush 20, 2) := by decide +kernel
theorem dX8_init_345 : decode cX8_init 345 = .ok (.bipush 101, 2) := by decide +kernel
theorem dX8_init_347 : decode cX8_init 347 = .ok (.bastore, 1) := by decide +kernel
theorem dX8_init_348 : decode cX8_init 348 = .ok (.dup, 1) := by decide +kernel
theorem dX8_init_349 : decode cX8_init 349 = .ok (.bipush 21, 2) := by decide +kernel
theorem dX8_init_351 : decode cX8_init 351 = .ok (.bipush 115, 2) := by decide +kernel
theorem dX8_init_353 : decode cX8_init 353 = .ok (.bastore, 1) := by decide +kernel
theorem dX8_init_354 : decode cX8_init 354 = .ok (.dup, 1) := by decide +kernel
theorem dX8_init_355 : decode cX8_init 355 = .ok (.bipush 22, 2) := by decide +kernel
theorem dX8_init_357 : decode cX8_init 357 = .ok (.bipush 115, 2) := by decide +kernel
theorem dX8_init_359 : decode cX8_init 359 = .ok (.bastore, 1) := by decide +kernel
theorem dX8_init_360 : decode cX8_init 360 = .ok (.dup, 1) := by decide +kernel
theorem dX8_init_361 : decode cX8_init 361 = .ok (.bipush 23, 2) := by decide +kernel
theorem dX8_init_363 : decode cX8_init 363 = .ok (.iconst 0, 1) := by decide +kernel
theorem dX8_init_364 : decode cX8_init 364 = .ok (.bastore, 1) := by decide +kernel
theorem dX8_init_365 : decode cX8_init 365 = .ok (.dup, 1) := by decide +kernel
theorem dX8_init_366 : decode cX8_init 366 = .ok (.bipush 24, 2) := by decide +kernel
theorem dX8_init_368 : decode cX8_init 368 = .ok (.bipush 115, 2) := by decide +kernel
theorem dX8_init_370 : decode cX8_init 370 = .ok (.bastore, 1) := by decide +kernel
theorem dX8_init_371 : decode cX8_init 371 = .ok (.dup, 1) := by decide +kernel
theorem dX8_init_372 : decode cX8_init 372 = .ok (.bipush 25, 2) := by decide +kernel
theorem dX8_init_374 : decode cX8_init 374 = .ok (.bipush 119, 2) := by decide +kernel
theorem dX8_init_376 : decode cX8_init 376 = .ok (.bastore, 1) := by decide +kernel
theorem dX8_init_377 : decode cX8_init 377 = .ok (.dup, 1) := by decide +kernel
theorem dX8_init_378 : decode cX8_init 378 = .ok (.bipush 26, 2) := by decide +kernel
theorem dX8_init_380 : decode cX8_init 380 = .ok (.bipush 105, 2) := by decide +kernel
theorem dX8_init_382 : decode cX8_init 382 = .ok (.bastore, 1) := by decide +kernel
theorem dX8_init_383 : decode cX8_init 383 = .ok (.dup, 1) := by decide +kernel
theorem dX8_init_384 : decode cX8_init 384 = .ok (.bipush 27, 2) := by decide +kernel
theorem dX8_init_386 : decode cX8_init 386 = .ok (.bipush 116, 2) := by decide +kernel
theorem dX8_init_388 : decode cX8_init 388 = .ok (.bastore, 1) := by decide +kernel
theorem dX8_init_389 : decode cX8_init 389 = .ok (.dup, 1) := by decide +kernel
theorem dX8_init_390 : decode cX8_init 390 = .ok (.bipush 28, 2) := by decide +kernel
theorem dX8_init_392 : decode cX8_init 392 = .ok (.bipush 99, 2) := by decide +kernel
theorem dX8_init_394 : decode cX8_init 394 = .ok (.bastore, 1) := by decide +kernel
theorem dX8_init_395 : decode cX8_init 395 = .ok (.dup, 1) := by decide +kernel
theorem dX8_init_396 : decode cX8_init 396 = .ok (.bipush 29, 2) := by decide +kernel
theorem dX8_init_398 : decode cX8_init 398 = .ok (.bipush 104, 2) := by decide +kernel
theorem dX8_init_400 : decode cX8_init 400 = .ok (.bastore, 1) := by decide +kernel
theorem dX8_init_401 : decode cX8_init 401 = .ok (.dup, 1) := by decide +kernel
theorem dX8_init_402 : decode cX8_init 402 = .ok (.bipush 30, 2) := by decide +kernel
theorem dX8_init_404 : decode cX8_init 404 = .ok (.bipush 102, 2) := by decide +kernel
theorem dX8_init_406 : decode cX8_init 406 = .ok (.bastore, 1) := by decide +kernel
theorem dX8_init_407 : decode cX8_init 407 = .ok (.dup, 1) := by decide +kernel
theorem dX8_init_408 : decode cX8_init 408 = .ok (.bipush 31, 2) := by decide +kernel
theorem dX8_init_410 : decode cX8_init 410 = .ok (.bipush 108, 2) := by decide +kernel
theorem dX8_init_412 : decode cX8_init 412 = .ok (.bastore, 1) := by decide +kernel
theorem dX8_init_413 : decode cX8_init 413 = .ok (.dup, 1) := by decide +kernel
theorem dX8_init_414 : decode cX8_init 414 = .ok (.bipush 32, 2) := by decide +kernel
theorem dX8_init_416 : decode cX8_init 416 = .ok (.bipush 111, 2) := by decide +kernel
theorem dX8_init_418 : decode cX8_init 418 = .ok (.bastore, 1) := by decide +kernel
theorem dX8_init_419 : decode cX8_init 419 = .ok (.dup, 1) := by decide +kernel
theorem dX8_init_420 : decode cX8_init 420 = .ok (.bipush 33, 2) := by decide +kernel
theorem dX8_init_422 : decode cX8_init 422 = .ok (.bipush 119, 2) := by decide +kernel
theorem dX8_init_424 : decode cX8_init 424 = .ok (.bastore, 1) := by decide +kernel
theorem dX8_init_425 : decode cX8_init 425 = .ok (.dup, 1) := by decide +kernel
theorem dX8_init_426 : decode cX8_init 426 = .ok (.bipush 34, 2) := by decide +kernel
theorem dX8_init_428 : decode cX8_init 428 = .ok (.iconst 0, 1) := by decide +kernel
theorem dX8_init_429 : decode cX8_init 429 = .ok (.bastore, 1) := by decide +kernel
theorem dX8_init_430 : decode cX8_init 430 = .ok (.dup, 1) := by decide +kernel
theorem dX8_init_431 : decode cX8_init 431 = .ok (.bipush 35, 2) := by decide +kernel
theorem dX8_init_433 : decode cX8_init 433 = .ok (.iconst 0, 1) := by decide +kernel
theorem dX8_init_434 : decode cX8_init 434 = .ok (.bastore, 1) := by decide +kernel
theorem dX8_init_435 : decode cX8_init 435 = .ok (.putfield 100, 3) := by decide +kernel
theorem dX8_init_438 : decode cX8_init 438 = .ok (.aload_n 0, 1) := by decide +kernel
theorem dX8_init_439 : decode cX8_init 439 = .ok (.bipush 6, 2) := by decide +kernel
theorem dX8_init_441 : decode cX8_init 441 = .ok (.newarray .int, 2) := by decide +kernel
theorem dX8_init_443 : decode cX8_init 443 = .ok (.putfield 103, 3) := by decide +kernel
theorem dX8_init_446 : decode cX8_init 446 = .ok (.aload_n 0, 1) := by decide +kernel
theorem dX8_init_447 : decode cX8_init 447 = .ok (.bipush 6, 2) := by decide +kernel
theorem dX8_init_449 : decode cX8_init 449 = .ok (.newarray .int, 2) := by decide +kernel
theorem dX8_init_451 : decode cX8_init 451 = .ok (.putfield 106, 3) := by decide +kernel
theorem dX8_init_454 : decode cX8_init 454 = .ok (.aload_n 0, 1) := by decide +kernel
theorem dX8_init_455 : decode cX8_init 455 = .ok (.iconst 4, 1) := by decide +kernel
theorem dX8_init_456 : decode cX8_init 456 = .ok (.newarray .int, 2) := by decide +kernel
theorem dX8_init_458 : decode cX8_init 458 = .ok (.putfield 109, 3) := by decide +kernel
theorem dX8_init_461 : decode cX8_init 461 = .ok (.aload_n 0, 1) := by decide +kernel
theorem dX8_init_462 : decode cX8_init 462 = .ok (.bipush 6, 2) := by decide +kernel
theorem dX8_init_464 : decode cX8_init 464 = .ok (.newarray .int, 2) := by decide +kernel
theorem dX8_init_466 : decode cX8_init 466 = .ok (.putfield 112, 3) := by decide +kernel
theorem dX8_init_469 : decode cX8_init 469 = .ok (.aload_n 0, 1) := by decide +kernel
theorem dX8_init_470 : decode cX8_init 470 = .ok (.bipush 6, 2) := by decide +kernel
theorem dX8_init_472 : decode cX8_init 472 = .ok (.newarray .int, 2) := by decide +kernel
theorem dX8_init_474 : decode cX8_init 474 = .ok (.putfield 115, 3) := by decide +kernel
theorem dX8_init_477 : decode cX8_init 477 = .ok (.aload_n 0, 1) := by decide +kernel
theorem dX8_init_478 : decode cX8_init 478 = .ok (.iconst 4, 1) := by decide +kernel
theorem dX8_init_479 : decode cX8_init 479 = .ok (.newarray .int, 2) := by decide +kernel
theorem dX8_init_481 : decode cX8_init 481 = .ok (.putfield 118, 3) := by decide +kernel
theorem dX8_init_484 : decode cX8_init 484 = .ok (.aload_n 0, 1) := by decide +kernel
theorem dX8_init_485 : decode cX8_init 485 = .ok (.iconst 4, 1) := by decide +kernel
theorem dX8_init_486 : decode cX8_init 486 = .ok (.newarray .int, 2) := by decide +kernel
theorem dX8_init_488 : decode cX8_init 488 = .ok (.putfield 121, 3) := by decide +kernel
theorem dX8_init_491 : decode cX8_init 491 = .ok (.iconst 0, 1) := by decide +kernel
theorem dX8_init_492 : decode cX8_init 492 = .ok (.istore_n 1, 1) := by decide +kernel
theorem dX8_init_493 : decode cX8_init 493 = .ok (.iload_n 1, 1) := by decide +kernel
theorem dX8_init_494 : decode cX8_init 494 = .ok (.bipush 24, 2) := by decide +kernel
theorem dX8_init_496 : decode cX8_init 496 = .ok (.if_icmp .ge 16, 3) := by decide +kernel
theorem dX8_init_499 : decode cX8_init 499 = .ok (.aload_n 0, 1) := by decide +kernel
theorem dX8_init_500 : decode cX8_init 500 = .ok (.getfield 39, 3) := by decide +kernel
theorem dX8_init_503 : decode cX8_init 503 = .ok (.iload_n 1, 1) := by decide +kernel
theorem dX8_init_504 : decode cX8_init 504 = .ok (.iconst 1, 1) := by decide +kernel
theorem dX8_init_505 : decode cX8_init 505 = .ok (.iastore, 1) := by decide +kernel
theorem dX8_init_506 : decode cX8_init 506 = .ok (.iinc 1 1, 3) := by decide +kernel
theorem dX8_init_509 : decode cX8_init 509 = .ok (.goto (-16), 3) := by decide +kernel
theorem dX8_init_512 : decode cX8_init 512 = .ok (.aload_n 0, 1) := by decide +kernel
theorem dX8_init_513 : decode cX8_init 513 = .ok (.iconst 1, 1) := by decide +kernel
theorem dX8_init_514 : decode cX8_init 514 = .ok (.putfield 124, 3) := by decide +kernel
theorem dX8_init_517 : decode cX8_init 517 = .ok (.aload_n 0, 1) := by decide +kernel
theorem dX8_init_518 : decode cX8_init 518 = .ok (.getfield 82, 3) := by decide +kernel
theorem dX8_init_521 : decode cX8_init 521 = .ok (.iconst 0, 1) := by decide +kernel
theorem dX8_init_522 : decode cX8_init 522 = .ok (.iconst 0, 1) := by decide +kernel
theorem dX8_init_523 : decode cX8_init 523 = .ok (.iastore, 1) := by decide +kernel
theorem dX8_init_524 : decode cX8_init 524 = .ok (.aload_n 0, 1) := by decide +kernel
theorem dX8_init_525 : decode cX8_init 525 = .ok (.getfield 85, 3) := by decide +kernel
theorem dX8_init_528 : decode cX8_init 528 = .ok (.iconst 0, 1) := by decide +kernel
theorem dX8_init_529 : decode cX8_init 529 = .ok (.bipush 20, 2) := by decide +kernel
theorem dX8_init_531 : decode cX8_init 531 = .ok (.iastore, 1) := by decide +kernel
theorem dX8_init_532 : decode cX8_init 532 = .ok (.iconst 0, 1) := by decide +kernel
theorem dX8_init_533 : decode cX8_init 533 = .ok (.istore_n 1, 1) := by decide +kernel
theorem dX8_init_534 : decode cX8_init 534 = .ok (.iload_n 1, 1) := by decide +kernel
theorem dX8_init_535 : decode cX8_init 535 = .ok (.iconst 5, 1) := by decide +kernel
theorem dX8_init_536 : decode cX8_init 536 = .ok (.if_icmp .ge 19, 3) := by decide +kernel
theorem dX8_init_539 : decode cX8_init 539 = .ok (.aload_n 0, 1) := by decide +kernel
theorem dX8_init_540 : decode cX8_init 540 = .ok (.getfield 94, 3) := by decide +kernel
theorem dX8_init_543 : decode cX8_init 543 = .ok (.iload_n 1, 1) := by decide +kernel
theorem dX8_init_544 : decode cX8_init 544 = .ok (.iload_n 1, 1) := by decide +kernel
theorem dX8_init_545 : decode cX8_init 545 = .ok (.invokestatic 127, 3) := by decide +kernel
theorem dX8_init_548 : decode cX8_init 548 = .ok (.iastore, 1) := by decide +kernel
theorem dX8_init_549 : decode cX8_init 549 = .ok (.iinc 1 1, 3) := by decide +kernel
theorem dX8_init_552 : decode cX8_init 552 = .ok (.goto (-18), 3) := by decide +kernel
theorem dX8_init_555 : decode cX8_init 555 = .ok (.return_, 1) := by decide +kernel
theorem dX8_isBank_0 : decode cX8_isBank 0 = .ok (.iload_n 1, 1) := by decide +kernel
theorem dX8_isBank_1 : decode cX8_isBank 1 = .ok (.iconst 0, 1) := by decide +kernel
theorem dX8_isBank_2 : decode cX8_isBank 2 = .ok (.aload_n 0, 1) := by decide +kernel
theorem dX8_isBank_3 : decode cX8_isBank 3 = .ok (.getfield 131, 3) := by decide +kernel
theorem dX8_isBank_6 : decode cX8_isBank 6 = .ok (.iconst 1, 1) := by decide +kernel
theorem dX8_isBank_7 : decode cX8_isBank 7 = .ok (.isub, 1) := by decide +kernel
theorem dX8_isBank_8 : decode cX8_isBank 8 = .ok (.invokestatic 134, 3) := by decide +kernel
theorem dX8_isBank_11 : decode cX8_isBank 11 = .ok (.ireturn, 1) := by decide +kernel
theorem dX8_isBetter_0 : decode cX8_isBetter 0 = .ok (.iload_n 1, 1) := by decide +kernel
theorem dX8_isBetter_1 : decode cX8_isBetter 1 = .ok (.aload_n 0, 1) := by decide +kernel
theorem dX8_isBetter_2 : decode cX8_isBetter 2 = .ok (.getfield 233, 3) := by decide +kernel
theorem dX8_isBetter_5 : decode cX8_isBetter 5 = .ok (.if_icmp .eq 17, 3) := by decide +kernel
theorem dX8_isBetter_8 : decode cX8_isBetter 8 = .ok (.iload_n 1, 1) := by decide +kernel
theorem dX8_isBetter_9 : decode cX8_isBetter 9 = .ok (.aload_n 0, 1) := by decide +kernel
theorem dX8_isBetter_10 : decode cX8_isBetter 10 = .ok (.getfield 233, 3) := by decide +kernel
theorem dX8_isBetter_13 : decode cX8_isBetter 13 = .ok (.if_icmp .le 7, 3) := by decide +kernel
theorem dX8_isBetter_16 : decode cX8_isBetter 16 = .ok (.iconst 1, 1) := by decide +kernel
theorem dX8_isBetter_17 : decode cX8_isBetter 17 = .ok (.goto 4, 3) := by decide +kernel
theorem dX8_isBetter_20 : decode cX8_isBetter 20 = .ok (.iconst 0, 1) := by decide +kernel
theorem dX8_isBetter_21 : decode cX8_isBetter 21 = .ok (.ireturn, 1) := by decide +kernel
theorem dX8_isBetter_22 : decode cX8_isBetter 22 = .ok (.aload_n 0, 1) := by decide +kernel
theorem dX8_isBetter_23 : decode cX8_isBetter 23 = .ok (.getfield 131, 3) := by decide +kernel
theorem dX8_isBetter_26 : decode cX8_isBetter 26 = .ok (.iconst 1, 1) := by decide +kernel
theorem dX8_isBetter_27 : decode cX8_isBetter 27 = .ok (.isub, 1) := by decide +kernel
theorem dX8_isBetter_28 : decode cX8_isBetter 28 = .ok (.istore_n 2, 1) := by decide +kernel
theorem dX8_isBetter_29 : decode cX8_isBetter 29 = .ok (.iload_n 2, 1) := by decide +kernel
theorem dX8_isBetter_30 : decode cX8_isBetter 30 = .ok (.ifCond .lt 45, 3) := by decide +kernel
theorem dX8_isBetter_33 : decode cX8_isBetter 33 = .ok (.aload_n 0, 1) := by decide +kernel
theorem dX8_isBetter_34 : decode cX8_isBetter 34 = .ok (.getfield 118, 3) := by decide +kernel
theorem dX8_isBetter_37 : decode cX8_isBetter 37 = .ok (.iload_n 2, 1) := by decide +kernel
theorem dX8_isBetter_38 : decode cX8_isBetter 38 = .ok (.iaload, 1) := by decide +kernel
theorem dX8_isBetter_39 : decode cX8_isBetter 39 = .ok (.aload_n 0, 1) := by decide +kernel
theorem dX8_isBetter_40 : decode cX8_isBetter 40 = .ok (.getfield 109, 3) := by decide +kernel
theorem dX8_isBetter_43 : decode cX8_isBetter 43 = .ok (.iload_n 2, 1) := by decide +kernel
theorem dX8_isBetter_44 : decode cX8_isBetter 44 = .ok (.iaload, 1) := by decide +kernel
theorem dX8_isBetter_45 : decode cX8_isBetter 45 = .ok (.if_icmp .eq 24, 3) := by decide +kernel
theorem dX8_isBetter_48 : decode cX8_isBetter 48 = .ok (.aload_n 0, 1) := by decide +kernel
theorem dX8_isBetter_49 : decode cX8_isBetter 49 = .ok (.getfield 118, 3) := by decide +kernel
theorem dX8_isBetter_52 : decode cX8_isBetter 52 = .ok (.iload_n 2, 1) := by decide +kernel
theorem dX8_isBetter_53 : decode cX8_isBetter 53 = .ok (.iaload, 1) := by decide +kernel
theorem dX8_isBetter_54 : decode cX8_isBetter 54 = .ok (.aload_n 0, 1) := by decide +kernel
theorem dX8_isBetter_55 : decode cX8_isBetter 55 = .ok (.getfield 109, 3) := by decide +kernel
theorem dX8_isBetter_58 : decode cX8_isBetter 58 = .ok (.iload_n 2, 1) := by decide +kernel
theorem dX8_isBetter_59 : decode cX8_isBetter 59 = .ok (.iaload, 1) := by decide +kernel
theorem dX8_isBetter_60 : decode cX8_isBetter 60 = .ok (.if_icmp .ge 7, 3) := by decide +kernel
theorem dX8_isBetter_63 : decode cX8_isBetter 63 = .ok (.iconst 1, 1) := by decide +kernel
theorem dX8_isBetter_64 : decode cX8_isBetter 64 = .ok (.goto 4, 3) := by decide +kernel
theorem dX8_isBetter_67 : decode cX8_isBetter 67 = .ok (.iconst 0, 1) := by decide +kernel
theorem dX8_isBetter_68 : decode cX8_isBetter 68 = .ok (.ireturn, 1) := by decide +kernel
theorem dX8_isBetter_69 : decode cX8_isBetter 69 = .ok (.iinc 2 (-1), 3) := by decide +kernel
theorem dX8_isBetter_72 : decode cX8_isBetter 72 = .ok (.goto (-43), 3) := by decide +kernel
theorem dX8_isBetter_75 : decode cX8_isBetter 75 = .ok (.iconst 0, 1) := by decide +kernel
theorem dX8_isBetter_76 : decode cX8_isBetter 76 = .ok (.ireturn, 1) := by decide +kernel
theorem dX8_isCar_0 : decode cX8_isCar 0 = .ok (.iload_n 1, 1) := by decide +kernel
theorem dX8_isCar_1 : decode cX8_isCar 1 = .ok (.iconst 0, 1) := by decide +kernel
theorem dX8_isCar_2 : decode cX8_isCar 2 = .ok (.aload_n 0, 1) := by decide +kernel
theorem dX8_isCar_3 : decode cX8_isCar 3 = .ok (.getfield 191, 3) := by decide +kernel
theorem dX8_isCar_6 : decode cX8_isCar 6 = .ok (.iconst 1, 1) := by decide +kernel
theorem dX8_isCar_7 : decode cX8_isCar 7 = .ok (.isub, 1) := by decide +kernel
theorem dX8_isCar_8 : decode cX8_isCar 8 = .ok (.invokestatic 134, 3) := by decide +kernel
theorem dX8_isCar_11 : decode cX8_isCar 11 = .ok (.ireturn, 1) := by decide +kernel
theorem dX8_number_0 : decode cX8_number 0 = .ok (.aload_n 0, 1) := by decide +kernel
theorem dX8_number_1 : decode cX8_number 1 = .ok (.invokevirtual 158, 3) := by decide +kernel
theorem dX8_number_4 : decode cX8_number 4 = .ok (.istore_n 3, 1) := by decide +kernel
theorem dX8_number_5 : decode cX8_number 5 = .ok (.iload_n 3, 1) := by decide +kernel
theorem dX8_number_6 : decode cX8_number 6 = .ok (.bipush 48, 2) := by decide +kernel
theorem dX8_number_8 : decode cX8_number 8 = .ok (.if_icmp .lt 9, 3) := by decide +kernel
theorem dX8_number_11 : decode cX8_number 11 = .ok (.iload_n 3, 1) := by decide +kernel
theorem dX8_number_12 : decode cX8_number 12 = .ok (.bipush 57, 2) := by decide +kernel
theorem dX8_number_14 : decode cX8_number 14 = .ok (.if_icmp .le 13, 3) := by decide +kernel
theorem dX8_number_17 : decode cX8_number 17 = .ok (.aload_n 0, 1) := by decide +kernel
theorem dX8_number_18 : decode cX8_number 18 = .ok (.iconst 0, 1) := by decide +kernel
theorem dX8_number_19 : decode cX8_number 19 = .ok (.aload_n 0, 1) := by decide +kernel
theorem dX8_number_20 : decode cX8_number 20 = .ok (.getfield 155, 3) := by decide +kernel
theorem dX8_number_23 : decode cX8_number 23 = .ok (.invokevirtual 165, 3) := by decide +kernel
theorem dX8_number_26 : decode cX8_number 26 = .ok (.ireturn, 1) := by decide +kernel
theorem dX8_number_27 : decode cX8_number 27 = .ok (.aload_n 0, 1) := by decide +kernel
theorem dX8_number_28 : decode cX8_number 28 = .ok (.getfield 155, 3) := by decide +kernel
theorem dX8_number_31 : decode cX8_number 31 = .ok (.istore 4, 2) := by decide +kernel
theorem dX8_number_33 : decode cX8_number 33 = .ok (.iconst 0, 1) := by decide +kernel
theorem dX8_number_34 : decode cX8_number 34 = .ok (.istore 5, 2) := by decide +kernel
theorem dX8_number_36 : decode cX8_number 36 = .ok (.iconst 0, 1) := by decide +kernel
theorem dX8_number_37 : decode cX8_number 37 = .ok (.istore 6, 2) := by decide +kernel
theorem dX8_number_39 : decode cX8_number 39 = .ok (.aload_n 0, 1) := by decide +kernel
theorem dX8_number_40 : decode cX8_number 40 = .ok (.getfield 155, 3) := by decide +kernel
theorem dX8_number_43 : decode cX8_number 43 = .ok (.aload_n 0, 1) := by decide +kernel
theorem dX8_number_44 : decode cX8_number 44 = .ok (.getfield 145, 3) := by decide +kernel
theorem dX8_number_47 : decode cX8_number 47 = .ok (.if_icmp .ge 73, 3) := by decide +kernel
theorem dX8_number_50 : decode cX8_number 50 = .ok (.aload_n 0, 1) := by decide +kernel
theorem dX8_number_51 : decode cX8_number 51 = .ok (.getfield 78, 3) := by decide +kernel
theorem dX8_number_54 : decode cX8_number 54 = .ok (.aload_n 0, 1) := by decide +kernel
theorem dX8_number_55 : decode cX8_number 55 = .ok (.getfield 155, 3) := by decide +kernel
theorem dX8_number_58 : decode cX8_number 58 = .ok (.baload, 1) := by decide +kernel
theorem dX8_number_59 : decode cX8_number 59 = .ok (.bipush 48, 2) := by decide +kernel
theorem dX8_number_61 : decode cX8_number 61 = .ok (.if_icmp .lt 59, 3) := by decide +kernel
theorem dX8_number_64 : decode cX8_number 64 = .ok (.aload_n 0, 1) := by decide +kernel
theorem dX8_number_65 : decode cX8_number 65 = .ok (.getfield 78, 3) := by decide +kernel
theorem dX8_number_68 : decode cX8_number 68 = .ok (.aload_n 0, 1) := by decide +kernel
theorem dX8_number_69 : decode cX8_number 69 = .ok (.getfield 155, 3) := by decide +kernel
theorem dX8_number_72 : decode cX8_number 72 = .ok (.baload, 1) := by decide +kernel
theorem dX8_number_73 : decode cX8_number 73 = .ok (.bipush 57, 2) := by decide +kernel
theorem dX8_number_75 : decode cX8_number 75 = .ok (.if_icmp .gt 45, 3) := by decide +kernel
theorem dX8_number_78 : decode cX8_number 78 = .ok (.iload 5, 2) := by decide +kernel
theorem dX8_number_80 : decode cX8_number 80 = .ok (.iconst 3, 1) := by decide +kernel
theorem dX8_number_81 : decode cX8_number 81 = .ok (.if_icmp .ge 23, 3) := by decide +kernel
theorem dX8_number_84 : decode cX8_number 84 = .ok (.bipush 10, 2) := by decide +kernel
theorem dX8_number_86 : decode cX8_number 86 = .ok (.iload 6, 2) := by decide +kernel
theorem dX8_number_88 : decode cX8_number 88 = .ok (.imul, 1) := by decide +kernel
theorem dX8_number_89 : decode cX8_number 89 = .ok (.aload_n 0, 1) := by decide +kernel
theorem dX8_number_90 : decode cX8_number 90 = .ok (.getfield 78, 3) := by decide +kernel
theorem dX8_number_93 : decode cX8_number 93 = .ok (.aload_n 0, 1) := by decide +kernel
theorem dX8_number_94 : decode cX8_number 94 = .ok (.getfield 155, 3) := by decide +kernel
theorem dX8_number_97 : decode cX8_number 97 = .ok (.baload, 1) := by decide +kernel
theorem dX8_number_98 : decode cX8_number 98 = .ok (.iadd, 1) := by decide +kernel
theorem dX8_number_99 : decode cX8_number 99 = .ok (.bipush 48, 2) := by decide +kernel
theorem dX8_number_101 : decode cX8_number 101 = .ok (.isub, 1) := by decide +kernel
theorem dX8_number_102 : decode cX8_number 102 = .ok (.istore 6, 2) := by decide +kernel
theorem dX8_number_104 : decode cX8_number 104 = .ok (.iinc 5 1, 3) := by decide +kernel
theorem dX8_number_107 : decode cX8_number 107 = .ok (.aload_n 0, 1) := by decide +kernel
theorem dX8_number_108 : decode cX8_number 108 = .ok (.dup, 1) := by decide +kernel
theorem dX8_number_109 : decode cX8_number 109 = .ok (.getfield 155, 3) := by decide +kernel
theorem dX8_number_112 : decode cX8_number 112 = .ok (.iconst 1, 1) := by decide +kernel
theorem dX8_number_113 : decode cX8_number 113 = .ok (.iadd, 1) := by decide +kernel
theorem dX8_number_114 : decode cX8_number 114 = .ok (.putfield 155, 3) := by decide +kernel
theorem dX8_number_117 : decode cX8_number 117 = .ok (.goto (-78), 3) := by decide +kernel
theorem dX8_number_120 : decode cX8_number 120 = .ok (.aload_n 0, 1) := by decide +kernel
theorem dX8_number_121 : decode cX8_number 121 = .ok (.iload 6, 2) := by decide +kernel
theorem dX8_number_123 : decode cX8_number 123 = .ok (.putfield 169, 3) := by decide +kernel
theorem dX8_number_126 : decode cX8_number 126 = .ok (.iload 5, 2) := by decide +kernel
theorem dX8_number_128 : decode cX8_number 128 = .ok (.iconst 3, 1) := by decide +kernel
theorem dX8_number_129 : decode cX8_number 129 = .ok (.if_icmp .gt 13, 3) := by decide +kernel
theorem dX8_number_132 : decode cX8_number 132 = .ok (.iload 6, 2) := by decide +kernel
theorem dX8_number_134 : decode cX8_number 134 = .ok (.iload_n 1, 1) := by decide +kernel
theorem dX8_number_135 : decode cX8_number 135 = .ok (.iload_n 2, 1) := by decide +kernel
theorem dX8_number_136 : decode cX8_number 136 = .ok (.invokestatic 134, 3) := by decide +kernel
theorem dX8_number_139 : decode cX8_number 139 = .ok (.ifCond .ne 13, 3) := by decide +kernel
theorem dX8_number_142 : decode cX8_number 142 = .ok (.aload_n 0, 1) := by decide +kernel
theorem dX8_number_143 : decode cX8_number 143 = .ok (.iconst 1, 1) := by decide +kernel
theorem dX8_number_144 : decode cX8_number 144 = .ok (.iload 4, 2) := by decide +kernel
theorem dX8_number_146 : decode cX8_number 146 = .ok (.invokevirtual 165, 3) := by decide +kernel
theorem dX8_number_149 : decode cX8_number 149 = .ok (.ifCond .eq 7, 3) := by decide +kernel
theorem dX8_number_152 : decode cX8_number 152 = .ok (.iconst 1, 1) := by decide +kernel
theorem dX8_number_153 : decode cX8_number 153 = .ok (.goto 4, 3) := by decide +kernel
theorem dX8_number_156 : decode cX8_number 156 = .ok (.iconst 0, 1) := by decide +kernel
theorem dX8_number_157 : decode cX8_number 157 = .ok (.ireturn, 1) := by decide +kernel
theorem dX8_pass_0 : decode cX8_pass 0 = .ok (.iload_n 1, 1) := by decide +kernel
theorem dX8_pass_1 : decode cX8_pass 1 = .ok (.iconst 1, 1) := by decide +kernel
theorem dX8_pass_2 : decode cX8_pass 2 = .ok (.sipush 500, 3) := by decide +kernel
theorem dX8_pass_5 : decode cX8_pass 5 = .ok (.invokestatic 134, 3) := by decide +kernel
theorem dX8_pass_8 : decode cX8_pass 8 = .ok (.ifCond .eq 15, 3) := by decide +kernel
theorem dX8_pass_11 : decode cX8_pass 11 = .ok (.aload_n 0, 1) := by decide +kernel
theorem dX8_pass_12 : decode cX8_pass 12 = .ok (.getfield 197, 3) := by decide +kernel
theorem dX8_pass_15 : decode cX8_pass 15 = .ok (.iload_n 1, 1) := by decide +kernel
theorem dX8_pass_16 : decode cX8_pass 16 = .ok (.iadd, 1) := by decide +kernel
theorem dX8_pass_17 : decode cX8_pass 17 = .ok (.sipush 9999, 3) := by decide +kernel
theorem dX8_pass_20 : decode cX8_pass 20 = .ok (.if_icmp .le 5, 3) := by decide +kernel
theorem dX8_pass_23 : decode cX8_pass 23 = .ok (.iconst (-1), 1) := by decide +kernel
theorem dX8_pass_24 : decode cX8_pass 24 = .ok (.ireturn, 1) := by decide +kernel
theorem dX8_pass_25 : decode cX8_pass 25 = .ok (.iconst 0, 1) := by decide +kernel
theorem dX8_pass_26 : decode cX8_pass 26 = .ok (.istore_n 2, 1) := by decide +kernel
theorem dX8_pass_27 : decode cX8_pass 27 = .ok (.iload_n 2, 1) := by decide +kernel
theorem dX8_pass_28 : decode cX8_pass 28 = .ok (.iload_n 1, 1) := by decide +kernel
theorem dX8_pass_29 : decode cX8_pass 29 = .ok (.if_icmp .ge 13, 3) := by decide +kernel
theorem dX8_pass_32 : decode cX8_pass 32 = .ok (.aload_n 0, 1) := by decide +kernel
theorem dX8_pass_33 : decode cX8_pass 33 = .ok (.invokevirtual 223, 3) := by decide +kernel
theorem dX8_pass_36 : decode cX8_pass 36 = .ok (.iinc 2 1, 3) := by decide +kernel
theorem dX8_pass_39 : decode cX8_pass 39 = .ok (.goto (-12), 3) := by decide +kernel
theorem dX8_pass_42 : decode cX8_pass 42 = .ok (.aload_n 0, 1) := by decide +kernel
theorem dX8_pass_43 : decode cX8_pass 43 = .ok (.getfield 197, 3) := by decide +kernel
theorem dX8_pass_46 : decode cX8_pass 46 = .ok (.ireturn, 1) := by decide +kernel
theorem dX8_presses_0 : decode cX8_presses 0 = .ok (.aload_n 0, 1) := by decide +kernel
theorem dX8_presses_1 : decode cX8_presses 1 = .ok (.getfield 197, 3) := by decide +kernel
theorem dX8_presses_4 : decode cX8_presses 4 = .ok (.bipush 60, 2) := by decide +kernel
theorem dX8_presses_6 : decode cX8_presses 6 = .ok (.idiv, 1) := by decide +kernel
theorem dX8_presses_7 : decode cX8_presses 7 = .ok (.bipush 24, 2) := by decide +kernel
theorem dX8_presses_9 : decode cX8_presses 9 = .ok (.irem, 1) := by decide +kernel
theorem dX8_presses_10 : decode cX8_presses 10 = .ok (.istore_n 1, 1) := by decide +kernel
theorem dX8_presses_11 : decode cX8_presses 11 = .ok (.aload_n 0, 1) := by decide +kernel
theorem dX8_presses_12 : decode cX8_presses 12 = .ok (.getfield 42, 3) := by decide +kernel
theorem dX8_presses_15 : decode cX8_presses 15 = .ok (.iload_n 1, 1) := by decide +kernel
theorem dX8_presses_16 : decode cX8_presses 16 = .ok (.baload, 1) := by decide +kernel
theorem dX8_presses_17 : decode cX8_presses 17 = .ok (.ifCond .eq 4, 3) := by decide +kernel
theorem dX8_presses_20 : decode cX8_presses 20 = .ok (.return_, 1) := by decide +kernel
theorem dX8_presses_21 : decode cX8_presses 21 = .ok (.aload_n 0, 1) := by decide +kernel
theorem dX8_presses_22 : decode cX8_presses 22 = .ok (.getfield 94, 3) := by decide +kernel
theorem dX8_presses_25 : decode cX8_presses 25 = .ok (.iconst 3, 1) := by decide +kernel
theorem dX8_presses_26 : decode cX8_presses 26 = .ok (.iaload, 1) := by decide +kernel
theorem dX8_presses_27 : decode cX8_presses 27 = .ok (.istore_n 2, 1) := by decide +kernel
theorem dX8_presses_28 : decode cX8_presses 28 = .ok (.aload_n 0, 1) := by decide +kernel
theorem dX8_presses_29 : decode cX8_presses 29 = .ok (.getfield 131, 3) := by decide +kernel
theorem dX8_presses_32 : decode cX8_presses 32 = .ok (.iconst 1, 1) := by decide +kernel
theorem dX8_presses_33 : decode cX8_presses 33 = .ok (.isub, 1) := by decide +kernel
theorem dX8_presses_34 : decode cX8_presses 34 = .ok (.istore_n 3, 1) := by decide +kernel
theorem dX8_presses_35 : decode cX8_presses 35 = .ok (.iload_n 3, 1) := by decide +kernel
theorem dX8_presses_36 : decode cX8_presses 36 = .ok (.ifCond .lt 121, 3) := by decide +kernel
theorem dX8_presses_39 : decode cX8_presses 39 = .ok (.aload_n 0, 1) := by decide +kernel
theorem dX8_presses_40 : decode cX8_presses 40 = .ok (.getfield 29, 3) := by decide +kernel
theorem dX8_presses_43 : decode cX8_presses 43 = .ok (.iload_n 3, 1) := by decide +kernel
theorem dX8_presses_44 : decode cX8_presses 44 = .ok (.baload, 1) := by decide +kernel
theorem dX8_presses_45 : decode cX8_presses 45 = .ok (.ifCond .eq 6, 3) := by decide +kernel
theorem dX8_presses_48 : decode cX8_presses 48 = .ok (.goto 103, 3) := by decide +kernel
theorem dX8_presses_51 : decode cX8_presses 51 = .ok (.aload_n 0, 1) := by decide +kernel
theorem dX8_presses_52 : decode cX8_presses 52 = .ok (.getfield 13, 3) := by decide +kernel
theorem dX8_presses_55 : decode cX8_presses 55 = .ok (.iload_n 3, 1) := by decide +kernel
theorem dX8_presses_56 : decode cX8_presses 56 = .ok (.iaload, 1) := by decide +kernel
theorem dX8_presses_57 : decode cX8_presses 57 = .ok (.aload_n 0, 1) := by decide +kernel
theorem dX8_presses_58 : decode cX8_presses 58 = .ok (.getfield 20, 3) := by decide +kernel
theorem dX8_presses_61 : decode cX8_presses 61 = .ok (.iload_n 3, 1) := by decide +kernel
theorem dX8_presses_62 : decode cX8_presses 62 = .ok (.iaload, 1) := by decide +kernel
theorem dX8_presses_63 : decode cX8_presses 63 = .ok (.imul, 1) := by decide +kernel
theorem dX8_presses_64 : decode cX8_presses 64 = .ok (.aload_n 0, 1) := by decide +kernel
theorem dX8_presses_65 : decode cX8_presses 65 = .ok (.getfield 17, 3) := by decide +kernel
theorem dX8_presses_68 : decode cX8_presses 68 = .ok (.iload_n 3, 1) := by decide +kernel
theorem dX8_presses_69 : decode cX8_presses 69 = .ok (.iaload, 1) := by decide +kernel
theorem dX8_presses_70 : decode cX8_presses 70 = .ok (.isub, 1) := by decide +kernel
theorem dX8_presses_71 : decode cX8_presses 71 = .ok (.istore 4, 2) := by decide +kernel
theorem dX8_presses_73 : decode cX8_presses 73 = .ok (.iload 4, 2) := by decide +kernel
theorem dX8_presses_75 : decode cX8_presses 75 = .ok (.iload_n 2, 1) := by decide +kernel
theorem dX8_presses_76 : decode cX8_presses 76 = .ok (.if_icmp .ge 8, 3) := by decide +kernel
theorem dX8_presses_79 : decode cX8_presses 79 = .ok (.iload 4, 2) := by decide +kernel
theorem dX8_presses_81 : decode cX8_presses 81 = .ok (.goto 4, 3) := by decide +kernel
theorem dX8_presses_84 : decode cX8_presses 84 = .ok (.iload_n 2, 1) := by decide +kernel
theorem dX8_presses_85 : decode cX8_presses 85 = .ok (.istore 5, 2) := by decide +kernel
theorem dX8_presses_87 : decode cX8_presses 87 = .ok (.iload 5, 2) := by decide +kernel
theorem dX8_presses_89 : decode cX8_presses 89 = .ok (.ifCond .gt 6, 3) := by decide +kernel
theorem dX8_presses_92 : decode cX8_presses 92 = .ok (.goto 59, 3) := by decide +kernel
theorem dX8_presses_95 : decode cX8_presses 95 = .ok (.aload_n 0, 1) := by decide +kernel
theorem dX8_presses_96 : decode cX8_presses 96 = .ok (.getfield 17, 3) := by decide +kernel
theorem dX8_presses_99 : decode cX8_presses 99 = .ok (.iload_n 3, 1) := by decide +kernel
theorem dX8_presses_100 : decode cX8_presses 100 = .ok (.dup2, 1) := by decide +kernel
theorem dX8_presses_101 : decode cX8_presses 101 = .ok (.iaload, 1) := by decide +kernel
theorem dX8_presses_102 : decode cX8_presses 102 = .ok (.iload 5, 2) := by decide +kernel
theorem dX8_presses_104 : decode cX8_presses 104 = .ok (.iadd, 1) := by decide +kernel
theorem dX8_presses_105 : decode cX8_presses 105 = .ok (.iastore, 1) := by decide +kernel
theorem dX8_presses_106 : decode cX8_presses 106 = .ok (.aload_n 0, 1) := by decide +kernel
theorem dX8_presses_107 : decode cX8_presses 107 = .ok (.getfield 26, 3) := by decide +kernel
theorem dX8_presses_110 : decode cX8_presses 110 = .ok (.iload_n 3, 1) := by decide +kernel
theorem dX8_presses_111 : decode cX8_presses 111 = .ok (.dup2, 1) := by decide +kernel
theorem dX8_presses_112 : decode cX8_presses 112 = .ok (.iaload, 1) := by decide +kernel
theorem dX8_presses_113 : decode cX8_presses 113 = .ok (.iload 5, 2) := by decide +kernel
theorem dX8_presses_115 : decode cX8_presses 115 = .ok (.iadd, 1) := by decide +kernel
theorem dX8_presses_116 : decode cX8_presses 116 = .ok (.iastore, 1) := by decide +kernel
theorem dX8_presses_117 : decode cX8_presses 117 = .ok (.aload_n 0, 1) := by decide +kernel
theorem dX8_presses_118 : decode cX8_presses 118 = .ok (.dup, 1) := by decide +kernel
theorem dX8_presses_119 : decode cX8_presses 119 = .ok (.getfield 208, 3) := by decide +kernel
theorem dX8_presses_122 : decode cX8_presses 122 = .ok (.iload 5, 2) := by decide +kernel
theorem dX8_presses_124 : decode cX8_presses 124 = .ok (.iadd, 1) := by decide +kernel
theorem dX8_presses_125 : decode cX8_presses 125 = .ok (.putfield 208, 3) := by decide +kernel
theorem dX8_presses_128 : decode cX8_presses 128 = .ok (.aload_n 0, 1) := by decide +kernel
theorem dX8_presses_129 : decode cX8_presses 129 = .ok (.dup, 1) := by decide +kernel
theorem dX8_presses_130 : decode cX8_presses 130 = .ok (.getfield 211, 3) := by decide +kernel
theorem dX8_presses_133 : decode cX8_presses 133 = .ok (.iload 5, 2) := by decide +kernel
theorem dX8_presses_135 : decode cX8_presses 135 = .ok (.aload_n 0, 1) := by decide +kernel
theorem dX8_presses_136 : decode cX8_presses 136 = .ok (.getfield 39, 3) := by decide +kernel
theorem dX8_presses_139 : decode cX8_presses 139 = .ok (.iload_n 1, 1) := by decide +kernel
theorem dX8_presses_140 : decode cX8_presses 140 = .ok (.iaload, 1) := by decide +kernel
theorem dX8_presses_141 : decode cX8_presses 141 = .ok (.imul, 1) := by decide +kernel
theorem dX8_presses_142 : decode cX8_presses 142 = .ok (.iadd, 1) := by decide +kernel
theorem dX8_presses_143 : decode cX8_presses 143 = .ok (.putfield 211, 3) := by decide +kernel
theorem dX8_presses_146 : decode cX8_presses 146 = .ok (.iload_n 2, 1) := by decide +kernel
theorem dX8_presses_147 : decode cX8_presses 147 = .ok (.iload 5, 2) := by decide +kernel
theorem dX8_presses_149 : decode cX8_presses 149 = .ok (.isub, 1) := by decide +kernel
theorem dX8_presses_150 : decode cX8_presses 150 = .ok (.istore_n 2, 1) := by decide +kernel
theorem dX8_presses_151 : decode cX8_presses 151 = .ok (.iinc 3 (-1), 3) := by decide +kernel
theorem dX8_presses_154 : decode cX8_presses 154 = .ok (.goto (-119), 3) := by decide +kernel
theorem dX8_presses_157 : decode cX8_presses 157 = .ok (.return_, 1) := by decide +kernel
theorem dX8_price_0 : decode cX8_price 0 = .ok (.iload_n 1, 1) := by decide +kernel
theorem dX8_price_1 : decode cX8_price 1 = .ok (.iconst 0, 1) := by decide +kernel
theorem dX8_price_2 : decode cX8_price 2 = .ok (.bipush 23, 2) := by decide +kernel
theorem dX8_price_4 : decode cX8_price 4 = .ok (.invokestatic 134, 3) := by decide +kernel
theorem dX8_price_7 : decode cX8_price 7 = .ok (.ifCond .eq 13, 3) := by decide +kernel
theorem dX8_price_10 : decode cX8_price 10 = .ok (.iload_n 2, 1) := by decide +kernel
theorem dX8_price_11 : decode cX8_price 11 = .ok (.iconst 0, 1) := by decide +kernel
theorem dX8_price_12 : decode cX8_price 12 = .ok (.bipush 99, 2) := by decide +kernel
theorem dX8_price_14 : decode cX8_price 14 = .ok (.invokestatic 134, 3) := by decide +kernel
theorem dX8_price_17 : decode cX8_price 17 = .ok (.ifCond .ne 5, 3) := by decide +kernel
theorem dX8_price_20 : decode cX8_price 20 = .ok (.iconst (-1), 1) := by decide +kernel
theorem dX8_price_21 : decode cX8_price 21 = .ok (.ireturn, 1) := by decide +kernel
theorem dX8_price_22 : decode cX8_price 22 = .ok (.aload_n 0, 1) := by decide +kernel
theorem dX8_price_23 : decode cX8_price 23 = .ok (.getfield 39, 3) := by decide +kernel
theorem dX8_price_26 : decode cX8_price 26 = .ok (.iload_n 1, 1) := by decide +kernel
theorem dX8_price_27 : decode cX8_price 27 = .ok (.iaload, 1) := by decide +kernel
theorem dX8_price_28 : decode cX8_price 28 = .ok (.istore_n 3, 1) := by decide +kernel
theorem dX8_price_29 : decode cX8_price 29 = .ok (.aload_n 0, 1) := by decide +kernel
theorem dX8_price_30 : decode cX8_price 30 = .ok (.getfield 39, 3) := by decide +kernel
theorem dX8_price_33 : decode cX8_price 33 = .ok (.iload_n 1, 1) := by decide +kernel
theorem dX8_price_34 : decode cX8_price 34 = .ok (.iload_n 2, 1) := by decide +kernel
theorem dX8_price_35 : decode cX8_price 35 = .ok (.iastore, 1) := by decide +kernel
theorem dX8_price_36 : decode cX8_price 36 = .ok (.iload_n 3, 1) := by decide +kernel
theorem dX8_price_37 : decode cX8_price 37 = .ok (.ireturn, 1) := by decide +kernel
theorem dX8_reading_0 : decode cX8_reading 0 = .ok (.aload_n 0, 1) := by decide +kernel
theorem dX8_reading_1 : decode cX8_reading 1 = .ok (.iload_n 1, 1) := by decide +kernel
theorem dX8_reading_2 : decode cX8_reading 2 = .ok (.invokevirtual 141, 3) := by decide +kernel
theorem dX8_reading_5 : decode cX8_reading 5 = .ok (.ifCond .eq 14, 3) := by decide +kernel
theorem dX8_reading_8 : decode cX8_reading 8 = .ok (.iload_n 2, 1) := by decide +kernel
theorem dX8_reading_9 : decode cX8_reading 9 = .ok (.iconst 0, 1) := by decide +kernel
theorem dX8_reading_10 : decode cX8_reading 10 = .ok (.sipush 400, 3) := by decide +kernel
theorem dX8_reading_13 : decode cX8_reading 13 = .ok (.invokestatic 134, 3) := by decide +kernel
theorem dX8_reading_16 : decode cX8_reading 16 = .ok (.ifCond .ne 6, 3) := by decide +kernel
theorem dX8_reading_19 : decode cX8_reading 19 = .ok (.ldc 226, 2) := by decide +kernel
theorem dX8_reading_21 : decode cX8_reading 21 = .ok (.ireturn, 1) := by decide +kernel
theorem dX8_reading_22 : decode cX8_reading 22 = .ok (.aload_n 0, 1) := by decide +kernel
theorem dX8_reading_23 : decode cX8_reading 23 = .ok (.getfield 17, 3) := by decide +kernel
theorem dX8_reading_26 : decode cX8_reading 26 = .ok (.iload_n 1, 1) := by decide +kernel
theorem dX8_reading_27 : decode cX8_reading 27 = .ok (.iaload, 1) := by decide +kernel
theorem dX8_reading_28 : decode cX8_reading 28 = .ok (.aload_n 0, 1) := by decide +kernel
theorem dX8_reading_29 : decode cX8_reading 29 = .ok (.getfield 13, 3) := by decide +kernel
theorem dX8_reading_32 : decode cX8_reading 32 = .ok (.iload_n 1, 1) := by decide +kernel
theorem dX8_reading_33 : decode cX8_reading 33 = .ok (.iaload, 1) := by decide +kernel
theorem dX8_reading_34 : decode cX8_reading 34 = .ok (.idiv, 1) := by decide +kernel
theorem dX8_reading_35 : decode cX8_reading 35 = .ok (.istore_n 3, 1) := by decide +kernel
theorem dX8_reading_36 : decode cX8_reading 36 = .ok (.iload_n 2, 1) := by decide +kernel
theorem dX8_reading_37 : decode cX8_reading 37 = .ok (.iload_n 3, 1) := by decide +kernel
theorem dX8_reading_38 : decode cX8_reading 38 = .ok (.aload_n 0, 1) := by decide +kernel
theorem dX8_reading_39 : decode cX8_reading 39 = .ok (.getfield 75, 3) := by decide +kernel
theorem dX8_reading_42 : decode cX8_reading 42 = .ok (.isub, 1) := by decide +kernel
theorem dX8_reading_43 : decode cX8_reading 43 = .ok (.if_icmp .lt 15, 3) := by decide +kernel
theorem dX8_reading_46 : decode cX8_reading 46 = .ok (.iload_n 2, 1) := by decide +kernel
theorem dX8_reading_47 : decode cX8_reading 47 = .ok (.iload_n 3, 1) := by decide +kernel
theorem dX8_reading_48 : decode cX8_reading 48 = .ok (.aload_n 0, 1) := by decide +kernel
theorem dX8_reading_49 : decode cX8_reading 49 = .ok (.getfield 75, 3) := by decide +kernel
theorem dX8_reading_52 : decode cX8_reading 52 = .ok (.iadd, 1) := by decide +kernel
theorem dX8_reading_53 : decode cX8_reading 53 = .ok (.if_icmp .gt 5, 3) := by decide +kernel
theorem dX8_reading_56 : decode cX8_reading 56 = .ok (.iconst 0, 1) := by decide +kernel
theorem dX8_reading_57 : decode cX8_reading 57 = .ok (.ireturn, 1) := by decide +kernel
theorem dX8_reading_58 : decode cX8_reading 58 = .ok (.aload_n 0, 1) := by decide +kernel
theorem dX8_reading_59 : decode cX8_reading 59 = .ok (.getfield 17, 3) := by decide +kernel
theorem dX8_reading_62 : decode cX8_reading 62 = .ok (.iload_n 1, 1) := by decide +kernel
theorem dX8_reading_63 : decode cX8_reading 63 = .ok (.iaload, 1) := by decide +kernel
theorem dX8_reading_64 : decode cX8_reading 64 = .ok (.aload_n 0, 1) := by decide +kernel
theorem dX8_reading_65 : decode cX8_reading 65 = .ok (.getfield 13, 3) := by decide +kernel
theorem dX8_reading_68 : decode cX8_reading 68 = .ok (.iload_n 1, 1) := by decide +kernel
theorem dX8_reading_69 : decode cX8_reading 69 = .ok (.iaload, 1) := by decide +kernel
theorem dX8_reading_70 : decode cX8_reading 70 = .ok (.iload_n 2, 1) := by decide +kernel
theorem dX8_reading_71 : decode cX8_reading 71 = .ok (.imul, 1) := by decide +kernel
theorem dX8_reading_72 : decode cX8_reading 72 = .ok (.isub, 1) := by decide +kernel
theorem dX8_reading_73 : decode cX8_reading 73 = .ok (.istore 4, 2) := by decide +kernel
theorem dX8_reading_75 : decode cX8_reading 75 = .ok (.aload_n 0, 1) := by decide +kernel
theorem dX8_reading_76 : decode cX8_reading 76 = .ok (.getfield 17, 3) := by decide +kernel
theorem dX8_reading_79 : decode cX8_reading 79 = .ok (.iload_n 1, 1) := by decide +kernel
theorem dX8_reading_80 : decode cX8_reading 80 = .ok (.aload_n 0, 1) := by decide +kernel
theorem dX8_reading_81 : decode cX8_reading 81 = .ok (.getfield 13, 3) := by decide +kernel
theorem dX8_reading_84 : decode cX8_reading 84 = .ok (.iload_n 1, 1) := by decide +kernel
theorem dX8_reading_85 : decode cX8_reading 85 = .ok (.iaload, 1) := by decide +kernel
theorem dX8_reading_86 : decode cX8_reading 86 = .ok (.iload_n 2, 1) := by decide +kernel
theorem dX8_reading_87 : decode cX8_reading 87 = .ok (.imul, 1) := by decide +kernel
theorem dX8_reading_88 : decode cX8_reading 88 = .ok (.iastore, 1) := by decide +kernel
theorem dX8_reading_89 : decode cX8_reading 89 = .ok (.iload 4, 2) := by decide +kernel
theorem dX8_reading_91 : decode cX8_reading 91 = .ok (.ifCond .le 17, 3) := by decide +kernel
theorem dX8_reading_94 : decode cX8_reading 94 = .ok (.aload_n 0, 1) := by decide +kernel
theorem dX8_reading_95 : decode cX8_reading 95 = .ok (.dup, 1) := by decide +kernel
theorem dX8_reading_96 : decode cX8_reading 96 = .ok (.getfield 227, 3) := by decide +kernel
theorem dX8_reading_99 : decode cX8_reading 99 = .ok (.iload 4, 2) := by decide +kernel
theorem dX8_reading_101 : decode cX8_reading 101 = .ok (.iadd, 1) := by decide +kernel
theorem dX8_reading_102 : decode cX8_reading 102 = .ok (.putfield 227, 3) := by decide +kernel
theorem dX8_reading_105 : decode cX8_reading 105 = .ok (.goto 14, 3) := by decide +kernel
theorem dX8_reading_108 : decode cX8_reading 108 = .ok (.aload_n 0, 1) := by decide +kernel
theorem dX8_reading_109 : decode cX8_reading 109 = .ok (.dup, 1) := by decide +kernel
theorem dX8_reading_110 : decode cX8_reading 110 = .ok (.getfield 230, 3) := by decide +kernel
theorem dX8_reading_113 : decode cX8_reading 113 = .ok (.iload 4, 2) := by decide +kernel
theorem dX8_reading_115 : decode cX8_reading 115 = .ok (.isub, 1) := by decide +kernel
theorem dX8_reading_116 : decode cX8_reading 116 = .ok (.putfield 230, 3) := by decide +kernel
theorem dX8_reading_119 : decode cX8_reading 119 = .ok (.iload 4, 2) := by decide +kernel
theorem dX8_reading_121 : decode cX8_reading 121 = .ok (.ireturn, 1) := by decide +kernel
theorem dX8_runs_0 : decode cX8_runs 0 = .ok (.iconst 0, 1) := by decide +kernel
theorem dX8_runs_1 : decode cX8_runs 1 = .ok (.istore 5, 2) := by decide +kernel
theorem dX8_runs_3 : decode cX8_runs 3 = .ok (.iload 5, 2) := by decide +kernel
theorem dX8_runs_5 : decode cX8_runs 5 = .ok (.aload_n 0, 1) := by decide +kernel
theorem dX8_runs_6 : decode cX8_runs 6 = .ok (.getfield 131, 3) := by decide +kernel
theorem dX8_runs_9 : decode cX8_runs 9 = .ok (.if_icmp .ge 31, 3) := by decide +kernel
theorem dX8_runs_12 : decode cX8_runs 12 = .ok (.aload_n 0, 1) := by decide +kernel
theorem dX8_runs_13 : decode cX8_runs 13 = .ok (.getfield 118, 3) := by decide +kernel
theorem dX8_runs_16 : decode cX8_runs 16 = .ok (.iload 5, 2) := by decide +kernel
theorem dX8_runs_18 : decode cX8_runs 18 = .ok (.iconst 0, 1) := by decide +kernel
theorem dX8_runs_19 : decode cX8_runs 19 = .ok (.iastore, 1) := by decide +kernel
theorem dX8_runs_20 : decode cX8_runs 20 = .ok (.aload_n 0, 1) := by decide +kernel
theorem dX8_runs_21 : decode cX8_runs 21 = .ok (.getfield 121, 3) := by decide +kernel
theorem dX8_runs_24 : decode cX8_runs 24 = .ok (.iload 5, 2) := by decide +kernel
theorem dX8_runs_26 : decode cX8_runs 26 = .ok (.aload_n 0, 1) := by decide +kernel
theorem dX8_runs_27 : decode cX8_runs 27 = .ok (.getfield 17, 3) := by decide +kernel
theorem dX8_runs_30 : decode cX8_runs 30 = .ok (.iload 5, 2) := by decide +kernel
theorem dX8_runs_32 : decode cX8_runs 32 = .ok (.iaload, 1) := by decide +kernel
theorem dX8_runs_33 : decode cX8_runs 33 = .ok (.iastore, 1) := by decide +kernel
theorem dX8_runs_34 : decode cX8_runs 34 = .ok (.iinc 5 1, 3) := by decide +kernel
theorem dX8_runs_37 : decode cX8_runs 37 = .ok (.goto (-34), 3) := by decide +kernel
theorem dX8_runs_40 : decode cX8_runs 40 = .ok (.iload_n 2, 1) := by decide +kernel
theorem dX8_runs_41 : decode cX8_runs 41 = .ok (.istore 5, 2) := by decide +kernel
theorem dX8_runs_43 : decode cX8_runs 43 = .ok (.bipush 10, 2) := by decide +kernel
theorem dX8_runs_45 : decode cX8_runs 45 = .ok (.aload_n 0, 1) := by decide +kernel
theorem dX8_runs_46 : decode cX8_runs 46 = .ok (.getfield 7, 3) := by decide +kernel
theorem dX8_runs_49 : decode cX8_runs 49 = .ok (.imul, 1) := by decide +kernel
theorem dX8_runs_50 : decode cX8_runs 50 = .ok (.istore 6, 2) := by decide +kernel
theorem dX8_runs_52 : decode cX8_runs 52 = .ok (.iconst 0, 1) := by decide +kernel
theorem dX8_runs_53 : decode cX8_runs 53 = .ok (.istore 7, 2) := by decide +kernel
theorem dX8_runs_55 : decode cX8_runs 55 = .ok (.iload 7, 2) := by decide +kernel
theorem dX8_runs_57 : decode cX8_runs 57 = .ok (.iload 4, 2) := by decide +kernel
theorem dX8_runs_59 : decode cX8_runs 59 = .ok (.if_icmp .ge 104, 3) := by decide +kernel
theorem dX8_runs_62 : decode cX8_runs 62 = .ok (.aload_n 0, 1) := by decide +kernel
theorem dX8_runs_63 : decode cX8_runs 63 = .ok (.getfield 112, 3) := by decide +kernel
theorem dX8_runs_66 : decode cX8_runs 66 = .ok (.iload 7, 2) := by decide +kernel
theorem dX8_runs_68 : decode cX8_runs 68 = .ok (.iaload, 1) := by decide +kernel
theorem dX8_runs_69 : decode cX8_runs 69 = .ok (.istore 8, 2) := by decide +kernel
theorem dX8_runs_71 : decode cX8_runs 71 = .ok (.aload_n 0, 1) := by decide +kernel
theorem dX8_runs_72 : decode cX8_runs 72 = .ok (.aload_n 0, 1) := by decide +kernel
theorem dX8_runs_73 : decode cX8_runs 73 = .ok (.getfield 13, 3) := by decide +kernel
theorem dX8_runs_76 : decode cX8_runs 76 = .ok (.iload 8, 2) := by decide +kernel
theorem dX8_runs_78 : decode cX8_runs 78 = .ok (.iaload, 1) := by decide +kernel
theorem dX8_runs_79 : decode cX8_runs 79 = .ok (.aload_n 0, 1) := by decide +kernel
theorem dX8_runs_80 : decode cX8_runs 80 = .ok (.getfield 121, 3) := by decide +kernel
theorem dX8_runs_83 : decode cX8_runs 83 = .ok (.iload 8, 2) := by decide +kernel
theorem dX8_runs_85 : decode cX8_runs 85 = .ok (.iaload, 1) := by decide +kernel
theorem dX8_runs_86 : decode cX8_runs 86 = .ok (.iload_n 1, 1) := by decide +kernel
theorem dX8_runs_87 : decode cX8_runs 87 = .ok (.iload 5, 2) := by decide +kernel
theorem dX8_runs_89 : decode cX8_runs 89 = .ok (.iload_n 3, 1) := by decide +kernel
theorem dX8_runs_90 : decode cX8_runs 90 = .ok (.iload 6, 2) := by decide +kernel
theorem dX8_runs_92 : decode cX8_runs 92 = .ok (.invokevirtual 204, 3) := by decide +kernel
theorem dX8_runs_95 : decode cX8_runs 95 = .ok (.istore 9, 2) := by decide +kernel
theorem dX8_runs_97 : decode cX8_runs 97 = .ok (.aload_n 0, 1) := by decide +kernel
theorem dX8_runs_98 : decode cX8_runs 98 = .ok (.getfield 115, 3) := by decide +kernel
theorem dX8_runs_101 : decode cX8_runs 101 = .ok (.iload 7, 2) := by decide +kernel
theorem dX8_runs_103 : decode cX8_runs 103 = .ok (.iload 9, 2) := by decide +kernel
theorem dX8_runs_105 : decode cX8_runs 105 = .ok (.iastore, 1) := by decide +kernel
theorem dX8_runs_106 : decode cX8_runs 106 = .ok (.aload_n 0, 1) := by decide +kernel
theorem dX8_runs_107 : decode cX8_runs 107 = .ok (.getfield 118, 3) := by decide +kernel
theorem dX8_runs_110 : decode cX8_runs 110 = .ok (.iload 8, 2) := by decide +kernel
theorem dX8_runs_112 : decode cX8_runs 112 = .ok (.dup2, 1) := by decide +kernel
theorem dX8_runs_113 : decode cX8_runs 113 = .ok (.iaload, 1) := by decide +kernel
theorem dX8_runs_114 : decode cX8_runs 114 = .ok (.iload 9, 2) := by decide +kernel
theorem dX8_runs_116 : decode cX8_runs 116 = .ok (.iadd, 1) := by decide +kernel
theorem dX8_runs_117 : decode cX8_runs 117 = .ok (.iastore, 1) := by decide +kernel
theorem dX8_runs_118 : decode cX8_runs 118 = .ok (.aload_n 0, 1) := by decide +kernel
theorem dX8_runs_119 : decode cX8_runs 119 = .ok (.getfield 121, 3) := by decide +kernel
theorem dX8_runs_122 : decode cX8_runs 122 = .ok (.iload 8, 2) := by decide +kernel
theorem dX8_runs_124 : decode cX8_runs 124 = .ok (.dup2, 1) := by decide +kernel
theorem dX8_runs_125 : decode cX8_runs 125 = .ok (.iaload, 1) := by decide +kernel
theorem dX8_runs_126 : decode cX8_runs 126 = .ok (.iload 9, 2) := by decide +kernel
theorem dX8_runs_128 : decode cX8_runs 128 = .ok (.isub, 1) := by decide +kernel
theorem dX8_runs_129 : decode cX8_runs 129 = .ok (.iastore, 1) := by decide +kernel
theorem dX8_runs_130 : decode cX8_runs 130 = .ok (.iload 5, 2) := by decide +kernel
theorem dX8_runs_132 : decode cX8_runs 132 = .ok (.iload 9, 2) := by decide +kernel
theorem dX8_runs_134 : decode cX8_runs 134 = .ok (.iadd, 1) := by decide +kernel
theorem dX8_runs_135 : decode cX8_runs 135 = .ok (.istore 5, 2) := by decide +kernel
theorem dX8_runs_137 : decode cX8_runs 137 = .ok (.aload_n 0, 1) := by decide +kernel
theorem dX8_runs_138 : decode cX8_runs 138 = .ok (.iload 6, 2) := by decide +kernel
theorem dX8_runs_140 : decode cX8_runs 140 = .ok (.iload 9, 2) := by decide +kernel
theorem dX8_runs_142 : decode cX8_runs 142 = .ok (.aload_n 0, 1) := by decide +kernel
theorem dX8_runs_143 : decode cX8_runs 143 = .ok (.getfield 94, 3) := by decide +kernel
theorem dX8_runs_146 : decode cX8_runs 146 = .ok (.iconst 0, 1) := by decide +kernel
theorem dX8_runs_147 : decode cX8_runs 147 = .ok (.iaload, 1) := by decide +kernel
theorem dX8_runs_148 : decode cX8_runs 148 = .ok (.imul, 1) := by decide +kernel
theorem dX8_runs_149 : decode cX8_runs 149 = .ok (.iload_n 1, 1) := by decide +kernel
theorem dX8_runs_150 : decode cX8_runs 150 = .ok (.idiv, 1) := by decide +kernel
theorem dX8_runs_151 : decode cX8_runs 151 = .ok (.iadd, 1) := by decide +kernel
theorem dX8_runs_152 : decode cX8_runs 152 = .ok (.invokevirtual 217, 3) := by decide +kernel
theorem dX8_runs_155 : decode cX8_runs 155 = .ok (.istore 6, 2) := by decide +kernel
theorem dX8_runs_157 : decode cX8_runs 157 = .ok (.iinc 7 1, 3) := by decide +kernel
theorem dX8_runs_160 : decode cX8_runs 160 = .ok (.goto (-105), 3) := by decide +kernel
theorem dX8_runs_163 : decode cX8_runs 163 = .ok (.iload 5, 2) := by decide +kernel
theorem dX8_runs_165 : decode cX8_runs 165 = .ok (.ireturn, 1) := by decide +kernel
theorem dX8_see_0 : decode cX8_see 0 = .ok (.aload_n 0, 1) := by decide +kernel
theorem dX8_see_1 : decode cX8_see 1 = .ok (.getfield 155, 3) := by decide +kernel
theorem dX8_see_4 : decode cX8_see 4 = .ok (.aload_n 0, 1) := by decide +kernel
theorem dX8_see_5 : decode cX8_see 5 = .ok (.getfield 145, 3) := by decide +kernel
theorem dX8_see_8 : decode cX8_see 8 = .ok (.if_icmp .ge 30, 3) := by decide +kernel
theorem dX8_see_11 : decode cX8_see 11 = .ok (.aload_n 0, 1) := by decide +kernel
theorem dX8_see_12 : decode cX8_see 12 = .ok (.getfield 78, 3) := by decide +kernel
theorem dX8_see_15 : decode cX8_see 15 = .ok (.aload_n 0, 1) := by decide +kernel
theorem dX8_see_16 : decode cX8_see 16 = .ok (.getfield 155, 3) := by decide +kernel
theorem dX8_see_19 : decode cX8_see 19 = .ok (.baload, 1) := by decide +kernel
theorem dX8_see_20 : decode cX8_see 20 = .ok (.bipush 32, 2) := by decide +kernel
theorem dX8_see_22 : decode cX8_see 22 = .ok (.if_icmp .ne 16, 3) := by decide +kernel
theorem dX8_see_25 : decode cX8_see 25 = .ok (.aload_n 0, 1) := by decide +kernel
theorem dX8_see_26 : decode cX8_see 26 = .ok (.dup, 1) := by decide +kernel
theorem dX8_see_27 : decode cX8_see 27 = .ok (.getfield 155, 3) := by decide +kernel
theorem dX8_see_30 : decode cX8_see 30 = .ok (.iconst 1, 1) := by decide +kernel
theorem dX8_see_31 : decode cX8_see 31 = .ok (.iadd, 1) := by decide +kernel
theorem dX8_see_32 : decode cX8_see 32 = .ok (.putfield 155, 3) := by decide +kernel
theorem dX8_see_35 : decode cX8_see 35 = .ok (.goto (-35), 3) := by decide +kernel
theorem dX8_see_38 : decode cX8_see 38 = .ok (.aload_n 0, 1) := by decide +kernel
theorem dX8_see_39 : decode cX8_see 39 = .ok (.getfield 155, 3) := by decide +kernel
theorem dX8_see_42 : decode cX8_see 42 = .ok (.aload_n 0, 1) := by decide +kernel
theorem dX8_see_43 : decode cX8_see 43 = .ok (.getfield 145, 3) := by decide +kernel
theorem dX8_see_46 : decode cX8_see 46 = .ok (.if_icmp .ge 19, 3) := by decide +kernel
theorem dX8_see_49 : decode cX8_see 49 = .ok (.aload_n 0, 1) := by decide +kernel
theorem dX8_see_50 : decode cX8_see 50 = .ok (.getfield 78, 3) := by decide +kernel
theorem dX8_see_53 : decode cX8_see 53 = .ok (.aload_n 0, 1) := by decide +kernel
theorem dX8_see_54 : decode cX8_see 54 = .ok (.getfield 155, 3) := by decide +kernel
theorem dX8_see_57 : decode cX8_see 57 = .ok (.baload, 1) := by decide +kernel
theorem dX8_see_58 : decode cX8_see 58 = .ok (.sipush 255, 3) := by decide +kernel
theorem dX8_see_61 : decode cX8_see 61 = .ok (.iand, 1) := by decide +kernel
theorem dX8_see_62 : decode cX8_see 62 = .ok (.goto 4, 3) := by decide +kernel
theorem dX8_see_65 : decode cX8_see 65 = .ok (.iconst (-1), 1) := by decide +kernel
theorem dX8_see_66 : decode cX8_see 66 = .ok (.ireturn, 1) := by decide +kernel
theorem dX8_sensor_0 : decode cX8_sensor 0 = .ok (.iload_n 1, 1) := by decide +kernel
theorem dX8_sensor_1 : decode cX8_sensor 1 = .ok (.ifCond .ne 32, 3) := by decide +kernel
theorem dX8_sensor_4 : decode cX8_sensor 4 = .ok (.aload_n 0, 1) := by decide +kernel
theorem dX8_sensor_5 : decode cX8_sensor 5 = .ok (.iload_n 2, 1) := by decide +kernel
theorem dX8_sensor_6 : decode cX8_sensor 6 = .ok (.invokevirtual 141, 3) := by decide +kernel
theorem dX8_sensor_9 : decode cX8_sensor 9 = .ok (.ifCond .eq 13, 3) := by decide +kernel
theorem dX8_sensor_12 : decode cX8_sensor 12 = .ok (.aload_n 0, 1) := by decide +kernel
theorem dX8_sensor_13 : decode cX8_sensor 13 = .ok (.getfield 29, 3) := by decide +kernel
theorem dX8_sensor_16 : decode cX8_sensor 16 = .ok (.iload_n 2, 1) := by decide +kernel
theorem dX8_sensor_17 : decode cX8_sensor 17 = .ok (.baload, 1) := by decide +kernel
theorem dX8_sensor_18 : decode cX8_sensor 18 = .ok (.iload_n 3, 1) := by decide +kernel
theorem dX8_sensor_19 : decode cX8_sensor 19 = .ok (.if_icmp .ne 5, 3) := by decide +kernel
theorem dX8_sensor_22 : decode cX8_sensor 22 = .ok (.iconst 0, 1) := by decide +kernel
theorem dX8_sensor_23 : decode cX8_sensor 23 = .ok (.ireturn, 1) := by decide +kernel
theorem dX8_sensor_24 : decode cX8_sensor 24 = .ok (.aload_n 0, 1) := by decide +kernel
theorem dX8_sensor_25 : decode cX8_sensor 25 = .ok (.getfield 29, 3) := by decide +kernel
theorem dX8_sensor_28 : decode cX8_sensor 28 = .ok (.iload_n 2, 1) := by decide +kernel
theorem dX8_sensor_29 : decode cX8_sensor 29 = .ok (.iload_n 3, 1) := by decide +kernel
theorem dX8_sensor_30 : decode cX8_sensor 30 = .ok (.bastore, 1) := by decide +kernel
theorem dX8_sensor_31 : decode cX8_sensor 31 = .ok (.iconst 1, 1) := by decide +kernel
theorem dX8_sensor_32 : decode cX8_sensor 32 = .ok (.ireturn, 1) := by decide +kernel
theorem dX8_sensor_33 : decode cX8_sensor 33 = .ok (.iload_n 1, 1) := by decide +kernel
theorem dX8_sensor_34 : decode cX8_sensor 34 = .ok (.iconst 1, 1) := by decide +kernel
theorem dX8_sensor_35 : decode cX8_sensor 35 = .ok (.if_icmp .ne 31, 3) := by decide +kernel
theorem dX8_sensor_38 : decode cX8_sensor 38 = .ok (.aload_n 0, 1) := by decide +kernel
theorem dX8_sensor_39 : decode cX8_sensor 39 = .ok (.iload_n 2, 1) := by decide +kernel
theorem dX8_sensor_40 : decode cX8_sensor 40 = .ok (.invokevirtual 194, 3) := by decide +kernel
theorem dX8_sensor_43 : decode cX8_sensor 43 = .ok (.ifCond .eq 23, 3) := by decide +kernel
theorem dX8_sensor_46 : decode cX8_sensor 46 = .ok (.aload_n 0, 1) := by decide +kernel
theorem dX8_sensor_47 : decode cX8_sensor 47 = .ok (.getfield 54, 3) := by decide +kernel
theorem dX8_sensor_50 : decode cX8_sensor 50 = .ok (.iload_n 2, 1) := by decide +kernel
theorem dX8_sensor_51 : decode cX8_sensor 51 = .ok (.iaload, 1) := by decide +kernel
theorem dX8_sensor_52 : decode cX8_sensor 52 = .ok (.iconst 1, 1) := by decide +kernel
theorem dX8_sensor_53 : decode cX8_sensor 53 = .ok (.if_icmp .gt 13, 3) := by decide +kernel
theorem dX8_sensor_56 : decode cX8_sensor 56 = .ok (.aload_n 0, 1) := by decide +kernel
theorem dX8_sensor_57 : decode cX8_sensor 57 = .ok (.getfield 72, 3) := by decide +kernel
theorem dX8_sensor_60 : decode cX8_sensor 60 = .ok (.iload_n 2, 1) := by decide +kernel
theorem dX8_sensor_61 : decode cX8_sensor 61 = .ok (.baload, 1) := by decide +kernel
theorem dX8_sensor_62 : decode cX8_sensor 62 = .ok (.iload_n 3, 1) := by decide +kernel
theorem dX8_sensor_63 : decode cX8_sensor 63 = .ok (.if_icmp .ne 5, 3) := by decide +kernel
theorem dX8_sensor_66 : decode cX8_sensor 66 = .ok (.iconst 0, 1) := by decide +kernel
theorem dX8_sensor_67 : decode cX8_sensor 67 = .ok (.ireturn, 1) := by decide +kernel
theorem dX8_sensor_68 : decode cX8_sensor 68 = .ok (.aload_n 0, 1) := by decide +kernel
theorem dX8_sensor_69 : decode cX8_sensor 69 = .ok (.getfield 72, 3) := by decide +kernel
theorem dX8_sensor_72 : decode cX8_sensor 72 = .ok (.iload_n 2, 1) := by decide +kernel
theorem dX8_sensor_73 : decode cX8_sensor 73 = .ok (.iload_n 3, 1) := by decide +kernel
theorem dX8_sensor_74 : decode cX8_sensor 74 = .ok (.bastore, 1) := by decide +kernel
theorem dX8_sensor_75 : decode cX8_sensor 75 = .ok (.iconst 1, 1) := by decide +kernel
theorem dX8_sensor_76 : decode cX8_sensor 76 = .ok (.ireturn, 1) := by decide +kernel
theorem dX8_slip_0 : decode cX8_slip 0 = .ok (.iload_n 1, 1) := by decide +kernel
theorem dX8_slip_1 : decode cX8_slip 1 = .ok (.iconst 0, 1) := by decide +kernel
theorem dX8_slip_2 : decode cX8_slip 2 = .ok (.bipush 50, 2) := by decide +kernel
theorem dX8_slip_4 : decode cX8_slip 4 = .ok (.invokestatic 134, 3) := by decide +kernel
theorem dX8_slip_7 : decode cX8_slip 7 = .ok (.ifCond .ne 5, 3) := by decide +kernel
theorem dX8_slip_10 : decode cX8_slip 10 = .ok (.iconst (-1), 1) := by decide +kernel
theorem dX8_slip_11 : decode cX8_slip 11 = .ok (.ireturn, 1) := by decide +kernel
theorem dX8_slip_12 : decode cX8_slip 12 = .ok (.aload_n 0, 1) := by decide +kernel
theorem dX8_slip_13 : decode cX8_slip 13 = .ok (.getfield 75, 3) := by decide +kernel
theorem dX8_slip_16 : decode cX8_slip 16 = .ok (.istore_n 2, 1) := by decide +kernel
theorem dX8_slip_17 : decode cX8_slip 17 = .ok (.aload_n 0, 1) := by decide +kernel
theorem dX8_slip_18 : decode cX8_slip 18 = .ok (.iload_n 1, 1) := by decide +kernel
theorem dX8_slip_19 : decode cX8_slip 19 = .ok (.putfield 75, 3) := by decide +kernel
theorem dX8_slip_22 : decode cX8_slip 22 = .ok (.iload_n 2, 1) := by decide +kernel
theorem dX8_slip_23 : decode cX8_slip 23 = .ok (.ireturn, 1) := by decide +kernel
theorem dX8_target_0 : decode cX8_target 0 = .ok (.aload_n 0, 1) := by decide +kernel
theorem dX8_target_1 : decode cX8_target 1 = .ok (.iload_n 1, 1) := by decide +kernel
theorem dX8_target_2 : decode cX8_target 2 = .ok (.invokevirtual 141, 3) := by decide +kernel
theorem dX8_target_5 : decode cX8_target 5 = .ok (.ifCond .eq 14, 3) := by decide +kernel
theorem dX8_target_8 : decode cX8_target 8 = .ok (.iload_n 2, 1) := by decide +kernel
theorem dX8_target_9 : decode cX8_target 9 = .ok (.iconst 0, 1) := by decide +kernel
theorem dX8_target_10 : decode cX8_target 10 = .ok (.sipush 400, 3) := by decide +kernel
theorem dX8_target_13 : decode cX8_target 13 = .ok (.invokestatic 134, 3) := by decide +kernel
theorem dX8_target_16 : decode cX8_target 16 = .ok (.ifCond .ne 5, 3) := by decide +kernel
theorem dX8_target_19 : decode cX8_target 19 = .ok (.iconst (-1), 1) := by decide +kernel
theorem dX8_target_20 : decode cX8_target 20 = .ok (.ireturn, 1) := by decide +kernel
theorem dX8_target_21 : decode cX8_target 21 = .ok (.aload_n 0, 1) := by decide +kernel
theorem dX8_target_22 : decode cX8_target 22 = .ok (.getfield 20, 3) := by decide +kernel
theorem dX8_target_25 : decode cX8_target 25 = .ok (.iload_n 1, 1) := by decide +kernel
theorem dX8_target_26 : decode cX8_target 26 = .ok (.iaload, 1) := by decide +kernel
theorem dX8_target_27 : decode cX8_target 27 = .ok (.istore_n 3, 1) := by decide +kernel
theorem dX8_target_28 : decode cX8_target 28 = .ok (.aload_n 0, 1) := by decide +kernel
theorem dX8_target_29 : decode cX8_target 29 = .ok (.getfield 20, 3) := by decide +kernel
theorem dX8_target_32 : decode cX8_target 32 = .ok (.iload_n 1, 1) := by decide +kernel
theorem dX8_target_33 : decode cX8_target 33 = .ok (.iload_n 2, 1) := by decide +kernel
theorem dX8_target_34 : decode cX8_target 34 = .ok (.iastore, 1) := by decide +kernel
theorem dX8_target_35 : decode cX8_target 35 = .ok (.iload_n 3, 1) := by decide +kernel
theorem dX8_target_36 : decode cX8_target 36 = .ok (.ireturn, 1) := by decide +kernel
theorem dX8_tick_0 : decode cX8_tick 0 = .ok (.iconst 0, 1) := by decide +kernel
theorem dX8_tick_1 : decode cX8_tick 1 = .ok (.istore_n 1, 1) := by decide +kernel
theorem dX8_tick_2 : decode cX8_tick 2 = .ok (.iconst 0, 1) := by decide +kernel
theorem dX8_tick_3 : decode cX8_tick 3 = .ok (.istore_n 2, 1) := by decide +kernel
theorem dX8_tick_4 : decode cX8_tick 4 = .ok (.iload_n 2, 1) := by decide +kernel
theorem dX8_tick_5 : decode cX8_tick 5 = .ok (.aload_n 0, 1) := by decide +kernel
theorem dX8_tick_6 : decode cX8_tick 6 = .ok (.getfield 33, 3) := by decide +kernel
theorem dX8_tick_9 : decode cX8_tick 9 = .ok (.if_icmp .ge 84, 3) := by decide +kernel
theorem dX8_tick_12 : decode cX8_tick 12 = .ok (.iload_n 1, 1) := by decide +kernel
theorem dX8_tick_13 : decode cX8_tick 13 = .ok (.aload_n 0, 1) := by decide +kernel
theorem dX8_tick_14 : decode cX8_tick 14 = .ok (.getfield 191, 3) := by decide +kernel
theorem dX8_tick_17 : decode cX8_tick 17 = .ok (.if_icmp .ge 18, 3) := by decide +kernel
theorem dX8_tick_20 : decode cX8_tick 20 = .ok (.aload_n 0, 1) := by decide +kernel
theorem dX8_tick_21 : decode cX8_tick 21 = .ok (.getfield 54, 3) := by decide +kernel
theorem dX8_tick_24 : decode cX8_tick 24 = .ok (.iload_n 1, 1) := by decide +kernel
theorem dX8_tick_25 : decode cX8_tick 25 = .ok (.iaload, 1) := by decide +kernel
theorem dX8_tick_26 : decode cX8_tick 26 = .ok (.ifCond .eq 9, 3) := by decide +kernel
theorem dX8_tick_29 : decode cX8_tick 29 = .ok (.iinc 1 1, 3) := by decide +kernel
theorem dX8_tick_32 : decode cX8_tick 32 = .ok (.goto (-20), 3) := by decide +kernel
theorem dX8_tick_35 : decode cX8_tick 35 = .ok (.aload_n 0, 1) := by decide +kernel
theorem dX8_tick_36 : decode cX8_tick 36 = .ok (.getfield 36, 3) := by decide +kernel
theorem dX8_tick_39 : decode cX8_tick 39 = .ok (.iload_n 2, 1) := by decide +kernel
theorem dX8_tick_40 : decode cX8_tick 40 = .ok (.iaload, 1) := by decide +kernel
theorem dX8_tick_41 : decode cX8_tick 41 = .ok (.iconst (-1), 1) := by decide +kernel
theorem dX8_tick_42 : decode cX8_tick 42 = .ok (.if_icmp .ne 45, 3) := by decide +kernel
theorem dX8_tick_45 : decode cX8_tick 45 = .ok (.iload_n 1, 1) := by decide +kernel
theorem dX8_tick_46 : decode cX8_tick 46 = .ok (.aload_n 0, 1) := by decide +kernel
theorem dX8_tick_47 : decode cX8_tick 47 = .ok (.getfield 191, 3) := by decide +kernel
theorem dX8_tick_50 : decode cX8_tick 50 = .ok (.if_icmp .ne 6, 3) := by decide +kernel
theorem dX8_tick_53 : decode cX8_tick 53 = .ok (.goto 34, 3) := by decide +kernel
theorem dX8_tick_56 : decode cX8_tick 56 = .ok (.aload_n 0, 1) := by decide +kernel
theorem dX8_tick_57 : decode cX8_tick 57 = .ok (.getfield 36, 3) := by decide +kernel
theorem dX8_tick_60 : decode cX8_tick 60 = .ok (.iload_n 2, 1) := by decide +kernel
theorem dX8_tick_61 : decode cX8_tick 61 = .ok (.iload_n 1, 1) := by decide +kernel
theorem dX8_tick_62 : decode cX8_tick 62 = .ok (.iastore, 1) := by decide +kernel
theorem dX8_tick_63 : decode cX8_tick 63 = .ok (.aload_n 0, 1) := by decide +kernel
theorem dX8_tick_64 : decode cX8_tick 64 = .ok (.getfield 54, 3) := by decide +kernel
theorem dX8_tick_67 : decode cX8_tick 67 = .ok (.iload_n 1, 1) := by decide +kernel
theorem dX8_tick_68 : decode cX8_tick 68 = .ok (.iconst 1, 1) := by decide +kernel
theorem dX8_tick_69 : decode cX8_tick 69 = .ok (.iastore, 1) := by decide +kernel
theorem dX8_tick_70 : decode cX8_tick 70 = .ok (.aload_n 0, 1) := by decide +kernel
theorem dX8_tick_71 : decode cX8_tick 71 = .ok (.getfield 60, 3) := by decide +kernel
theorem dX8_tick_74 : decode cX8_tick 74 = .ok (.iload_n 1, 1) := by decide +kernel
theorem dX8_tick_75 : decode cX8_tick 75 = .ok (.iconst 0, 1) := by decide +kernel
theorem dX8_tick_76 : decode cX8_tick 76 = .ok (.iastore, 1) := by decide +kernel
theorem dX8_tick_77 : decode cX8_tick 77 = .ok (.aload_n 0, 1) := by decide +kernel
theorem dX8_tick_78 : decode cX8_tick 78 = .ok (.getfield 63, 3) := by decide +kernel
theorem dX8_tick_81 : decode cX8_tick 81 = .ok (.iload_n 1, 1) := by decide +kernel
theorem dX8_tick_82 : decode cX8_tick 82 = .ok (.aload_n 0, 1) := by decide +kernel
theorem dX8_tick_83 : decode cX8_tick 83 = .ok (.getfield 197, 3) := by decide +kernel
theorem dX8_tick_86 : decode cX8_tick 86 = .ok (.iastore, 1) := by decide +kernel
theorem dX8_tick_87 : decode cX8_tick 87 = .ok (.iinc 2 1, 3) := by decide +kernel
theorem dX8_tick_90 : decode cX8_tick 90 = .ok (.goto (-86), 3) := by decide +kernel
theorem dX8_tick_93 : decode cX8_tick 93 = .ok (.iconst 0, 1) := by decide +kernel
theorem dX8_tick_94 : decode cX8_tick 94 = .ok (.istore_n 2, 1) := by decide +kernel
theorem dX8_tick_95 : decode cX8_tick 95 = .ok (.iload_n 2, 1) := by decide +kernel
theorem dX8_tick_96 : decode cX8_tick 96 = .ok (.aload_n 0, 1) := by decide +kernel
theorem dX8_tick_97 : decode cX8_tick 97 = .ok (.getfield 33, 3) := by decide +kernel
theorem dX8_tick_100 : decode cX8_tick 100 = .ok (.if_icmp .ge 24, 3) := by decide +kernel
theorem dX8_tick_103 : decode cX8_tick 103 = .ok (.aload_n 0, 1) := by decide +kernel
theorem dX8_tick_104 : decode cX8_tick 104 = .ok (.getfield 36, 3) := by decide +kernel
theorem dX8_tick_107 : decode cX8_tick 107 = .ok (.iload_n 2, 1) := by decide +kernel
theorem dX8_tick_108 : decode cX8_tick 108 = .ok (.iaload, 1) := by decide +kernel
theorem dX8_tick_109 : decode cX8_tick 109 = .ok (.iconst (-1), 1) := by decide +kernel
theorem dX8_tick_110 : decode cX8_tick 110 = .ok (.if_icmp .eq 8, 3) := by decide +kernel
theorem dX8_tick_113 : decode cX8_tick 113 = .ok (.aload_n 0, 1) := by decide +kernel
theorem dX8_tick_114 : decode cX8_tick 114 = .ok (.iload_n 2, 1) := by decide +kernel
theorem dX8_tick_115 : decode cX8_tick 115 = .ok (.invokevirtual 214, 3) := by decide +kernel
theorem dX8_tick_118 : decode cX8_tick 118 = .ok (.iinc 2 1, 3) := by decide +kernel
theorem dX8_tick_121 : decode cX8_tick 121 = .ok (.goto (-26), 3) := by decide +kernel
theorem dX8_tick_124 : decode cX8_tick 124 = .ok (.iconst 0, 1) := by decide +kernel
theorem dX8_tick_125 : decode cX8_tick 125 = .ok (.istore_n 2, 1) := by decide +kernel
theorem dX8_tick_126 : decode cX8_tick 126 = .ok (.iload_n 2, 1) := by decide +kernel
theorem dX8_tick_127 : decode cX8_tick 127 = .ok (.aload_n 0, 1) := by decide +kernel
theorem dX8_tick_128 : decode cX8_tick 128 = .ok (.getfield 191, 3) := by decide +kernel
theorem dX8_tick_131 : decode cX8_tick 131 = .ok (.if_icmp .ge 35, 3) := by decide +kernel
theorem dX8_tick_134 : decode cX8_tick 134 = .ok (.aload_n 0, 1) := by decide +kernel
theorem dX8_tick_135 : decode cX8_tick 135 = .ok (.getfield 54, 3) := by decide +kernel
theorem dX8_tick_138 : decode cX8_tick 138 = .ok (.iload_n 2, 1) := by decide +kernel
theorem dX8_tick_139 : decode cX8_tick 139 = .ok (.iaload, 1) := by decide +kernel
theorem dX8_tick_140 : decode cX8_tick 140 = .ok (.iconst 1, 1) := by decide +kernel
theorem dX8_tick_141 : decode cX8_tick 141 = .ok (.if_icmp .gt 19, 3) := by decide +kernel
theorem dX8_tick_144 : decode cX8_tick 144 = .ok (.aload_n 0, 1) := by decide +kernel
theorem dX8_tick_145 : decode cX8_tick 145 = .ok (.getfield 57, 3) := by decide +kernel
theorem dX8_tick_148 : decode cX8_tick 148 = .ok (.iload_n 2, 1) := by decide +kernel
theorem dX8_tick_149 : decode cX8_tick 149 = .ok (.aload_n 0, 1) := by decide +kernel
theorem dX8_tick_150 : decode cX8_tick 150 = .ok (.aload_n 0, 1) := by decide +kernel
theorem dX8_tick_151 : decode cX8_tick 151 = .ok (.getfield 57, 3) := by decide +kernel
theorem dX8_tick_154 : decode cX8_tick 154 = .ok (.iload_n 2, 1) := by decide +kernel
theorem dX8_tick_155 : decode cX8_tick 155 = .ok (.iaload, 1) := by decide +kernel
theorem dX8_tick_156 : decode cX8_tick 156 = .ok (.invokevirtual 217, 3) := by decide +kernel
theorem dX8_tick_159 : decode cX8_tick 159 = .ok (.iastore, 1) := by decide +kernel
theorem dX8_tick_160 : decode cX8_tick 160 = .ok (.iinc 2 1, 3) := by decide +kernel
theorem dX8_tick_163 : decode cX8_tick 163 = .ok (.goto (-37), 3) := by decide +kernel
theorem dX8_tick_166 : decode cX8_tick 166 = .ok (.aload_n 0, 1) := by decide +kernel
theorem dX8_tick_167 : decode cX8_tick 167 = .ok (.invokevirtual 220, 3) := by decide +kernel
theorem dX8_tick_170 : decode cX8_tick 170 = .ok (.aload_n 0, 1) := by decide +kernel
theorem dX8_tick_171 : decode cX8_tick 171 = .ok (.dup, 1) := by decide +kernel
theorem dX8_tick_172 : decode cX8_tick 172 = .ok (.getfield 197, 3) := by decide +kernel
theorem dX8_tick_175 : decode cX8_tick 175 = .ok (.iconst 1, 1) := by decide +kernel
theorem dX8_tick_176 : decode cX8_tick 176 = .ok (.iadd, 1) := by decide +kernel
theorem dX8_tick_177 : decode cX8_tick 177 = .ok (.putfield 197, 3) := by decide +kernel
theorem dX8_tick_180 : decode cX8_tick 180 = .ok (.return_, 1) := by decide +kernel
theorem dX8_units_0 : decode cX8_units 0 = .ok (.aload_n 0, 1) := by decide +kernel
theorem dX8_units_1 : decode cX8_units 1 = .ok (.iload_n 2, 1) := by decide +kernel
theorem dX8_units_2 : decode cX8_units 2 = .ok (.iload_n 1, 1) := by decide +kernel
theorem dX8_units_3 : decode cX8_units 3 = .ok (.idiv, 1) := by decide +kernel
theorem dX8_units_4 : decode cX8_units 4 = .ok (.iload 4, 2) := by decide +kernel
theorem dX8_units_6 : decode cX8_units 6 = .ok (.iload_n 3, 1) := by decide +kernel
theorem dX8_units_7 : decode cX8_units 7 = .ok (.idiv, 1) := by decide +kernel
theorem dX8_units_8 : decode cX8_units 8 = .ok (.isub, 1) := by decide +kernel
theorem dX8_units_9 : decode cX8_units 9 = .ok (.invokevirtual 188, 3) := by decide +kernel
theorem dX8_units_12 : decode cX8_units 12 = .ok (.istore 7, 2) := by decide +kernel
theorem dX8_units_14 : decode cX8_units 14 = .ok (.iload_n 2, 1) := by decide +kernel
theorem dX8_units_15 : decode cX8_units 15 = .ok (.iload_n 3, 1) := by decide +kernel
theorem dX8_units_16 : decode cX8_units 16 = .ok (.imul, 1) := by decide +kernel
theorem dX8_units_17 : decode cX8_units 17 = .ok (.iload 4, 2) := by decide +kernel
theorem dX8_units_19 : decode cX8_units 19 = .ok (.iload_n 1, 1) := by decide +kernel
theorem dX8_units_20 : decode cX8_units 20 = .ok (.imul, 1) := by decide +kernel
theorem dX8_units_21 : decode cX8_units 21 = .ok (.isub, 1) := by decide +kernel
theorem dX8_units_22 : decode cX8_units 22 = .ok (.istore 8, 2) := by decide +kernel
theorem dX8_units_24 : decode cX8_units 24 = .ok (.iload 8, 2) := by decide +kernel
theorem dX8_units_26 : decode cX8_units 26 = .ok (.ifCond .ge 7, 3) := by decide +kernel
theorem dX8_units_29 : decode cX8_units 29 = .ok (.iconst 0, 1) := by decide +kernel
theorem dX8_units_30 : decode cX8_units 30 = .ok (.goto 9, 3) := by decide +kernel
theorem dX8_units_33 : decode cX8_units 33 = .ok (.iload 8, 2) := by decide +kernel
theorem dX8_units_35 : decode cX8_units 35 = .ok (.iload_n 3, 1) := by decide +kernel
theorem dX8_units_36 : decode cX8_units 36 = .ok (.iload_n 1, 1) := by decide +kernel
theorem dX8_units_37 : decode cX8_units 37 = .ok (.iadd, 1) := by decide +kernel
theorem dX8_units_38 : decode cX8_units 38 = .ok (.idiv, 1) := by decide +kernel
theorem dX8_units_39 : decode cX8_units 39 = .ok (.istore 8, 2) := by decide +kernel
theorem dX8_units_41 : decode cX8_units 41 = .ok (.iload 8, 2) := by decide +kernel
theorem dX8_units_43 : decode cX8_units 43 = .ok (.iload 7, 2) := by decide +kernel
theorem dX8_units_45 : decode cX8_units 45 = .ok (.if_icmp .ge 8, 3) := by decide +kernel
theorem dX8_units_48 : decode cX8_units 48 = .ok (.iload 8, 2) := by decide +kernel
theorem dX8_units_50 : decode cX8_units 50 = .ok (.goto 5, 3) := by decide +kernel
theorem dX8_units_53 : decode cX8_units 53 = .ok (.iload 7, 2) := by decide +kernel
theorem dX8_units_55 : decode cX8_units 55 = .ok (.istore 7, 2) := by decide +kernel
theorem dX8_units_57 : decode cX8_units 57 = .ok (.iload_n 3, 1) := by decide +kernel
theorem dX8_units_58 : decode cX8_units 58 = .ok (.iload 5, 2) := by decide +kernel
theorem dX8_units_60 : decode cX8_units 60 = .ok (.imul, 1) := by decide +kernel
theorem dX8_units_61 : decode cX8_units 61 = .ok (.iload 4, 2) := by decide +kernel
theorem dX8_units_63 : decode cX8_units 63 = .ok (.isub, 1) := by decide +kernel
theorem dX8_units_64 : decode cX8_units 64 = .ok (.istore 9, 2) := by decide +kernel
theorem dX8_units_66 : decode cX8_units 66 = .ok (.iload 9, 2) := by decide +kernel
theorem dX8_units_68 : decode cX8_units 68 = .ok (.iload 7, 2) := by decide +kernel
theorem dX8_units_70 : decode cX8_units 70 = .ok (.if_icmp .ge 8, 3) := by decide +kernel
theorem dX8_units_73 : decode cX8_units 73 = .ok (.iload 9, 2) := by decide +kernel
theorem dX8_units_75 : decode cX8_units 75 = .ok (.goto 5, 3) := by decide +kernel
theorem dX8_units_78 : decode cX8_units 78 = .ok (.iload 7, 2) := by decide +kernel
theorem dX8_units_80 : decode cX8_units 80 = .ok (.istore 7, 2) := by decide +kernel
theorem dX8_units_82 : decode cX8_units 82 = .ok (.bipush 10, 2) := by decide +kernel
theorem dX8_units_84 : decode cX8_units 84 = .ok (.aload_n 0, 1) := by decide +kernel
theorem dX8_units_85 : decode cX8_units 85 = .ok (.getfield 94, 3) := by decide +kernel
theorem dX8_units_88 : decode cX8_units 88 = .ok (.iconst 2, 1) := by decide +kernel
theorem dX8_units_89 : decode cX8_units 89 = .ok (.iaload, 1) := by decide +kernel
theorem dX8_units_90 : decode cX8_units 90 = .ok (.imul, 1) := by decide +kernel
theorem dX8_units_91 : decode cX8_units 91 = .ok (.iload 6, 2) := by decide +kernel
theorem dX8_units_93 : decode cX8_units 93 = .ok (.isub, 1) := by decide +kernel
theorem dX8_units_94 : decode cX8_units 94 = .ok (.istore 10, 2) := by decide +kernel
theorem dX8_units_96 : decode cX8_units 96 = .ok (.iload 10, 2) := by decide +kernel
theorem dX8_units_98 : decode cX8_units 98 = .ok (.ifCond .ge 5, 3) := by decide +kernel
theorem dX8_units_101 : decode cX8_units 101 = .ok (.iconst 0, 1) := by decide +kernel
theorem dX8_units_102 : decode cX8_units 102 = .ok (.ireturn, 1) := by decide +kernel
theorem dX8_units_103 : decode cX8_units 103 = .ok (.aload_n 0, 1) := by decide +kernel
theorem dX8_units_104 : decode cX8_units 104 = .ok (.getfield 94, 3) := by decide +kernel
theorem dX8_units_107 : decode cX8_units 107 = .ok (.iconst 0, 1) := by decide +kernel
theorem dX8_units_108 : decode cX8_units 108 = .ok (.iaload, 1) := by decide +kernel
theorem dX8_units_109 : decode cX8_units 109 = .ok (.ifCond .le 36, 3) := by decide +kernel
theorem dX8_units_112 : decode cX8_units 112 = .ok (.iload 10, 2) := by decide +kernel
theorem dX8_units_114 : decode cX8_units 114 = .ok (.iconst 1, 1) := by decide +kernel
theorem dX8_units_115 : decode cX8_units 115 = .ok (.iadd, 1) := by decide +kernel
theorem dX8_units_116 : decode cX8_units 116 = .ok (.iload_n 3, 1) := by decide +kernel
theorem dX8_units_117 : decode cX8_units 117 = .ok (.imul, 1) := by decide +kernel
theorem dX8_units_118 : decode cX8_units 118 = .ok (.iconst 1, 1) := by decide +kernel
theorem dX8_units_119 : decode cX8_units 119 = .ok (.isub, 1) := by decide +kernel
theorem dX8_units_120 : decode cX8_units 120 = .ok (.aload_n 0, 1) := by decide +kernel
theorem dX8_units_121 : decode cX8_units 121 = .ok (.getfield 94, 3) := by decide +kernel
theorem dX8_units_124 : decode cX8_units 124 = .ok (.iconst 0, 1) := by decide +kernel
theorem dX8_units_125 : decode cX8_units 125 = .ok (.iaload, 1) := by decide +kernel
theorem dX8_units_126 : decode cX8_units 126 = .ok (.idiv, 1) := by decide +kernel
theorem dX8_units_127 : decode cX8_units 127 = .ok (.istore 11, 2) := by decide +kernel
theorem dX8_units_129 : decode cX8_units 129 = .ok (.iload 11, 2) := by decide +kernel
theorem dX8_units_131 : decode cX8_units 131 = .ok (.iload 7, 2) := by decide +kernel
theorem dX8_units_133 : decode cX8_units 133 = .ok (.if_icmp .ge 8, 3) := by decide +kernel
theorem dX8_units_136 : decode cX8_units 136 = .ok (.iload 11, 2) := by decide +kernel
theorem dX8_units_138 : decode cX8_units 138 = .ok (.goto 5, 3) := by decide +kernel
theorem dX8_units_141 : decode cX8_units 141 = .ok (.iload 7, 2) := by decide +kernel
theorem dX8_units_143 : decode cX8_units 143 = .ok (.istore 7, 2) := by decide +kernel
theorem dX8_units_145 : decode cX8_units 145 = .ok (.iload 7, 2) := by decide +kernel
theorem dX8_units_147 : decode cX8_units 147 = .ok (.ifCond .ge 7, 3) := by decide +kernel
theorem dX8_units_150 : decode cX8_units 150 = .ok (.iconst 0, 1) := by decide +kernel
theorem dX8_units_151 : decode cX8_units 151 = .ok (.goto 5, 3) := by decide +kernel
theorem dX8_units_154 : decode cX8_units 154 = .ok (.iload 7, 2) := by decide +kernel
theorem dX8_units_156 : decode cX8_units 156 = .ok (.ireturn, 1) := by decide +kernel
theorem dX8_without_0 : decode cX8_without 0 = .ok (.iload_n 0, 1) := by decide +kernel
theorem dX8_without_1 : decode cX8_without 1 = .ok (.ifCond .eq 8, 3) := by decide +kernel
theorem dX8_without_4 : decode cX8_without 4 = .ok (.iload_n 0, 1) := by decide +kernel
theorem dX8_without_5 : decode cX8_without 5 = .ok (.iconst 1, 1) := by decide +kernel
theorem dX8_without_6 : decode cX8_without 6 = .ok (.if_icmp .ne 8, 3) := by decide +kernel
theorem dX8_without_9 : decode cX8_without 9 = .ok (.bipush 10, 2) := by decide +kernel
theorem dX8_without_11 : decode cX8_without 11 = .ok (.goto 24, 3) := by decide +kernel
theorem dX8_without_14 : decode cX8_without 14 = .ok (.iload_n 0, 1) := by decide +kernel
theorem dX8_without_15 : decode cX8_without 15 = .ok (.iconst 2, 1) := by decide +kernel
theorem dX8_without_16 : decode cX8_without 16 = .ok (.if_icmp .ne 8, 3) := by decide +kernel
theorem dX8_without_19 : decode cX8_without 19 = .ok (.bipush 85, 2) := by decide +kernel
theorem dX8_without_21 : decode cX8_without 21 = .ok (.goto 14, 3) := by decide +kernel
theorem dX8_without_24 : decode cX8_without 24 = .ok (.iload_n 0, 1) := by decide +kernel
theorem dX8_without_25 : decode cX8_without 25 = .ok (.iconst 3, 1) := by decide +kernel
theorem dX8_without_26 : decode cX8_without 26 = .ok (.if_icmp .ne 8, 3) := by decide +kernel
theorem dX8_without_29 : decode cX8_without 29 = .ok (.bipush 20, 2) := by decide +kernel
theorem dX8_without_31 : decode cX8_without 31 = .ok (.goto 4, 3) := by decide +kernel
theorem dX8_without_34 : decode cX8_without 34 = .ok (.iconst 1, 1) := by decide +kernel
theorem dX8_without_35 : decode cX8_without 35 = .ok (.ireturn, 1) := by decide +kernel
theorem dX8_wordHere_0 : decode cX8_wordHere 0 = .ok (.aload_n 0, 1) := by decide +kernel
theorem dX8_wordHere_1 : decode cX8_wordHere 1 = .ok (.invokevirtual 158, 3) := by decide +kernel
theorem dX8_wordHere_4 : decode cX8_wordHere 4 = .ok (.pop, 1) := by decide +kernel
theorem dX8_wordHere_5 : decode cX8_wordHere 5 = .ok (.aload_n 0, 1) := by decide +kernel
theorem dX8_wordHere_6 : decode cX8_wordHere 6 = .ok (.iconst 0, 1) := by decide +kernel
theorem dX8_wordHere_7 : decode cX8_wordHere 7 = .ok (.putfield 162, 3) := by decide +kernel
theorem dX8_wordHere_10 : decode cX8_wordHere 10 = .ok (.aload_n 0, 1) := by decide +kernel
theorem dX8_wordHere_11 : decode cX8_wordHere 11 = .ok (.getfield 155, 3) := by decide +kernel
theorem dX8_wordHere_14 : decode cX8_wordHere 14 = .ok (.aload_n 0, 1) := by decide +kernel
theorem dX8_wordHere_15 : decode cX8_wordHere 15 = .ok (.getfield 162, 3) := by decide +kernel
theorem dX8_wordHere_18 : decode cX8_wordHere 18 = .ok (.iadd, 1) := by decide +kernel
theorem dX8_wordHere_19 : decode cX8_wordHere 19 = .ok (.aload_n 0, 1) := by decide +kernel
theorem dX8_wordHere_20 : decode cX8_wordHere 20 = .ok (.getfield 145, 3) := by decide +kernel
theorem dX8_wordHere_23 : decode cX8_wordHere 23 = .ok (.if_icmp .ge 54, 3) := by decide +kernel
theorem dX8_wordHere_26 : decode cX8_wordHere 26 = .ok (.aload_n 0, 1) := by decide +kernel
theorem dX8_wordHere_27 : decode cX8_wordHere 27 = .ok (.getfield 78, 3) := by decide +kernel
theorem dX8_wordHere_30 : decode cX8_wordHere 30 = .ok (.aload_n 0, 1) := by decide +kernel
theorem dX8_wordHere_31 : decode cX8_wordHere 31 = .ok (.getfield 155, 3) := by decide +kernel
theorem dX8_wordHere_34 : decode cX8_wordHere 34 = .ok (.aload_n 0, 1) := by decide +kernel
theorem dX8_wordHere_35 : decode cX8_wordHere 35 = .ok (.getfield 162, 3) := by decide +kernel
theorem dX8_wordHere_38 : decode cX8_wordHere 38 = .ok (.iadd, 1) := by decide +kernel
theorem dX8_wordHere_39 : decode cX8_wordHere 39 = .ok (.baload, 1) := by decide +kernel
theorem dX8_wordHere_40 : decode cX8_wordHere 40 = .ok (.bipush 97, 2) := by decide +kernel
theorem dX8_wordHere_42 : decode cX8_wordHere 42 = .ok (.if_icmp .lt 35, 3) := by decide +kernel
theorem dX8_wordHere_45 : decode cX8_wordHere 45 = .ok (.aload_n 0, 1) := by decide +kernel
theorem dX8_wordHere_46 : decode cX8_wordHere 46 = .ok (.getfield 78, 3) := by decide +kernel
theorem dX8_wordHere_49 : decode cX8_wordHere 49 = .ok (.aload_n 0, 1) := by decide +kernel
theorem dX8_wordHere_50 : decode cX8_wordHere 50 = .ok (.getfield 155, 3) := by decide +kernel
theorem dX8_wordHere_53 : decode cX8_wordHere 53 = .ok (.aload_n 0, 1) := by decide +kernel
theorem dX8_wordHere_54 : decode cX8_wordHere 54 = .ok (.getfield 162, 3) := by decide +kernel
theorem dX8_wordHere_57 : decode cX8_wordHere 57 = .ok (.iadd, 1) := by decide +kernel
theorem dX8_wordHere_58 : decode cX8_wordHere 58 = .ok (.baload, 1) := by decide +kernel
theorem dX8_wordHere_59 : decode cX8_wordHere 59 = .ok (.bipush 122, 2) := by decide +kernel
theorem dX8_wordHere_61 : decode cX8_wordHere 61 = .ok (.if_icmp .gt 16, 3) := by decide +kernel
theorem dX8_wordHere_64 : decode cX8_wordHere 64 = .ok (.aload_n 0, 1) := by decide +kernel
theorem dX8_wordHere_65 : decode cX8_wordHere 65 = .ok (.dup, 1) := by decide +kernel
theorem dX8_wordHere_66 : decode cX8_wordHere 66 = .ok (.getfield 162, 3) := by decide +kernel
theorem dX8_wordHere_69 : decode cX8_wordHere 69 = .ok (.iconst 1, 1) := by decide +kernel
theorem dX8_wordHere_70 : decode cX8_wordHere 70 = .ok (.iadd, 1) := by decide +kernel
theorem dX8_wordHere_71 : decode cX8_wordHere 71 = .ok (.putfield 162, 3) := by decide +kernel
theorem dX8_wordHere_74 : decode cX8_wordHere 74 = .ok (.goto (-64), 3) := by decide +kernel
theorem dX8_wordHere_77 : decode cX8_wordHere 77 = .ok (.iconst 0, 1) := by decide +kernel
theorem dX8_wordHere_78 : decode cX8_wordHere 78 = .ok (.istore_n 1, 1) := by decide +kernel
theorem dX8_wordHere_79 : decode cX8_wordHere 79 = .ok (.iload_n 1, 1) := by decide +kernel
theorem dX8_wordHere_80 : decode cX8_wordHere 80 = .ok (.bipush 6, 2) := by decide +kernel
theorem dX8_wordHere_82 : decode cX8_wordHere 82 = .ok (.if_icmp .ge 118, 3) := by decide +kernel
theorem dX8_wordHere_85 : decode cX8_wordHere 85 = .ok (.aload_n 0, 1) := by decide +kernel
theorem dX8_wordHere_86 : decode cX8_wordHere 86 = .ok (.getfield 162, 3) := by decide +kernel
theorem dX8_wordHere_89 : decode cX8_wordHere 89 = .ok (.bipush 6, 2) := by decide +kernel
theorem dX8_wordHere_91 : decode cX8_wordHere 91 = .ok (.if_icmp .gt 109, 3) := by decide +kernel
theorem dX8_wordHere_94 : decode cX8_wordHere 94 = .ok (.iconst 0, 1) := by decide +kernel
theorem dX8_wordHere_95 : decode cX8_wordHere 95 = .ok (.istore_n 2, 1) := by decide +kernel
theorem dX8_wordHere_96 : decode cX8_wordHere 96 = .ok (.iload_n 2, 1) := by decide +kernel
theorem dX8_wordHere_97 : decode cX8_wordHere 97 = .ok (.bipush 6, 2) := by decide +kernel
theorem dX8_wordHere_99 : decode cX8_wordHere 99 = .ok (.if_icmp .ge 23, 3) := by decide +kernel
theorem dX8_wordHere_102 : decode cX8_wordHere 102 = .ok (.aload_n 0, 1) := by decide +kernel
theorem dX8_wordHere_103 : decode cX8_wordHere 103 = .ok (.getfield 100, 3) := by decide +kernel
theorem dX8_wordHere_106 : decode cX8_wordHere 106 = .ok (.bipush 6, 2) := by decide +kernel
theorem dX8_wordHere_108 : decode cX8_wordHere 108 = .ok (.iload_n 1, 1) := by decide +kernel
theorem dX8_wordHere_109 : decode cX8_wordHere 109 = .ok (.imul, 1) := by decide +kernel
theorem dX8_wordHere_110 : decode cX8_wordHere 110 = .ok (.iload_n 2, 1) := by decide +kernel
theorem dX8_wordHere_111 : decode cX8_wordHere 111 = .ok (.iadd, 1) := by decide +kernel
theorem dX8_wordHere_112 : decode cX8_wordHere 112 = .ok (.baload, 1) := by decide +kernel
theorem dX8_wordHere_113 : decode cX8_wordHere 113 = .ok (.ifCond .eq 9, 3) := by decide +kernel
theorem dX8_wordHere_116 : decode cX8_wordHere 116 = .ok (.iinc 2 1, 3) := by decide +kernel
theorem dX8_wordHere_119 : decode cX8_wordHere 119 = .ok (.goto (-23), 3) := by decide +kernel
theorem dX8_wordHere_122 : decode cX8_wordHere 122 = .ok (.iload_n 2, 1) := by decide +kernel
theorem dX8_wordHere_123 : decode cX8_wordHere 123 = .ok (.aload_n 0, 1) := by decide +kernel
theorem dX8_wordHere_124 : decode cX8_wordHere 124 = .ok (.getfield 162, 3) := by decide +kernel
theorem dX8_wordHere_127 : decode cX8_wordHere 127 = .ok (.if_icmp .ne 7, 3) := by decide +kernel
theorem dX8_wordHere_130 : decode cX8_wordHere 130 = .ok (.iconst 1, 1) := by decide +kernel
theorem dX8_wordHere_131 : decode cX8_wordHere 131 = .ok (.goto 4, 3) := by decide +kernel
theorem dX8_wordHere_134 : decode cX8_wordHere 134 = .ok (.iconst 0, 1) := by decide +kernel
theorem dX8_wordHere_135 : decode cX8_wordHere 135 = .ok (.istore_n 3, 1) := by decide +kernel
theorem dX8_wordHere_136 : decode cX8_wordHere 136 = .ok (.iconst 0, 1) := by decide +kernel
theorem dX8_wordHere_137 : decode cX8_wordHere 137 = .ok (.istore 4, 2) := by decide +kernel
theorem dX8_wordHere_139 : decode cX8_wordHere 139 = .ok (.iload_n 3, 1) := by decide +kernel
theorem dX8_wordHere_140 : decode cX8_wordHere 140 = .ok (.ifCond .eq 48, 3) := by decide +kernel
theorem dX8_wordHere_143 : decode cX8_wordHere 143 = .ok (.iload 4, 2) := by decide +kernel
theorem dX8_wordHere_145 : decode cX8_wordHere 145 = .ok (.iload_n 2, 1) := by decide +kernel
theorem dX8_wordHere_146 : decode cX8_wordHere 146 = .ok (.if_icmp .ge 42, 3) := by decide +kernel
theorem dX8_wordHere_149 : decode cX8_wordHere 149 = .ok (.aload_n 0, 1) := by decide +kernel
theorem dX8_wordHere_150 : decode cX8_wordHere 150 = .ok (.getfield 100, 3) := by decide +kernel
theorem dX8_wordHere_153 : decode cX8_wordHere 153 = .ok (.bipush 6, 2) := by decide +kernel
theorem dX8_wordHere_155 : decode cX8_wordHere 155 = .ok (.iload_n 1, 1) := by decide +kernel
theorem dX8_wordHere_156 : decode cX8_wordHere 156 = .ok (.imul, 1) := by decide +kernel
theorem dX8_wordHere_157 : decode cX8_wordHere 157 = .ok (.iload 4, 2) := by decide +kernel
theorem dX8_wordHere_159 : decode cX8_wordHere 159 = .ok (.iadd, 1) := by decide +kernel
theorem dX8_wordHere_160 : decode cX8_wordHere 160 = .ok (.baload, 1) := by decide +kernel
theorem dX8_wordHere_161 : decode cX8_wordHere 161 = .ok (.aload_n 0, 1) := by decide +kernel
theorem dX8_wordHere_162 : decode cX8_wordHere 162 = .ok (.getfield 78, 3) := by decide +kernel
theorem dX8_wordHere_165 : decode cX8_wordHere 165 = .ok (.aload_n 0, 1) := by decide +kernel
theorem dX8_wordHere_166 : decode cX8_wordHere 166 = .ok (.getfield 155, 3) := by decide +kernel
theorem dX8_wordHere_169 : decode cX8_wordHere 169 = .ok (.iload 4, 2) := by decide +kernel
theorem dX8_wordHere_171 : decode cX8_wordHere 171 = .ok (.iadd, 1) := by decide +kernel
theorem dX8_wordHere_172 : decode cX8_wordHere 172 = .ok (.baload, 1) := by decide +kernel
theorem dX8_wordHere_173 : decode cX8_wordHere 173 = .ok (.if_icmp .ne 7, 3) := by decide +kernel
theorem dX8_wordHere_176 : decode cX8_wordHere 176 = .ok (.iconst 1, 1) := by decide +kernel
theorem dX8_wordHere_177 : decode cX8_wordHere 177 = .ok (.goto 4, 3) := by decide +kernel
theorem dX8_wordHere_180 : decode cX8_wordHere 180 = .ok (.iconst 0, 1) := by decide +kernel
theorem dX8_wordHere_181 : decode cX8_wordHere 181 = .ok (.istore_n 3, 1) := by decide +kernel
theorem dX8_wordHere_182 : decode cX8_wordHere 182 = .ok (.iinc 4 1, 3) := by decide +kernel
theorem dX8_wordHere_185 : decode cX8_wordHere 185 = .ok (.goto (-46), 3) := by decide +kernel
theorem dX8_wordHere_188 : decode cX8_wordHere 188 = .ok (.iload_n 3, 1) := by decide +kernel
theorem dX8_wordHere_189 : decode cX8_wordHere 189 = .ok (.ifCond .eq 5, 3) := by decide +kernel
theorem dX8_wordHere_192 : decode cX8_wordHere 192 = .ok (.iload_n 1, 1) := by decide +kernel
theorem dX8_wordHere_193 : decode cX8_wordHere 193 = .ok (.ireturn, 1) := by decide +kernel
theorem dX8_wordHere_194 : decode cX8_wordHere 194 = .ok (.iinc 1 1, 3) := by decide +kernel
theorem dX8_wordHere_197 : decode cX8_wordHere 197 = .ok (.goto (-118), 3) := by decide +kernel
theorem dX8_wordHere_200 : decode cX8_wordHere 200 = .ok (.iconst (-1), 1) := by decide +kernel
theorem dX8_wordHere_201 : decode cX8_wordHere 201 = .ok (.ireturn, 1) := by decide +kernel
