theorem dX11_init_0 : decode cX11_init 0 = .ok (.aload_n 0, 1) := by decide +kernel
theorem dX11_init_1 : decode cX11_init 1 = .ok (.invokespecial 3, 3) := by decide +kernel
theorem dX11_init_4 : decode cX11_init 4 = .ok (.aload_n 0, 1) := by decide +kernel
theorem dX11_init_5 : decode cX11_init 5 = .ok (.bipush 8, 2) := by decide +kernel
theorem dX11_init_7 : decode cX11_init 7 = .ok (.anewarray 9, 3) := by decide +kernel
theorem dX11_init_10 : decode cX11_init 10 = .ok (.putfield 11, 3) := by decide +kernel
theorem dX11_init_13 : decode cX11_init 13 = .ok (.aload_n 0, 1) := by decide +kernel
theorem dX11_init_14 : decode cX11_init 14 = .ok (.new 15, 3) := by decide +kernel
theorem dX11_init_17 : decode cX11_init 17 = .ok (.dup, 1) := by decide +kernel
theorem dX11_init_18 : decode cX11_init 18 = .ok (.invokespecial 17, 3) := by decide +kernel
theorem dX11_init_21 : decode cX11_init 21 = .ok (.putfield 18, 3) := by decide +kernel
theorem dX11_init_24 : decode cX11_init 24 = .ok (.aload_n 0, 1) := by decide +kernel
theorem dX11_init_25 : decode cX11_init 25 = .ok (.new 22, 3) := by decide +kernel
theorem dX11_init_28 : decode cX11_init 28 = .ok (.dup, 1) := by decide +kernel
theorem dX11_init_29 : decode cX11_init 29 = .ok (.invokespecial 24, 3) := by decide +kernel
theorem dX11_init_32 : decode cX11_init 32 = .ok (.putfield 25, 3) := by decide +kernel
theorem dX11_init_35 : decode cX11_init 35 = .ok (.aload_n 0, 1) := by decide +kernel
theorem dX11_init_36 : decode cX11_init 36 = .ok (.new 22, 3) := by decide +kernel
theorem dX11_init_39 : decode cX11_init 39 = .ok (.dup, 1) := by decide +kernel
theorem dX11_init_40 : decode cX11_init 40 = .ok (.invokespecial 24, 3) := by decide +kernel
theorem dX11_init_43 : decode cX11_init 43 = .ok (.putfield 29, 3) := by decide +kernel
theorem dX11_init_46 : decode cX11_init 46 = .ok (.aload_n 0, 1) := by decide +kernel
theorem dX11_init_47 : decode cX11_init 47 = .ok (.new 32, 3) := by decide +kernel
theorem dX11_init_50 : decode cX11_init 50 = .ok (.dup, 1) := by decide +kernel
theorem dX11_init_51 : decode cX11_init 51 = .ok (.invokespecial 34, 3) := by decide +kernel
theorem dX11_init_54 : decode cX11_init 54 = .ok (.putfield 35, 3) := by decide +kernel
theorem dX11_init_57 : decode cX11_init 57 = .ok (.aload_n 0, 1) := by decide +kernel
theorem dX11_init_58 : decode cX11_init 58 = .ok (.new 39, 3) := by decide +kernel
theorem dX11_init_61 : decode cX11_init 61 = .ok (.dup, 1) := by decide +kernel
theorem dX11_init_62 : decode cX11_init 62 = .ok (.invokespecial 41, 3) := by decide +kernel
theorem dX11_init_65 : decode cX11_init 65 = .ok (.putfield 42, 3) := by decide +kernel
theorem dX11_init_68 : decode cX11_init 68 = .ok (.aload_n 0, 1) := by decide +kernel
theorem dX11_init_69 : decode cX11_init 69 = .ok (.new 46, 3) := by decide +kernel
theorem dX11_init_72 : decode cX11_init 72 = .ok (.dup, 1) := by decide +kernel
theorem dX11_init_73 : decode cX11_init 73 = .ok (.invokespecial 48, 3) := by decide +kernel
theorem dX11_init_76 : decode cX11_init 76 = .ok (.putfield 49, 3) := by decide +kernel
theorem dX11_init_79 : decode cX11_init 79 = .ok (.aload_n 0, 1) := by decide +kernel
theorem dX11_init_80 : decode cX11_init 80 = .ok (.new 53, 3) := by decide +kernel
theorem dX11_init_83 : decode cX11_init 83 = .ok (.dup, 1) := by decide +kernel
theorem dX11_init_84 : decode cX11_init 84 = .ok (.aload_n 0, 1) := by decide +kernel
theorem dX11_init_85 : decode cX11_init 85 = .ok (.getfield 35, 3) := by decide +kernel
theorem dX11_init_88 : decode cX11_init 88 = .ok (.aload_n 0, 1) := by decide +kernel
theorem dX11_init_89 : decode cX11_init 89 = .ok (.getfield 49, 3) := by decide +kernel
theorem dX11_init_92 : decode cX11_init 92 = .ok (.invokespecial 55, 3) := by decide +kernel
theorem dX11_init_95 : decode cX11_init 95 = .ok (.putfield 58, 3) := by decide +kernel
theorem dX11_init_98 : decode cX11_init 98 = .ok (.aload_n 0, 1) := by decide +kernel
theorem dX11_init_99 : decode cX11_init 99 = .ok (.new 53, 3) := by decide +kernel
theorem dX11_init_102 : decode cX11_init 102 = .ok (.dup, 1) := by decide +kernel
theorem dX11_init_103 : decode cX11_init 103 = .ok (.aload_n 0, 1) := by decide +kernel
theorem dX11_init_104 : decode cX11_init 104 = .ok (.getfield 35, 3) := by decide +kernel
theorem dX11_init_107 : decode cX11_init 107 = .ok (.aload_n 0, 1) := by decide +kernel
theorem dX11_init_108 : decode cX11_init 108 = .ok (.getfield 49, 3) := by decide +kernel
theorem dX11_init_111 : decode cX11_init 111 = .ok (.invokespecial 55, 3) := by decide +kernel
theorem dX11_init_114 : decode cX11_init 114 = .ok (.putfield 62, 3) := by decide +kernel
theorem dX11_init_117 : decode cX11_init 117 = .ok (.aload_n 0, 1) := by decide +kernel
theorem dX11_init_118 : decode cX11_init 118 = .ok (.new 65, 3) := by decide +kernel
theorem dX11_init_121 : decode cX11_init 121 = .ok (.dup, 1) := by decide +kernel
theorem dX11_init_122 : decode cX11_init 122 = .ok (.invokespecial 67, 3) := by decide +kernel
theorem dX11_init_125 : decode cX11_init 125 = .ok (.putfield 68, 3) := by decide +kernel
theorem dX11_init_128 : decode cX11_init 128 = .ok (.aload_n 0, 1) := by decide +kernel
theorem dX11_init_129 : decode cX11_init 129 = .ok (.new 72, 3) := by decide +kernel
theorem dX11_init_132 : decode cX11_init 132 = .ok (.dup, 1) := by decide +kernel
theorem dX11_init_133 : decode cX11_init 133 = .ok (.invokespecial 74, 3) := by decide +kernel
theorem dX11_init_136 : decode cX11_init 136 = .ok (.putfield 75, 3) := by decide +kernel
theorem dX11_init_139 : decode cX11_init 139 = .ok (.aload_n 0, 1) := by decide +kernel
theorem dX11_init_140 : decode cX11_init 140 = .ok (.new 79, 3) := by decide +kernel
theorem dX11_init_143 : decode cX11_init 143 = .ok (.dup, 1) := by decide +kernel
theorem dX11_init_144 : decode cX11_init 144 = .ok (.invokespecial 81, 3) := by decide +kernel
theorem dX11_init_147 : decode cX11_init 147 = .ok (.putfield 82, 3) := by decide +kernel
theorem dX11_init_150 : decode cX11_init 150 = .ok (.aload_n 0, 1) := by decide +kernel
theorem dX11_init_151 : decode cX11_init 151 = .ok (.new 86, 3) := by decide +kernel
theorem dX11_init_154 : decode cX11_init 154 = .ok (.dup, 1) := by decide +kernel
theorem dX11_init_155 : decode cX11_init 155 = .ok (.invokespecial 88, 3) := by decide +kernel
theorem dX11_init_158 : decode cX11_init 158 = .ok (.putfield 89, 3) := by decide +kernel
theorem dX11_init_161 : decode cX11_init 161 = .ok (.iconst 0, 1) := by decide +kernel
theorem dX11_init_162 : decode cX11_init 162 = .ok (.istore_n 1, 1) := by decide +kernel
theorem dX11_init_163 : decode cX11_init 163 = .ok (.iload_n 1, 1) := by decide +kernel
theorem dX11_init_164 : decode cX11_init 164 = .ok (.bipush 8, 2) := by decide +kernel
theorem dX11_init_166 : decode cX11_init 166 = .ok (.if_icmp .ge 22, 3) := by decide +kernel
theorem dX11_init_169 : decode cX11_init 169 = .ok (.aload_n 0, 1) := by decide +kernel
theorem dX11_init_170 : decode cX11_init 170 = .ok (.getfield 11, 3) := by decide +kernel
theorem dX11_init_173 : decode cX11_init 173 = .ok (.iload_n 1, 1) := by decide +kernel
theorem dX11_init_174 : decode cX11_init 174 = .ok (.new 9, 3) := by decide +kernel
theorem dX11_init_177 : decode cX11_init 177 = .ok (.dup, 1) := by decide +kernel
theorem dX11_init_178 : decode cX11_init 178 = .ok (.invokespecial 93, 3) := by decide +kernel
theorem dX11_init_181 : decode cX11_init 181 = .ok (.aastore, 1) := by decide +kernel
theorem dX11_init_182 : decode cX11_init 182 = .ok (.iinc 1 1, 3) := by decide +kernel
theorem dX11_init_185 : decode cX11_init 185 = .ok (.goto (-22), 3) := by decide +kernel
theorem dX11_init_188 : decode cX11_init 188 = .ok (.return_, 1) := by decide +kernel
theorem dX11_row_0 : decode cX11_row 0 = .ok (.iload_n 1, 1) := by decide +kernel
theorem dX11_row_1 : decode cX11_row 1 = .ok (.invokestatic 94, 3) := by decide +kernel
theorem dX11_row_4 : decode cX11_row 4 = .ok (.ifCond .eq 18, 3) := by decide +kernel
theorem dX11_row_7 : decode cX11_row 7 = .ok (.iload_n 2, 1) := by decide +kernel
theorem dX11_row_8 : decode cX11_row 8 = .ok (.iconst 0, 1) := by decide +kernel
theorem dX11_row_9 : decode cX11_row 9 = .ok (.iconst 2, 1) := by decide +kernel
theorem dX11_row_10 : decode cX11_row 10 = .ok (.invokestatic 98, 3) := by decide +kernel
theorem dX11_row_13 : decode cX11_row 13 = .ok (.ifCond .eq 9, 3) := by decide +kernel
theorem dX11_row_16 : decode cX11_row 16 = .ok (.iload_n 3, 1) := by decide +kernel
theorem dX11_row_17 : decode cX11_row 17 = .ok (.bipush 20, 2) := by decide +kernel
theorem dX11_row_19 : decode cX11_row 19 = .ok (.if_icmp .le 7, 3) := by decide +kernel
theorem dX11_row_22 : decode cX11_row 22 = .ok (.ldc2_w 102, 3) := by decide +kernel
theorem dX11_row_25 : decode cX11_row 25 = .ok (.lreturn, 1) := by decide +kernel
theorem dX11_row_26 : decode cX11_row 26 = .ok (.iload_n 3, 1) := by decide +kernel
theorem dX11_row_27 : decode cX11_row 27 = .ok (.ifCond .ge 9, 3) := by decide +kernel
theorem dX11_row_30 : decode cX11_row 30 = .ok (.aload_n 0, 1) := by decide +kernel
theorem dX11_row_31 : decode cX11_row 31 = .ok (.iconst 4, 1) := by decide +kernel
theorem dX11_row_32 : decode cX11_row 32 = .ok (.invokevirtual 104, 3) := by decide +kernel
theorem dX11_row_35 : decode cX11_row 35 = .ok (.lreturn, 1) := by decide +kernel
theorem dX11_row_36 : decode cX11_row 36 = .ok (.aload_n 0, 1) := by decide +kernel
theorem dX11_row_37 : decode cX11_row 37 = .ok (.getfield 11, 3) := by decide +kernel
theorem dX11_row_40 : decode cX11_row 40 = .ok (.iload_n 1, 1) := by decide +kernel
theorem dX11_row_41 : decode cX11_row 41 = .ok (.aaload, 1) := by decide +kernel
theorem dX11_row_42 : decode cX11_row 42 = .ok (.iload_n 2, 1) := by decide +kernel
theorem dX11_row_43 : decode cX11_row 43 = .ok (.iload_n 3, 1) := by decide +kernel
theorem dX11_row_44 : decode cX11_row 44 = .ok (.invokevirtual 108, 3) := by decide +kernel
theorem dX11_row_47 : decode cX11_row 47 = .ok (.aload_n 0, 1) := by decide +kernel
theorem dX11_row_48 : decode cX11_row 48 = .ok (.iload_n 3, 1) := by decide +kernel
theorem dX11_row_49 : decode cX11_row 49 = .ok (.i2l, 1) := by decide +kernel
theorem dX11_row_50 : decode cX11_row 50 = .ok (.invokevirtual 112, 3) := by decide +kernel
theorem dX11_row_53 : decode cX11_row 53 = .ok (.lreturn, 1) := by decide +kernel
theorem dX11_set_0 : decode cX11_set 0 = .ok (.iload_n 1, 1) := by decide +kernel
theorem dX11_set_1 : decode cX11_set 1 = .ok (.invokestatic 94, 3) := by decide +kernel
theorem dX11_set_4 : decode cX11_set 4 = .ok (.ifCond .ne 7, 3) := by decide +kernel
theorem dX11_set_7 : decode cX11_set 7 = .ok (.ldc2_w 102, 3) := by decide +kernel
theorem dX11_set_10 : decode cX11_set 10 = .ok (.lreturn, 1) := by decide +kernel
theorem dX11_set_11 : decode cX11_set 11 = .ok (.aload_n 0, 1) := by decide +kernel
theorem dX11_set_12 : decode cX11_set 12 = .ok (.getfield 11, 3) := by decide +kernel
theorem dX11_set_15 : decode cX11_set 15 = .ok (.iload_n 1, 1) := by decide +kernel
theorem dX11_set_16 : decode cX11_set 16 = .ok (.aaload, 1) := by decide +kernel
theorem dX11_set_17 : decode cX11_set 17 = .ok (.astore 4, 2) := by decide +kernel
theorem dX11_set_19 : decode cX11_set 19 = .ok (.aload 4, 2) := by decide +kernel
theorem dX11_set_21 : decode cX11_set 21 = .ok (.getfield 116, 3) := by decide +kernel
theorem dX11_set_24 : decode cX11_set 24 = .ok (.ifCond .ne 9, 3) := by decide +kernel
theorem dX11_set_27 : decode cX11_set 27 = .ok (.aload_n 0, 1) := by decide +kernel
theorem dX11_set_28 : decode cX11_set 28 = .ok (.iconst 1, 1) := by decide +kernel
theorem dX11_set_29 : decode cX11_set 29 = .ok (.invokevirtual 104, 3) := by decide +kernel
theorem dX11_set_32 : decode cX11_set 32 = .ok (.lreturn, 1) := by decide +kernel
theorem dX11_set_33 : decode cX11_set 33 = .ok (.aload 4, 2) := by decide +kernel
theorem dX11_set_35 : decode cX11_set 35 = .ok (.iload_n 2, 1) := by decide +kernel
theorem dX11_set_36 : decode cX11_set 36 = .ok (.iconst 1, 1) := by decide +kernel
theorem dX11_set_37 : decode cX11_set 37 = .ok (.invokevirtual 120, 3) := by decide +kernel
theorem dX11_set_40 : decode cX11_set 40 = .ok (.ifCond .ne 9, 3) := by decide +kernel
theorem dX11_set_43 : decode cX11_set 43 = .ok (.aload_n 0, 1) := by decide +kernel
theorem dX11_set_44 : decode cX11_set 44 = .ok (.iconst 2, 1) := by decide +kernel
theorem dX11_set_45 : decode cX11_set 45 = .ok (.invokevirtual 104, 3) := by decide +kernel
theorem dX11_set_48 : decode cX11_set 48 = .ok (.lreturn, 1) := by decide +kernel
theorem dX11_set_49 : decode cX11_set 49 = .ok (.aload_n 0, 1) := by decide +kernel
theorem dX11_set_50 : decode cX11_set 50 = .ok (.aload 4, 2) := by decide +kernel
theorem dX11_set_52 : decode cX11_set 52 = .ok (.iload_n 2, 1) := by decide +kernel
theorem dX11_set_53 : decode cX11_set 53 = .ok (.iload_n 3, 1) := by decide +kernel
theorem dX11_set_54 : decode cX11_set 54 = .ok (.invokevirtual 124, 3) := by decide +kernel
theorem dX11_set_57 : decode cX11_set 57 = .ok (.i2l, 1) := by decide +kernel
theorem dX11_set_58 : decode cX11_set 58 = .ok (.invokevirtual 112, 3) := by decide +kernel
theorem dX11_set_61 : decode cX11_set 61 = .ok (.lreturn, 1) := by decide +kernel
theorem dX11_copy_0 : decode cX11_copy 0 = .ok (.iload_n 1, 1) := by decide +kernel
theorem dX11_copy_1 : decode cX11_copy 1 = .ok (.invokestatic 94, 3) := by decide +kernel
theorem dX11_copy_4 : decode cX11_copy 4 = .ok (.ifCond .eq 10, 3) := by decide +kernel
theorem dX11_copy_7 : decode cX11_copy 7 = .ok (.iload_n 3, 1) := by decide +kernel
theorem dX11_copy_8 : decode cX11_copy 8 = .ok (.invokestatic 94, 3) := by decide +kernel
theorem dX11_copy_11 : decode cX11_copy 11 = .ok (.ifCond .ne 7, 3) := by decide +kernel
theorem dX11_copy_14 : decode cX11_copy 14 = .ok (.ldc2_w 102, 3) := by decide +kernel
theorem dX11_copy_17 : decode cX11_copy 17 = .ok (.lreturn, 1) := by decide +kernel
theorem dX11_copy_18 : decode cX11_copy 18 = .ok (.aload_n 0, 1) := by decide +kernel
theorem dX11_copy_19 : decode cX11_copy 19 = .ok (.getfield 11, 3) := by decide +kernel
theorem dX11_copy_22 : decode cX11_copy 22 = .ok (.iload_n 1, 1) := by decide +kernel
theorem dX11_copy_23 : decode cX11_copy 23 = .ok (.aaload, 1) := by decide +kernel
theorem dX11_copy_24 : decode cX11_copy 24 = .ok (.astore 6, 2) := by decide +kernel
theorem dX11_copy_26 : decode cX11_copy 26 = .ok (.aload_n 0, 1) := by decide +kernel
theorem dX11_copy_27 : decode cX11_copy 27 = .ok (.getfield 11, 3) := by decide +kernel
theorem dX11_copy_30 : decode cX11_copy 30 = .ok (.iload_n 3, 1) := by decide +kernel
theorem dX11_copy_31 : decode cX11_copy 31 = .ok (.aaload, 1) := by decide +kernel
theorem dX11_copy_32 : decode cX11_copy 32 = .ok (.astore 7, 2) := by decide +kernel
theorem dX11_copy_34 : decode cX11_copy 34 = .ok (.aload 6, 2) := by decide +kernel
theorem dX11_copy_36 : decode cX11_copy 36 = .ok (.getfield 116, 3) := by decide +kernel
theorem dX11_copy_39 : decode cX11_copy 39 = .ok (.ifCond .eq 11, 3) := by decide +kernel
theorem dX11_copy_42 : decode cX11_copy 42 = .ok (.aload 7, 2) := by decide +kernel
theorem dX11_copy_44 : decode cX11_copy 44 = .ok (.getfield 116, 3) := by decide +kernel
theorem dX11_copy_47 : decode cX11_copy 47 = .ok (.ifCond .ne 9, 3) := by decide +kernel
theorem dX11_copy_50 : decode cX11_copy 50 = .ok (.aload_n 0, 1) := by decide +kernel
theorem dX11_copy_51 : decode cX11_copy 51 = .ok (.iconst 1, 1) := by decide +kernel
theorem dX11_copy_52 : decode cX11_copy 52 = .ok (.invokevirtual 104, 3) := by decide +kernel
theorem dX11_copy_55 : decode cX11_copy 55 = .ok (.lreturn, 1) := by decide +kernel
theorem dX11_copy_56 : decode cX11_copy 56 = .ok (.aload 6, 2) := by decide +kernel
theorem dX11_copy_58 : decode cX11_copy 58 = .ok (.getfield 128, 3) := by decide +kernel
theorem dX11_copy_61 : decode cX11_copy 61 = .ok (.aload 7, 2) := by decide +kernel
theorem dX11_copy_63 : decode cX11_copy 63 = .ok (.getfield 128, 3) := by decide +kernel
theorem dX11_copy_66 : decode cX11_copy 66 = .ok (.if_icmp .eq 9, 3) := by decide +kernel
theorem dX11_copy_69 : decode cX11_copy 69 = .ok (.aload_n 0, 1) := by decide +kernel
theorem dX11_copy_70 : decode cX11_copy 70 = .ok (.iconst 5, 1) := by decide +kernel
theorem dX11_copy_71 : decode cX11_copy 71 = .ok (.invokevirtual 104, 3) := by decide +kernel
theorem dX11_copy_74 : decode cX11_copy 74 = .ok (.lreturn, 1) := by decide +kernel
theorem dX11_copy_75 : decode cX11_copy 75 = .ok (.aload 6, 2) := by decide +kernel
theorem dX11_copy_77 : decode cX11_copy 77 = .ok (.iload_n 2, 1) := by decide +kernel
theorem dX11_copy_78 : decode cX11_copy 78 = .ok (.iload 5, 2) := by decide +kernel
theorem dX11_copy_80 : decode cX11_copy 80 = .ok (.invokevirtual 120, 3) := by decide +kernel
theorem dX11_copy_83 : decode cX11_copy 83 = .ok (.ifCond .eq 15, 3) := by decide +kernel
theorem dX11_copy_86 : decode cX11_copy 86 = .ok (.aload 7, 2) := by decide +kernel
theorem dX11_copy_88 : decode cX11_copy 88 = .ok (.iload 4, 2) := by decide +kernel
theorem dX11_copy_90 : decode cX11_copy 90 = .ok (.iload 5, 2) := by decide +kernel
theorem dX11_copy_92 : decode cX11_copy 92 = .ok (.invokevirtual 120, 3) := by decide +kernel
theorem dX11_copy_95 : decode cX11_copy 95 = .ok (.ifCond .ne 9, 3) := by decide +kernel
theorem dX11_copy_98 : decode cX11_copy 98 = .ok (.aload_n 0, 1) := by decide +kernel
theorem dX11_copy_99 : decode cX11_copy 99 = .ok (.iconst 2, 1) := by decide +kernel
theorem dX11_copy_100 : decode cX11_copy 100 = .ok (.invokevirtual 104, 3) := by decide +kernel
theorem dX11_copy_103 : decode cX11_copy 103 = .ok (.lreturn, 1) := by decide +kernel
theorem dX11_copy_104 : decode cX11_copy 104 = .ok (.aload 6, 2) := by decide +kernel
theorem dX11_copy_106 : decode cX11_copy 106 = .ok (.getfield 132, 3) := by decide +kernel
theorem dX11_copy_109 : decode cX11_copy 109 = .ok (.iload_n 2, 1) := by decide +kernel
theorem dX11_copy_110 : decode cX11_copy 110 = .ok (.aload 7, 2) := by decide +kernel
theorem dX11_copy_112 : decode cX11_copy 112 = .ok (.getfield 132, 3) := by decide +kernel
theorem dX11_copy_115 : decode cX11_copy 115 = .ok (.iload 4, 2) := by decide +kernel
theorem dX11_copy_117 : decode cX11_copy 117 = .ok (.iload 5, 2) := by decide +kernel
theorem dX11_copy_119 : decode cX11_copy 119 = .ok (.invokestatic 136, 3) := by decide +kernel
theorem dX11_copy_122 : decode cX11_copy 122 = .ok (.aload_n 0, 1) := by decide +kernel
theorem dX11_copy_123 : decode cX11_copy 123 = .ok (.iload 5, 2) := by decide +kernel
theorem dX11_copy_125 : decode cX11_copy 125 = .ok (.i2l, 1) := by decide +kernel
theorem dX11_copy_126 : decode cX11_copy 126 = .ok (.invokevirtual 112, 3) := by decide +kernel
theorem dX11_copy_129 : decode cX11_copy 129 = .ok (.lreturn, 1) := by decide +kernel
theorem dX11_drop_0 : decode cX11_drop 0 = .ok (.iload_n 1, 1) := by decide +kernel
theorem dX11_drop_1 : decode cX11_drop 1 = .ok (.invokestatic 94, 3) := by decide +kernel
theorem dX11_drop_4 : decode cX11_drop 4 = .ok (.ifCond .ne 7, 3) := by decide +kernel
theorem dX11_drop_7 : decode cX11_drop 7 = .ok (.ldc2_w 102, 3) := by decide +kernel
theorem dX11_drop_10 : decode cX11_drop 10 = .ok (.lreturn, 1) := by decide +kernel
theorem dX11_drop_11 : decode cX11_drop 11 = .ok (.aload_n 0, 1) := by decide +kernel
theorem dX11_drop_12 : decode cX11_drop 12 = .ok (.getfield 11, 3) := by decide +kernel
theorem dX11_drop_15 : decode cX11_drop 15 = .ok (.iload_n 1, 1) := by decide +kernel
theorem dX11_drop_16 : decode cX11_drop 16 = .ok (.aaload, 1) := by decide +kernel
theorem dX11_drop_17 : decode cX11_drop 17 = .ok (.astore_n 2, 1) := by decide +kernel
theorem dX11_drop_18 : decode cX11_drop 18 = .ok (.aload_n 2, 1) := by decide +kernel
theorem dX11_drop_19 : decode cX11_drop 19 = .ok (.getfield 116, 3) := by decide +kernel
theorem dX11_drop_22 : decode cX11_drop 22 = .ok (.ifCond .ne 9, 3) := by decide +kernel
theorem dX11_drop_25 : decode cX11_drop 25 = .ok (.aload_n 0, 1) := by decide +kernel
theorem dX11_drop_26 : decode cX11_drop 26 = .ok (.iconst 1, 1) := by decide +kernel
theorem dX11_drop_27 : decode cX11_drop 27 = .ok (.invokevirtual 104, 3) := by decide +kernel
theorem dX11_drop_30 : decode cX11_drop 30 = .ok (.lreturn, 1) := by decide +kernel
theorem dX11_drop_31 : decode cX11_drop 31 = .ok (.aload_n 2, 1) := by decide +kernel
theorem dX11_drop_32 : decode cX11_drop 32 = .ok (.iconst 0, 1) := by decide +kernel
theorem dX11_drop_33 : decode cX11_drop 33 = .ok (.putfield 116, 3) := by decide +kernel
theorem dX11_drop_36 : decode cX11_drop 36 = .ok (.aload_n 0, 1) := by decide +kernel
theorem dX11_drop_37 : decode cX11_drop 37 = .ok (.aload_n 2, 1) := by decide +kernel
theorem dX11_drop_38 : decode cX11_drop 38 = .ok (.getfield 142, 3) := by decide +kernel
theorem dX11_drop_41 : decode cX11_drop 41 = .ok (.i2l, 1) := by decide +kernel
theorem dX11_drop_42 : decode cX11_drop 42 = .ok (.invokevirtual 112, 3) := by decide +kernel
theorem dX11_drop_45 : decode cX11_drop 45 = .ok (.lreturn, 1) := by decide +kernel
theorem dX11_feed_0 : decode cX11_feed 0 = .ok (.iload_n 3, 1) := by decide +kernel
theorem dX11_feed_1 : decode cX11_feed 1 = .ok (.iconst 1, 1) := by decide +kernel
theorem dX11_feed_2 : decode cX11_feed 2 = .ok (.bipush 8, 2) := by decide +kernel
theorem dX11_feed_4 : decode cX11_feed 4 = .ok (.invokestatic 98, 3) := by decide +kernel
theorem dX11_feed_7 : decode cX11_feed 7 = .ok (.ifCond .ne 7, 3) := by decide +kernel
theorem dX11_feed_10 : decode cX11_feed 10 = .ok (.ldc2_w 102, 3) := by decide +kernel
theorem dX11_feed_13 : decode cX11_feed 13 = .ok (.lreturn, 1) := by decide +kernel
theorem dX11_feed_14 : decode cX11_feed 14 = .ok (.iload_n 3, 1) := by decide +kernel
theorem dX11_feed_15 : decode cX11_feed 15 = .ok (.sipush 300, 3) := by decide +kernel
theorem dX11_feed_18 : decode cX11_feed 18 = .ok (.aload_n 0, 1) := by decide +kernel
theorem dX11_feed_19 : decode cX11_feed 19 = .ok (.getfield 18, 3) := by decide +kernel
theorem dX11_feed_22 : decode cX11_feed 22 = .ok (.getfield 145, 3) := by decide +kernel
theorem dX11_feed_25 : decode cX11_feed 25 = .ok (.isub, 1) := by decide +kernel
theorem dX11_feed_26 : decode cX11_feed 26 = .ok (.if_icmp .le 7, 3) := by decide +kernel
theorem dX11_feed_29 : decode cX11_feed 29 = .ok (.ldc2_w 146, 3) := by decide +kernel
theorem dX11_feed_32 : decode cX11_feed 32 = .ok (.lreturn, 1) := by decide +kernel
theorem dX11_feed_33 : decode cX11_feed 33 = .ok (.aload_n 0, 1) := by decide +kernel
theorem dX11_feed_34 : decode cX11_feed 34 = .ok (.getfield 18, 3) := by decide +kernel
theorem dX11_feed_37 : decode cX11_feed 37 = .ok (.lload_n 1, 1) := by decide +kernel
theorem dX11_feed_38 : decode cX11_feed 38 = .ok (.iload_n 3, 1) := by decide +kernel
theorem dX11_feed_39 : decode cX11_feed 39 = .ok (.invokevirtual 148, 3) := by decide +kernel
theorem dX11_feed_42 : decode cX11_feed 42 = .ok (.aload_n 0, 1) := by decide +kernel
theorem dX11_feed_43 : decode cX11_feed 43 = .ok (.getfield 18, 3) := by decide +kernel
theorem dX11_feed_46 : decode cX11_feed 46 = .ok (.getfield 145, 3) := by decide +kernel
theorem dX11_feed_49 : decode cX11_feed 49 = .ok (.i2l, 1) := by decide +kernel
theorem dX11_feed_50 : decode cX11_feed 50 = .ok (.lreturn, 1) := by decide +kernel
theorem dX11_stencils_0 : decode cX11_stencils 0 = .ok (.aload_n 0, 1) := by decide +kernel
theorem dX11_stencils_1 : decode cX11_stencils 1 = .ok (.getfield 18, 3) := by decide +kernel
theorem dX11_stencils_4 : decode cX11_stencils 4 = .ok (.aload_n 0, 1) := by decide +kernel
theorem dX11_stencils_5 : decode cX11_stencils 5 = .ok (.getfield 29, 3) := by decide +kernel
theorem dX11_stencils_8 : decode cX11_stencils 8 = .ok (.invokevirtual 152, 3) := by decide +kernel
theorem dX11_stencils_11 : decode cX11_stencils 11 = .ok (.istore_n 1, 1) := by decide +kernel
theorem dX11_stencils_12 : decode cX11_stencils 12 = .ok (.aload_n 0, 1) := by decide +kernel
theorem dX11_stencils_13 : decode cX11_stencils 13 = .ok (.getfield 18, 3) := by decide +kernel
theorem dX11_stencils_16 : decode cX11_stencils 16 = .ok (.iconst 0, 1) := by decide +kernel
theorem dX11_stencils_17 : decode cX11_stencils 17 = .ok (.putfield 145, 3) := by decide +kernel
theorem dX11_stencils_20 : decode cX11_stencils 20 = .ok (.iload_n 1, 1) := by decide +kernel
theorem dX11_stencils_21 : decode cX11_stencils 21 = .ok (.ifCond .ne 16, 3) := by decide +kernel
theorem dX11_stencils_24 : decode cX11_stencils 24 = .ok (.ldc2_w 156, 3) := by decide +kernel
theorem dX11_stencils_27 : decode cX11_stencils 27 = .ok (.aload_n 0, 1) := by decide +kernel
theorem dX11_stencils_28 : decode cX11_stencils 28 = .ok (.getfield 18, 3) := by decide +kernel
theorem dX11_stencils_31 : decode cX11_stencils 31 = .ok (.getfield 158, 3) := by decide +kernel
theorem dX11_stencils_34 : decode cX11_stencils 34 = .ok (.i2l, 1) := by decide +kernel
theorem dX11_stencils_35 : decode cX11_stencils 35 = .ok (.lsub, 1) := by decide +kernel
theorem dX11_stencils_36 : decode cX11_stencils 36 = .ok (.lreturn, 1) := by decide +kernel
theorem dX11_stencils_37 : decode cX11_stencils 37 = .ok (.aload_n 0, 1) := by decide +kernel
theorem dX11_stencils_38 : decode cX11_stencils 38 = .ok (.getfield 25, 3) := by decide +kernel
theorem dX11_stencils_41 : decode cX11_stencils 41 = .ok (.astore_n 2, 1) := by decide +kernel
theorem dX11_stencils_42 : decode cX11_stencils 42 = .ok (.aload_n 0, 1) := by decide +kernel
theorem dX11_stencils_43 : decode cX11_stencils 43 = .ok (.aload_n 0, 1) := by decide +kernel
theorem dX11_stencils_44 : decode cX11_stencils 44 = .ok (.getfield 29, 3) := by decide +kernel
theorem dX11_stencils_47 : decode cX11_stencils 47 = .ok (.putfield 25, 3) := by decide +kernel
theorem dX11_stencils_50 : decode cX11_stencils 50 = .ok (.aload_n 0, 1) := by decide +kernel
theorem dX11_stencils_51 : decode cX11_stencils 51 = .ok (.aload_n 2, 1) := by decide +kernel
theorem dX11_stencils_52 : decode cX11_stencils 52 = .ok (.putfield 29, 3) := by decide +kernel
theorem dX11_stencils_55 : decode cX11_stencils 55 = .ok (.aload_n 0, 1) := by decide +kernel
theorem dX11_stencils_56 : decode cX11_stencils 56 = .ok (.getfield 25, 3) := by decide +kernel
theorem dX11_stencils_59 : decode cX11_stencils 59 = .ok (.getfield 161, 3) := by decide +kernel
theorem dX11_stencils_62 : decode cX11_stencils 62 = .ok (.i2l, 1) := by decide +kernel
theorem dX11_stencils_63 : decode cX11_stencils 63 = .ok (.lreturn, 1) := by decide +kernel
theorem dX11_fault_0 : decode cX11_fault 0 = .ok (.aload_n 0, 1) := by decide +kernel
theorem dX11_fault_1 : decode cX11_fault 1 = .ok (.getfield 18, 3) := by decide +kernel
theorem dX11_fault_4 : decode cX11_fault 4 = .ok (.getfield 164, 3) := by decide +kernel
theorem dX11_fault_7 : decode cX11_fault 7 = .ok (.ireturn, 1) := by decide +kernel
theorem dX11_bay_0 : decode cX11_bay 0 = .ok (.iload_n 1, 1) := by decide +kernel
theorem dX11_bay_1 : decode cX11_bay 1 = .ok (.iconst 2, 1) := by decide +kernel
theorem dX11_bay_2 : decode cX11_bay 2 = .ok (.bipush 10, 2) := by decide +kernel
theorem dX11_bay_4 : decode cX11_bay 4 = .ok (.invokestatic 98, 3) := by decide +kernel
theorem dX11_bay_7 : decode cX11_bay 7 = .ok (.ifCond .ne 7, 3) := by decide +kernel
theorem dX11_bay_10 : decode cX11_bay 10 = .ok (.ldc2_w 102, 3) := by decide +kernel
theorem dX11_bay_13 : decode cX11_bay 13 = .ok (.lreturn, 1) := by decide +kernel
theorem dX11_bay_14 : decode cX11_bay 14 = .ok (.aload_n 0, 1) := by decide +kernel
theorem dX11_bay_15 : decode cX11_bay 15 = .ok (.getfield 35, 3) := by decide +kernel
theorem dX11_bay_18 : decode cX11_bay 18 = .ok (.getfield 167, 3) := by decide +kernel
theorem dX11_bay_21 : decode cX11_bay 21 = .ok (.istore_n 2, 1) := by decide +kernel
theorem dX11_bay_22 : decode cX11_bay 22 = .ok (.aload_n 0, 1) := by decide +kernel
theorem dX11_bay_23 : decode cX11_bay 23 = .ok (.getfield 35, 3) := by decide +kernel
theorem dX11_bay_26 : decode cX11_bay 26 = .ok (.iload_n 1, 1) := by decide +kernel
theorem dX11_bay_27 : decode cX11_bay 27 = .ok (.invokevirtual 170, 3) := by decide +kernel
theorem dX11_bay_30 : decode cX11_bay 30 = .ok (.iload_n 2, 1) := by decide +kernel
theorem dX11_bay_31 : decode cX11_bay 31 = .ok (.i2l, 1) := by decide +kernel
theorem dX11_bay_32 : decode cX11_bay 32 = .ok (.lreturn, 1) := by decide +kernel
theorem dX11_start_0 : decode cX11_start 0 = .ok (.iload_n 1, 1) := by decide +kernel
theorem dX11_start_1 : decode cX11_start 1 = .ok (.invokestatic 94, 3) := by decide +kernel
theorem dX11_start_4 : decode cX11_start 4 = .ok (.ifCond .ne 7, 3) := by decide +kernel
theorem dX11_start_7 : decode cX11_start 7 = .ok (.ldc2_w 102, 3) := by decide +kernel
theorem dX11_start_10 : decode cX11_start 10 = .ok (.lreturn, 1) := by decide +kernel
theorem dX11_start_11 : decode cX11_start 11 = .ok (.aload_n 0, 1) := by decide +kernel
theorem dX11_start_12 : decode cX11_start 12 = .ok (.getfield 11, 3) := by decide +kernel
theorem dX11_start_15 : decode cX11_start 15 = .ok (.iload_n 1, 1) := by decide +kernel
theorem dX11_start_16 : decode cX11_start 16 = .ok (.aaload, 1) := by decide +kernel
theorem dX11_start_17 : decode cX11_start 17 = .ok (.astore_n 3, 1) := by decide +kernel
theorem dX11_start_18 : decode cX11_start 18 = .ok (.aload_n 3, 1) := by decide +kernel
theorem dX11_start_19 : decode cX11_start 19 = .ok (.getfield 116, 3) := by decide +kernel
theorem dX11_start_22 : decode cX11_start 22 = .ok (.ifCond .ne 9, 3) := by decide +kernel
theorem dX11_start_25 : decode cX11_start 25 = .ok (.aload_n 0, 1) := by decide +kernel
theorem dX11_start_26 : decode cX11_start 26 = .ok (.iconst 1, 1) := by decide +kernel
theorem dX11_start_27 : decode cX11_start 27 = .ok (.invokevirtual 104, 3) := by decide +kernel
theorem dX11_start_30 : decode cX11_start 30 = .ok (.lreturn, 1) := by decide +kernel
theorem dX11_start_31 : decode cX11_start 31 = .ok (.aload_n 3, 1) := by decide +kernel
theorem dX11_start_32 : decode cX11_start 32 = .ok (.iload_n 2, 1) := by decide +kernel
theorem dX11_start_33 : decode cX11_start 33 = .ok (.aload_n 0, 1) := by decide +kernel
theorem dX11_start_34 : decode cX11_start 34 = .ok (.getfield 35, 3) := by decide +kernel
theorem dX11_start_37 : decode cX11_start 37 = .ok (.getfield 167, 3) := by decide +kernel
theorem dX11_start_40 : decode cX11_start 40 = .ok (.invokevirtual 120, 3) := by decide +kernel
theorem dX11_start_43 : decode cX11_start 43 = .ok (.ifCond .ne 9, 3) := by decide +kernel
theorem dX11_start_46 : decode cX11_start 46 = .ok (.aload_n 0, 1) := by decide +kernel
theorem dX11_start_47 : decode cX11_start 47 = .ok (.iconst 2, 1) := by decide +kernel
theorem dX11_start_48 : decode cX11_start 48 = .ok (.invokevirtual 104, 3) := by decide +kernel
theorem dX11_start_51 : decode cX11_start 51 = .ok (.lreturn, 1) := by decide +kernel
theorem dX11_start_52 : decode cX11_start 52 = .ok (.aload_n 3, 1) := by decide +kernel
theorem dX11_start_53 : decode cX11_start 53 = .ok (.getfield 132, 3) := by decide +kernel
theorem dX11_start_56 : decode cX11_start 56 = .ok (.iload_n 2, 1) := by decide +kernel
theorem dX11_start_57 : decode cX11_start 57 = .ok (.aload_n 0, 1) := by decide +kernel
theorem dX11_start_58 : decode cX11_start 58 = .ok (.getfield 35, 3) := by decide +kernel
theorem dX11_start_61 : decode cX11_start 61 = .ok (.getfield 173, 3) := by decide +kernel
theorem dX11_start_64 : decode cX11_start 64 = .ok (.iconst 0, 1) := by decide +kernel
theorem dX11_start_65 : decode cX11_start 65 = .ok (.aload_n 0, 1) := by decide +kernel
theorem dX11_start_66 : decode cX11_start 66 = .ok (.getfield 35, 3) := by decide +kernel
theorem dX11_start_69 : decode cX11_start 69 = .ok (.getfield 167, 3) := by decide +kernel
theorem dX11_start_72 : decode cX11_start 72 = .ok (.invokestatic 136, 3) := by decide +kernel
theorem dX11_start_75 : decode cX11_start 75 = .ok (.aload_n 0, 1) := by decide +kernel
theorem dX11_start_76 : decode cX11_start 76 = .ok (.aload_n 0, 1) := by decide +kernel
theorem dX11_start_77 : decode cX11_start 77 = .ok (.getfield 35, 3) := by decide +kernel
theorem dX11_start_80 : decode cX11_start 80 = .ok (.getfield 167, 3) := by decide +kernel
theorem dX11_start_83 : decode cX11_start 83 = .ok (.i2l, 1) := by decide +kernel
theorem dX11_start_84 : decode cX11_start 84 = .ok (.invokevirtual 112, 3) := by decide +kernel
theorem dX11_start_87 : decode cX11_start 87 = .ok (.lreturn, 1) := by decide +kernel
theorem dX11_strip_0 : decode cX11_strip 0 = .ok (.aload_n 0, 1) := by decide +kernel
theorem dX11_strip_1 : decode cX11_strip 1 = .ok (.getfield 35, 3) := by decide +kernel
theorem dX11_strip_4 : decode cX11_strip 4 = .ok (.iload_n 1, 1) := by decide +kernel
theorem dX11_strip_5 : decode cX11_strip 5 = .ok (.invokevirtual 176, 3) := by decide +kernel
theorem dX11_strip_8 : decode cX11_strip 8 = .ok (.ifCond .eq 13, 3) := by decide +kernel
theorem dX11_strip_11 : decode cX11_strip 11 = .ok (.iload_n 2, 1) := by decide +kernel
theorem dX11_strip_12 : decode cX11_strip 12 = .ok (.iconst 0, 1) := by decide +kernel
theorem dX11_strip_13 : decode cX11_strip 13 = .ok (.bipush 9, 2) := by decide +kernel
theorem dX11_strip_15 : decode cX11_strip 15 = .ok (.invokestatic 98, 3) := by decide +kernel
theorem dX11_strip_18 : decode cX11_strip 18 = .ok (.ifCond .ne 7, 3) := by decide +kernel
theorem dX11_strip_21 : decode cX11_strip 21 = .ok (.ldc2_w 102, 3) := by decide +kernel
theorem dX11_strip_24 : decode cX11_strip 24 = .ok (.lreturn, 1) := by decide +kernel
theorem dX11_strip_25 : decode cX11_strip 25 = .ok (.aload_n 0, 1) := by decide +kernel
theorem dX11_strip_26 : decode cX11_strip 26 = .ok (.getfield 35, 3) := by decide +kernel
theorem dX11_strip_29 : decode cX11_strip 29 = .ok (.getfield 178, 3) := by decide +kernel
theorem dX11_strip_32 : decode cX11_strip 32 = .ok (.iload_n 1, 1) := by decide +kernel
theorem dX11_strip_33 : decode cX11_strip 33 = .ok (.iaload, 1) := by decide +kernel
theorem dX11_strip_34 : decode cX11_strip 34 = .ok (.istore_n 3, 1) := by decide +kernel
theorem dX11_strip_35 : decode cX11_strip 35 = .ok (.aload_n 0, 1) := by decide +kernel
theorem dX11_strip_36 : decode cX11_strip 36 = .ok (.getfield 35, 3) := by decide +kernel
theorem dX11_strip_39 : decode cX11_strip 39 = .ok (.getfield 178, 3) := by decide +kernel
theorem dX11_strip_42 : decode cX11_strip 42 = .ok (.iload_n 1, 1) := by decide +kernel
theorem dX11_strip_43 : decode cX11_strip 43 = .ok (.iload_n 2, 1) := by decide +kernel
theorem dX11_strip_44 : decode cX11_strip 44 = .ok (.iastore, 1) := by decide +kernel
theorem dX11_strip_45 : decode cX11_strip 45 = .ok (.iload_n 3, 1) := by decide +kernel
theorem dX11_strip_46 : decode cX11_strip 46 = .ok (.i2l, 1) := by decide +kernel
theorem dX11_strip_47 : decode cX11_strip 47 = .ok (.lreturn, 1) := by decide +kernel
theorem dX11_edge_0 : decode cX11_edge 0 = .ok (.iload_n 1, 1) := by decide +kernel
theorem dX11_edge_1 : decode cX11_edge 1 = .ok (.iconst 0, 1) := by decide +kernel
theorem dX11_edge_2 : decode cX11_edge 2 = .ok (.iconst 1, 1) := by decide +kernel
theorem dX11_edge_3 : decode cX11_edge 3 = .ok (.invokestatic 98, 3) := by decide +kernel
theorem dX11_edge_6 : decode cX11_edge 6 = .ok (.ifCond .ne 7, 3) := by decide +kernel
theorem dX11_edge_9 : decode cX11_edge 9 = .ok (.ldc2_w 102, 3) := by decide +kernel
theorem dX11_edge_12 : decode cX11_edge 12 = .ok (.lreturn, 1) := by decide +kernel
theorem dX11_edge_13 : decode cX11_edge 13 = .ok (.aload_n 0, 1) := by decide +kernel
theorem dX11_edge_14 : decode cX11_edge 14 = .ok (.getfield 35, 3) := by decide +kernel
theorem dX11_edge_17 : decode cX11_edge 17 = .ok (.getfield 181, 3) := by decide +kernel
theorem dX11_edge_20 : decode cX11_edge 20 = .ok (.iload_n 1, 1) := by decide +kernel
theorem dX11_edge_21 : decode cX11_edge 21 = .ok (.iaload, 1) := by decide +kernel
theorem dX11_edge_22 : decode cX11_edge 22 = .ok (.istore_n 3, 1) := by decide +kernel
theorem dX11_edge_23 : decode cX11_edge 23 = .ok (.aload_n 0, 1) := by decide +kernel
theorem dX11_edge_24 : decode cX11_edge 24 = .ok (.getfield 35, 3) := by decide +kernel
theorem dX11_edge_27 : decode cX11_edge 27 = .ok (.getfield 181, 3) := by decide +kernel
theorem dX11_edge_30 : decode cX11_edge 30 = .ok (.iload_n 1, 1) := by decide +kernel
theorem dX11_edge_31 : decode cX11_edge 31 = .ok (.iload_n 2, 1) := by decide +kernel
theorem dX11_edge_32 : decode cX11_edge 32 = .ok (.iastore, 1) := by decide +kernel
theorem dX11_edge_33 : decode cX11_edge 33 = .ok (.iload_n 3, 1) := by decide +kernel
theorem dX11_edge_34 : decode cX11_edge 34 = .ok (.i2l, 1) := by decide +kernel
theorem dX11_edge_35 : decode cX11_edge 35 = .ok (.lreturn, 1) := by decide +kernel
theorem dX11_cell_0 : decode cX11_cell 0 = .ok (.aload_n 0, 1) := by decide +kernel
theorem dX11_cell_1 : decode cX11_cell 1 = .ok (.getfield 35, 3) := by decide +kernel
theorem dX11_cell_4 : decode cX11_cell 4 = .ok (.iload_n 1, 1) := by decide +kernel
theorem dX11_cell_5 : decode cX11_cell 5 = .ok (.invokevirtual 176, 3) := by decide +kernel
theorem dX11_cell_8 : decode cX11_cell 8 = .ok (.ifCond .eq 13, 3) := by decide +kernel
theorem dX11_cell_11 : decode cX11_cell 11 = .ok (.iload_n 2, 1) := by decide +kernel
theorem dX11_cell_12 : decode cX11_cell 12 = .ok (.iconst 0, 1) := by decide +kernel
theorem dX11_cell_13 : decode cX11_cell 13 = .ok (.bipush 40, 2) := by decide +kernel
theorem dX11_cell_15 : decode cX11_cell 15 = .ok (.invokestatic 98, 3) := by decide +kernel
theorem dX11_cell_18 : decode cX11_cell 18 = .ok (.ifCond .ne 7, 3) := by decide +kernel
theorem dX11_cell_21 : decode cX11_cell 21 = .ok (.ldc2_w 102, 3) := by decide +kernel
theorem dX11_cell_24 : decode cX11_cell 24 = .ok (.lreturn, 1) := by decide +kernel
theorem dX11_cell_25 : decode cX11_cell 25 = .ok (.aload_n 0, 1) := by decide +kernel
theorem dX11_cell_26 : decode cX11_cell 26 = .ok (.getfield 58, 3) := by decide +kernel
theorem dX11_cell_29 : decode cX11_cell 29 = .ok (.aload_n 0, 1) := by decide +kernel
theorem dX11_cell_30 : decode cX11_cell 30 = .ok (.getfield 25, 3) := by decide +kernel
theorem dX11_cell_33 : decode cX11_cell 33 = .ok (.aload_n 0, 1) := by decide +kernel
theorem dX11_cell_34 : decode cX11_cell 34 = .ok (.getfield 35, 3) := by decide +kernel
theorem dX11_cell_37 : decode cX11_cell 37 = .ok (.getfield 178, 3) := by decide +kernel
theorem dX11_cell_40 : decode cX11_cell 40 = .ok (.iload_n 2, 1) := by decide +kernel
theorem dX11_cell_41 : decode cX11_cell 41 = .ok (.invokevirtual 184, 3) := by decide +kernel
theorem dX11_cell_44 : decode cX11_cell 44 = .ok (.aload_n 0, 1) := by decide +kernel
theorem dX11_cell_45 : decode cX11_cell 45 = .ok (.getfield 58, 3) := by decide +kernel
theorem dX11_cell_48 : decode cX11_cell 48 = .ok (.iload_n 2, 1) := by decide +kernel
theorem dX11_cell_49 : decode cX11_cell 49 = .ok (.iload_n 1, 1) := by decide +kernel
theorem dX11_cell_50 : decode cX11_cell 50 = .ok (.invokevirtual 188, 3) := by decide +kernel
theorem dX11_cell_53 : decode cX11_cell 53 = .ok (.i2l, 1) := by decide +kernel
theorem dX11_cell_54 : decode cX11_cell 54 = .ok (.lreturn, 1) := by decide +kernel
theorem dX11_gauge_0 : decode cX11_gauge 0 = .ok (.iload_n 1, 1) := by decide +kernel
theorem dX11_gauge_1 : decode cX11_gauge 1 = .ok (.iconst 0, 1) := by decide +kernel
theorem dX11_gauge_2 : decode cX11_gauge 2 = .ok (.bipush 9, 2) := by decide +kernel
theorem dX11_gauge_4 : decode cX11_gauge 4 = .ok (.invokestatic 98, 3) := by decide +kernel
theorem dX11_gauge_7 : decode cX11_gauge 7 = .ok (.ifCond .eq 24, 3) := by decide +kernel
theorem dX11_gauge_10 : decode cX11_gauge 10 = .ok (.iload_n 2, 1) := by decide +kernel
theorem dX11_gauge_11 : decode cX11_gauge 11 = .ok (.iconst 0, 1) := by decide +kernel
theorem dX11_gauge_12 : decode cX11_gauge 12 = .ok (.bipush 20, 2) := by decide +kernel
theorem dX11_gauge_14 : decode cX11_gauge 14 = .ok (.invokestatic 98, 3) := by decide +kernel
theorem dX11_gauge_17 : decode cX11_gauge 17 = .ok (.ifCond .eq 14, 3) := by decide +kernel
theorem dX11_gauge_20 : decode cX11_gauge 20 = .ok (.iload_n 3, 1) := by decide +kernel
theorem dX11_gauge_21 : decode cX11_gauge 21 = .ok (.bipush (-9), 2) := by decide +kernel
theorem dX11_gauge_23 : decode cX11_gauge 23 = .ok (.bipush 9, 2) := by decide +kernel
theorem dX11_gauge_25 : decode cX11_gauge 25 = .ok (.invokestatic 98, 3) := by decide +kernel
theorem dX11_gauge_28 : decode cX11_gauge 28 = .ok (.ifCond .ne 7, 3) := by decide +kernel
theorem dX11_gauge_31 : decode cX11_gauge 31 = .ok (.ldc2_w 102, 3) := by decide +kernel
theorem dX11_gauge_34 : decode cX11_gauge 34 = .ok (.lreturn, 1) := by decide +kernel
theorem dX11_gauge_35 : decode cX11_gauge 35 = .ok (.aload_n 0, 1) := by decide +kernel
theorem dX11_gauge_36 : decode cX11_gauge 36 = .ok (.getfield 42, 3) := by decide +kernel
theorem dX11_gauge_39 : decode cX11_gauge 39 = .ok (.getfield 191, 3) := by decide +kernel
theorem dX11_gauge_42 : decode cX11_gauge 42 = .ok (.bipush 12, 2) := by decide +kernel
theorem dX11_gauge_44 : decode cX11_gauge 44 = .ok (.if_icmp .lt 7, 3) := by decide +kernel
theorem dX11_gauge_47 : decode cX11_gauge 47 = .ok (.ldc2_w 146, 3) := by decide +kernel
theorem dX11_gauge_50 : decode cX11_gauge 50 = .ok (.lreturn, 1) := by decide +kernel
theorem dX11_gauge_51 : decode cX11_gauge 51 = .ok (.aload_n 0, 1) := by decide +kernel
theorem dX11_gauge_52 : decode cX11_gauge 52 = .ok (.getfield 42, 3) := by decide +kernel
theorem dX11_gauge_55 : decode cX11_gauge 55 = .ok (.iload_n 1, 1) := by decide +kernel
theorem dX11_gauge_56 : decode cX11_gauge 56 = .ok (.iload_n 2, 1) := by decide +kernel
theorem dX11_gauge_57 : decode cX11_gauge 57 = .ok (.iload_n 3, 1) := by decide +kernel
theorem dX11_gauge_58 : decode cX11_gauge 58 = .ok (.iload 4, 2) := by decide +kernel
theorem dX11_gauge_60 : decode cX11_gauge 60 = .ok (.invokevirtual 192, 3) := by decide +kernel
theorem dX11_gauge_63 : decode cX11_gauge 63 = .ok (.aload_n 0, 1) := by decide +kernel
theorem dX11_gauge_64 : decode cX11_gauge 64 = .ok (.getfield 42, 3) := by decide +kernel
theorem dX11_gauge_67 : decode cX11_gauge 67 = .ok (.getfield 191, 3) := by decide +kernel
theorem dX11_gauge_70 : decode cX11_gauge 70 = .ok (.i2l, 1) := by decide +kernel
theorem dX11_gauge_71 : decode cX11_gauge 71 = .ok (.lreturn, 1) := by decide +kernel
theorem dX11_out_0 : decode cX11_out 0 = .ok (.iload_n 1, 1) := by decide +kernel
theorem dX11_out_1 : decode cX11_out 1 = .ok (.iconst 0, 1) := by decide +kernel
theorem dX11_out_2 : decode cX11_out 2 = .ok (.aload_n 0, 1) := by decide +kernel
theorem dX11_out_3 : decode cX11_out 3 = .ok (.getfield 42, 3) := by decide +kernel
theorem dX11_out_6 : decode cX11_out 6 = .ok (.getfield 191, 3) := by decide +kernel
theorem dX11_out_9 : decode cX11_out 9 = .ok (.iconst 1, 1) := by decide +kernel
theorem dX11_out_10 : decode cX11_out 10 = .ok (.isub, 1) := by decide +kernel
theorem dX11_out_11 : decode cX11_out 11 = .ok (.invokestatic 98, 3) := by decide +kernel
theorem dX11_out_14 : decode cX11_out 14 = .ok (.ifCond .eq 12, 3) := by decide +kernel
theorem dX11_out_17 : decode cX11_out 17 = .ok (.iload_n 2, 1) := by decide +kernel
theorem dX11_out_18 : decode cX11_out 18 = .ok (.iconst 0, 1) := by decide +kernel
theorem dX11_out_19 : decode cX11_out 19 = .ok (.iconst 1, 1) := by decide +kernel
theorem dX11_out_20 : decode cX11_out 20 = .ok (.invokestatic 98, 3) := by decide +kernel
theorem dX11_out_23 : decode cX11_out 23 = .ok (.ifCond .ne 7, 3) := by decide +kernel
theorem dX11_out_26 : decode cX11_out 26 = .ok (.ldc2_w 102, 3) := by decide +kernel
theorem dX11_out_29 : decode cX11_out 29 = .ok (.lreturn, 1) := by decide +kernel
theorem dX11_out_30 : decode cX11_out 30 = .ok (.aload_n 0, 1) := by decide +kernel
theorem dX11_out_31 : decode cX11_out 31 = .ok (.getfield 42, 3) := by decide +kernel
theorem dX11_out_34 : decode cX11_out 34 = .ok (.getfield 195, 3) := by decide +kernel
theorem dX11_out_37 : decode cX11_out 37 = .ok (.iload_n 1, 1) := by decide +kernel
theorem dX11_out_38 : decode cX11_out 38 = .ok (.iload_n 2, 1) := by decide +kernel
theorem dX11_out_39 : decode cX11_out 39 = .ok (.iconst 1, 1) := by decide +kernel
theorem dX11_out_40 : decode cX11_out 40 = .ok (.if_icmp .ne 7, 3) := by decide +kernel
theorem dX11_out_43 : decode cX11_out 43 = .ok (.iconst 1, 1) := by decide +kernel
theorem dX11_out_44 : decode cX11_out 44 = .ok (.goto 4, 3) := by decide +kernel
theorem dX11_out_47 : decode cX11_out 47 = .ok (.iconst 0, 1) := by decide +kernel
theorem dX11_out_48 : decode cX11_out 48 = .ok (.bastore, 1) := by decide +kernel
theorem dX11_out_49 : decode cX11_out 49 = .ok (.lconst 1, 1) := by decide +kernel
theorem dX11_out_50 : decode cX11_out 50 = .ok (.lreturn, 1) := by decide +kernel
theorem dX11_wish_0 : decode cX11_wish 0 = .ok (.iload_n 1, 1) := by decide +kernel
theorem dX11_wish_1 : decode cX11_wish 1 = .ok (.tableswitch 55 0 2 #[27, 33, 49], 27) := by decide +kernel
theorem dX11_wish_28 : decode cX11_wish 28 = .ok (.aload_n 0, 1) := by decide +kernel
theorem dX11_wish_29 : decode cX11_wish 29 = .ok (.invokevirtual 199, 3) := by decide +kernel
theorem dX11_wish_32 : decode cX11_wish 32 = .ok (.i2l, 1) := by decide +kernel
theorem dX11_wish_33 : decode cX11_wish 33 = .ok (.lreturn, 1) := by decide +kernel
theorem dX11_wish_34 : decode cX11_wish 34 = .ok (.aload_n 0, 1) := by decide +kernel
theorem dX11_wish_35 : decode cX11_wish 35 = .ok (.getfield 42, 3) := by decide +kernel
theorem dX11_wish_38 : decode cX11_wish 38 = .ok (.aload_n 0, 1) := by decide +kernel
theorem dX11_wish_39 : decode cX11_wish 39 = .ok (.getfield 35, 3) := by decide +kernel
theorem dX11_wish_42 : decode cX11_wish 42 = .ok (.getfield 167, 3) := by decide +kernel
theorem dX11_wish_45 : decode cX11_wish 45 = .ok (.invokevirtual 203, 3) := by decide +kernel
theorem dX11_wish_48 : decode cX11_wish 48 = .ok (.i2l, 1) := by decide +kernel
theorem dX11_wish_49 : decode cX11_wish 49 = .ok (.lreturn, 1) := by decide +kernel
theorem dX11_wish_50 : decode cX11_wish 50 = .ok (.aload_n 0, 1) := by decide +kernel
theorem dX11_wish_51 : decode cX11_wish 51 = .ok (.invokevirtual 207, 3) := by decide +kernel
theorem dX11_wish_54 : decode cX11_wish 54 = .ok (.i2l, 1) := by decide +kernel
theorem dX11_wish_55 : decode cX11_wish 55 = .ok (.lreturn, 1) := by decide +kernel
theorem dX11_wish_56 : decode cX11_wish 56 = .ok (.ldc2_w 102, 3) := by decide +kernel
theorem dX11_wish_59 : decode cX11_wish 59 = .ok (.lreturn, 1) := by decide +kernel
theorem dX11_slope_0 : decode cX11_slope 0 = .ok (.iload_n 1, 1) := by decide +kernel
theorem dX11_slope_1 : decode cX11_slope 1 = .ok (.iconst 0, 1) := by decide +kernel
theorem dX11_slope_2 : decode cX11_slope 2 = .ok (.iconst 2, 1) := by decide +kernel
theorem dX11_slope_3 : decode cX11_slope 3 = .ok (.invokestatic 98, 3) := by decide +kernel
theorem dX11_slope_6 : decode cX11_slope 6 = .ok (.ifCond .ne 7, 3) := by decide +kernel
theorem dX11_slope_9 : decode cX11_slope 9 = .ok (.ldc2_w 102, 3) := by decide +kernel
theorem dX11_slope_12 : decode cX11_slope 12 = .ok (.lreturn, 1) := by decide +kernel
theorem dX11_slope_13 : decode cX11_slope 13 = .ok (.iload_n 1, 1) := by decide +kernel
theorem dX11_slope_14 : decode cX11_slope 14 = .ok (.iconst 2, 1) := by decide +kernel
theorem dX11_slope_15 : decode cX11_slope 15 = .ok (.if_icmp .ne 12, 3) := by decide +kernel
theorem dX11_slope_18 : decode cX11_slope 18 = .ok (.iload_n 2, 1) := by decide +kernel
theorem dX11_slope_19 : decode cX11_slope 19 = .ok (.iconst 0, 1) := by decide +kernel
theorem dX11_slope_20 : decode cX11_slope 20 = .ok (.iconst 1, 1) := by decide +kernel
theorem dX11_slope_21 : decode cX11_slope 21 = .ok (.invokestatic 98, 3) := by decide +kernel
theorem dX11_slope_24 : decode cX11_slope 24 = .ok (.goto 11, 3) := by decide +kernel
theorem dX11_slope_27 : decode cX11_slope 27 = .ok (.aload_n 0, 1) := by decide +kernel
theorem dX11_slope_28 : decode cX11_slope 28 = .ok (.getfield 35, 3) := by decide +kernel
theorem dX11_slope_31 : decode cX11_slope 31 = .ok (.iload_n 2, 1) := by decide +kernel
theorem dX11_slope_32 : decode cX11_slope 32 = .ok (.invokevirtual 176, 3) := by decide +kernel
theorem dX11_slope_35 : decode cX11_slope 35 = .ok (.istore_n 3, 1) := by decide +kernel
theorem dX11_slope_36 : decode cX11_slope 36 = .ok (.iload_n 3, 1) := by decide +kernel
theorem dX11_slope_37 : decode cX11_slope 37 = .ok (.ifCond .ne 7, 3) := by decide +kernel
theorem dX11_slope_40 : decode cX11_slope 40 = .ok (.ldc2_w 102, 3) := by decide +kernel
theorem dX11_slope_43 : decode cX11_slope 43 = .ok (.lreturn, 1) := by decide +kernel
theorem dX11_slope_44 : decode cX11_slope 44 = .ok (.aload_n 0, 1) := by decide +kernel
theorem dX11_slope_45 : decode cX11_slope 45 = .ok (.getfield 58, 3) := by decide +kernel
theorem dX11_slope_48 : decode cX11_slope 48 = .ok (.aload_n 0, 1) := by decide +kernel
theorem dX11_slope_49 : decode cX11_slope 49 = .ok (.getfield 25, 3) := by decide +kernel
theorem dX11_slope_52 : decode cX11_slope 52 = .ok (.aload_n 0, 1) := by decide +kernel
theorem dX11_slope_53 : decode cX11_slope 53 = .ok (.getfield 35, 3) := by decide +kernel
theorem dX11_slope_56 : decode cX11_slope 56 = .ok (.getfield 178, 3) := by decide +kernel
theorem dX11_slope_59 : decode cX11_slope 59 = .ok (.aload_n 0, 1) := by decide +kernel
theorem dX11_slope_60 : decode cX11_slope 60 = .ok (.getfield 42, 3) := by decide +kernel
theorem dX11_slope_63 : decode cX11_slope 63 = .ok (.aload_n 0, 1) := by decide +kernel
theorem dX11_slope_64 : decode cX11_slope 64 = .ok (.getfield 35, 3) := by decide +kernel
theorem dX11_slope_67 : decode cX11_slope 67 = .ok (.getfield 167, 3) := by decide +kernel
theorem dX11_slope_70 : decode cX11_slope 70 = .ok (.invokevirtual 203, 3) := by decide +kernel
theorem dX11_slope_73 : decode cX11_slope 73 = .ok (.invokevirtual 184, 3) := by decide +kernel
theorem dX11_slope_76 : decode cX11_slope 76 = .ok (.aload_n 0, 1) := by decide +kernel
theorem dX11_slope_77 : decode cX11_slope 77 = .ok (.getfield 68, 3) := by decide +kernel
theorem dX11_slope_80 : decode cX11_slope 80 = .ok (.aload_n 0, 1) := by decide +kernel
theorem dX11_slope_81 : decode cX11_slope 81 = .ok (.getfield 25, 3) := by decide +kernel
theorem dX11_slope_84 : decode cX11_slope 84 = .ok (.aload_n 0, 1) := by decide +kernel
theorem dX11_slope_85 : decode cX11_slope 85 = .ok (.getfield 35, 3) := by decide +kernel
theorem dX11_slope_88 : decode cX11_slope 88 = .ok (.aload_n 0, 1) := by decide +kernel
theorem dX11_slope_89 : decode cX11_slope 89 = .ok (.getfield 42, 3) := by decide +kernel
theorem dX11_slope_92 : decode cX11_slope 92 = .ok (.aload_n 0, 1) := by decide +kernel
theorem dX11_slope_93 : decode cX11_slope 93 = .ok (.getfield 58, 3) := by decide +kernel
theorem dX11_slope_96 : decode cX11_slope 96 = .ok (.invokevirtual 210, 3) := by decide +kernel
theorem dX11_slope_99 : decode cX11_slope 99 = .ok (.iload_n 1, 1) := by decide +kernel
theorem dX11_slope_100 : decode cX11_slope 100 = .ok (.ifCond .ne 14, 3) := by decide +kernel
theorem dX11_slope_103 : decode cX11_slope 103 = .ok (.aload_n 0, 1) := by decide +kernel
theorem dX11_slope_104 : decode cX11_slope 104 = .ok (.getfield 68, 3) := by decide +kernel
theorem dX11_slope_107 : decode cX11_slope 107 = .ok (.getfield 214, 3) := by decide +kernel
theorem dX11_slope_110 : decode cX11_slope 110 = .ok (.iload_n 2, 1) := by decide +kernel
theorem dX11_slope_111 : decode cX11_slope 111 = .ok (.iaload, 1) := by decide +kernel
theorem dX11_slope_112 : decode cX11_slope 112 = .ok (.i2l, 1) := by decide +kernel
theorem dX11_slope_113 : decode cX11_slope 113 = .ok (.lreturn, 1) := by decide +kernel
theorem dX11_slope_114 : decode cX11_slope 114 = .ok (.iload_n 1, 1) := by decide +kernel
theorem dX11_slope_115 : decode cX11_slope 115 = .ok (.iconst 1, 1) := by decide +kernel
theorem dX11_slope_116 : decode cX11_slope 116 = .ok (.if_icmp .ne 16, 3) := by decide +kernel
theorem dX11_slope_119 : decode cX11_slope 119 = .ok (.aload_n 0, 1) := by decide +kernel
theorem dX11_slope_120 : decode cX11_slope 120 = .ok (.getfield 68, 3) := by decide +kernel
theorem dX11_slope_123 : decode cX11_slope 123 = .ok (.getfield 217, 3) := by decide +kernel
theorem dX11_slope_126 : decode cX11_slope 126 = .ok (.iload_n 2, 1) := by decide +kernel
theorem dX11_slope_127 : decode cX11_slope 127 = .ok (.iaload, 1) := by decide +kernel
theorem dX11_slope_128 : decode cX11_slope 128 = .ok (.i2l, 1) := by decide +kernel
theorem dX11_slope_129 : decode cX11_slope 129 = .ok (.goto 13, 3) := by decide +kernel
theorem dX11_slope_132 : decode cX11_slope 132 = .ok (.aload_n 0, 1) := by decide +kernel
theorem dX11_slope_133 : decode cX11_slope 133 = .ok (.getfield 68, 3) := by decide +kernel
theorem dX11_slope_136 : decode cX11_slope 136 = .ok (.getfield 220, 3) := by decide +kernel
theorem dX11_slope_139 : decode cX11_slope 139 = .ok (.iload_n 2, 1) := by decide +kernel
theorem dX11_slope_140 : decode cX11_slope 140 = .ok (.iaload, 1) := by decide +kernel
theorem dX11_slope_141 : decode cX11_slope 141 = .ok (.i2l, 1) := by decide +kernel
theorem dX11_slope_142 : decode cX11_slope 142 = .ok (.lreturn, 1) := by decide +kernel
theorem dX11_push_0 : decode cX11_push 0 = .ok (.aload_n 0, 1) := by decide +kernel
theorem dX11_push_1 : decode cX11_push 1 = .ok (.getfield 35, 3) := by decide +kernel
theorem dX11_push_4 : decode cX11_push 4 = .ok (.iload_n 1, 1) := by decide +kernel
theorem dX11_push_5 : decode cX11_push 5 = .ok (.invokevirtual 176, 3) := by decide +kernel
theorem dX11_push_8 : decode cX11_push 8 = .ok (.ifCond .ne 7, 3) := by decide +kernel
theorem dX11_push_11 : decode cX11_push 11 = .ok (.ldc2_w 102, 3) := by decide +kernel
theorem dX11_push_14 : decode cX11_push 14 = .ok (.lreturn, 1) := by decide +kernel
theorem dX11_push_15 : decode cX11_push 15 = .ok (.aload_n 0, 1) := by decide +kernel
theorem dX11_push_16 : decode cX11_push 16 = .ok (.iload_n 1, 1) := by decide +kernel
theorem dX11_push_17 : decode cX11_push 17 = .ok (.iload_n 2, 1) := by decide +kernel
theorem dX11_push_18 : decode cX11_push 18 = .ok (.invokevirtual 223, 3) := by decide +kernel
theorem dX11_push_21 : decode cX11_push 21 = .ok (.aload_n 0, 1) := by decide +kernel
theorem dX11_push_22 : decode cX11_push 22 = .ok (.invokevirtual 199, 3) := by decide +kernel
theorem dX11_push_25 : decode cX11_push 25 = .ok (.isub, 1) := by decide +kernel
theorem dX11_push_26 : decode cX11_push 26 = .ok (.i2l, 1) := by decide +kernel
theorem dX11_push_27 : decode cX11_push 27 = .ok (.lreturn, 1) := by decide +kernel
theorem dX11_again_0 : decode cX11_again 0 = .ok (.iload_n 1, 1) := by decide +kernel
theorem dX11_again_1 : decode cX11_again 1 = .ok (.iconst 1, 1) := by decide +kernel
theorem dX11_again_2 : decode cX11_again 2 = .ok (.bipush 40, 2) := by decide +kernel
theorem dX11_again_4 : decode cX11_again 4 = .ok (.invokestatic 98, 3) := by decide +kernel
theorem dX11_again_7 : decode cX11_again 7 = .ok (.ifCond .eq 22, 3) := by decide +kernel
theorem dX11_again_10 : decode cX11_again 10 = .ok (.iload_n 2, 1) := by decide +kernel
theorem dX11_again_11 : decode cX11_again 11 = .ok (.iconst 0, 1) := by decide +kernel
theorem dX11_again_12 : decode cX11_again 12 = .ok (.bipush 6, 2) := by decide +kernel
theorem dX11_again_14 : decode cX11_again 14 = .ok (.invokestatic 98, 3) := by decide +kernel
theorem dX11_again_17 : decode cX11_again 17 = .ok (.ifCond .eq 12, 3) := by decide +kernel
theorem dX11_again_20 : decode cX11_again 20 = .ok (.iload_n 3, 1) := by decide +kernel
theorem dX11_again_21 : decode cX11_again 21 = .ok (.iconst 0, 1) := by decide +kernel
theorem dX11_again_22 : decode cX11_again 22 = .ok (.iconst 1, 1) := by decide +kernel
theorem dX11_again_23 : decode cX11_again 23 = .ok (.invokestatic 98, 3) := by decide +kernel
theorem dX11_again_26 : decode cX11_again 26 = .ok (.ifCond .ne 7, 3) := by decide +kernel
theorem dX11_again_29 : decode cX11_again 29 = .ok (.ldc2_w 102, 3) := by decide +kernel
theorem dX11_again_32 : decode cX11_again 32 = .ok (.lreturn, 1) := by decide +kernel
theorem dX11_again_33 : decode cX11_again 33 = .ok (.aload_n 0, 1) := by decide +kernel
theorem dX11_again_34 : decode cX11_again 34 = .ok (.getfield 75, 3) := by decide +kernel
theorem dX11_again_37 : decode cX11_again 37 = .ok (.invokevirtual 226, 3) := by decide +kernel
theorem dX11_again_40 : decode cX11_again 40 = .ok (.iload_n 1, 1) := by decide +kernel
theorem dX11_again_41 : decode cX11_again 41 = .ok (.iload_n 2, 1) := by decide +kernel
theorem dX11_again_42 : decode cX11_again 42 = .ok (.invokestatic 229, 3) := by decide +kernel
theorem dX11_again_45 : decode cX11_again 45 = .ok (.istore 4, 2) := by decide +kernel
theorem dX11_again_47 : decode cX11_again 47 = .ok (.iload_n 3, 1) := by decide +kernel
theorem dX11_again_48 : decode cX11_again 48 = .ok (.ifCond .ne 17, 3) := by decide +kernel
theorem dX11_again_51 : decode cX11_again 51 = .ok (.aload_n 0, 1) := by decide +kernel
theorem dX11_again_52 : decode cX11_again 52 = .ok (.getfield 75, 3) := by decide +kernel
theorem dX11_again_55 : decode cX11_again 55 = .ok (.getfield 232, 3) := by decide +kernel
theorem dX11_again_58 : decode cX11_again 58 = .ok (.iload 4, 2) := by decide +kernel
theorem dX11_again_60 : decode cX11_again 60 = .ok (.iaload, 1) := by decide +kernel
theorem dX11_again_61 : decode cX11_again 61 = .ok (.i2l, 1) := by decide +kernel
theorem dX11_again_62 : decode cX11_again 62 = .ok (.goto 14, 3) := by decide +kernel
theorem dX11_again_65 : decode cX11_again 65 = .ok (.aload_n 0, 1) := by decide +kernel
theorem dX11_again_66 : decode cX11_again 66 = .ok (.getfield 75, 3) := by decide +kernel
theorem dX11_again_69 : decode cX11_again 69 = .ok (.getfield 235, 3) := by decide +kernel
theorem dX11_again_72 : decode cX11_again 72 = .ok (.iload 4, 2) := by decide +kernel
theorem dX11_again_74 : decode cX11_again 74 = .ok (.iaload, 1) := by decide +kernel
theorem dX11_again_75 : decode cX11_again 75 = .ok (.i2l, 1) := by decide +kernel
theorem dX11_again_76 : decode cX11_again 76 = .ok (.lreturn, 1) := by decide +kernel
theorem dX11_move_0 : decode cX11_move 0 = .ok (.aload_n 0, 1) := by decide +kernel
theorem dX11_move_1 : decode cX11_move 1 = .ok (.invokevirtual 199, 3) := by decide +kernel
theorem dX11_move_4 : decode cX11_move 4 = .ok (.istore_n 1, 1) := by decide +kernel
theorem dX11_move_5 : decode cX11_move 5 = .ok (.aload_n 0, 1) := by decide +kernel
theorem dX11_move_6 : decode cX11_move 6 = .ok (.getfield 68, 3) := by decide +kernel
theorem dX11_move_9 : decode cX11_move 9 = .ok (.aload_n 0, 1) := by decide +kernel
theorem dX11_move_10 : decode cX11_move 10 = .ok (.getfield 25, 3) := by decide +kernel
theorem dX11_move_13 : decode cX11_move 13 = .ok (.aload_n 0, 1) := by decide +kernel
theorem dX11_move_14 : decode cX11_move 14 = .ok (.getfield 35, 3) := by decide +kernel
theorem dX11_move_17 : decode cX11_move 17 = .ok (.aload_n 0, 1) := by decide +kernel
theorem dX11_move_18 : decode cX11_move 18 = .ok (.getfield 42, 3) := by decide +kernel
theorem dX11_move_21 : decode cX11_move 21 = .ok (.aload_n 0, 1) := by decide +kernel
theorem dX11_move_22 : decode cX11_move 22 = .ok (.getfield 58, 3) := by decide +kernel
theorem dX11_move_25 : decode cX11_move 25 = .ok (.invokevirtual 210, 3) := by decide +kernel
theorem dX11_move_28 : decode cX11_move 28 = .ok (.iconst 0, 1) := by decide +kernel
theorem dX11_move_29 : decode cX11_move 29 = .ok (.istore_n 2, 1) := by decide +kernel
theorem dX11_move_30 : decode cX11_move 30 = .ok (.iload_n 2, 1) := by decide +kernel
theorem dX11_move_31 : decode cX11_move 31 = .ok (.aload_n 0, 1) := by decide +kernel
theorem dX11_move_32 : decode cX11_move 32 = .ok (.getfield 35, 3) := by decide +kernel
theorem dX11_move_35 : decode cX11_move 35 = .ok (.getfield 167, 3) := by decide +kernel
theorem dX11_move_38 : decode cX11_move 38 = .ok (.if_icmp .ge 89, 3) := by decide +kernel
theorem dX11_move_41 : decode cX11_move 41 = .ok (.aload_n 0, 1) := by decide +kernel
theorem dX11_move_42 : decode cX11_move 42 = .ok (.getfield 68, 3) := by decide +kernel
theorem dX11_move_45 : decode cX11_move 45 = .ok (.aload_n 0, 1) := by decide +kernel
theorem dX11_move_46 : decode cX11_move 46 = .ok (.getfield 35, 3) := by decide +kernel
theorem dX11_move_49 : decode cX11_move 49 = .ok (.getfield 167, 3) := by decide +kernel
theorem dX11_move_52 : decode cX11_move 52 = .ok (.invokevirtual 238, 3) := by decide +kernel
theorem dX11_move_55 : decode cX11_move 55 = .ok (.istore_n 3, 1) := by decide +kernel
theorem dX11_move_56 : decode cX11_move 56 = .ok (.iload_n 3, 1) := by decide +kernel
theorem dX11_move_57 : decode cX11_move 57 = .ok (.ldc 241, 2) := by decide +kernel
theorem dX11_move_59 : decode cX11_move 59 = .ok (.if_icmp .ne 6, 3) := by decide +kernel
theorem dX11_move_62 : decode cX11_move 62 = .ok (.ldc 241, 2) := by decide +kernel
theorem dX11_move_64 : decode cX11_move 64 = .ok (.ireturn, 1) := by decide +kernel
theorem dX11_move_65 : decode cX11_move 65 = .ok (.aload_n 0, 1) := by decide +kernel
theorem dX11_move_66 : decode cX11_move 66 = .ok (.getfield 68, 3) := by decide +kernel
theorem dX11_move_69 : decode cX11_move 69 = .ok (.getfield 214, 3) := by decide +kernel
theorem dX11_move_72 : decode cX11_move 72 = .ok (.iload_n 3, 1) := by decide +kernel
theorem dX11_move_73 : decode cX11_move 73 = .ok (.iaload, 1) := by decide +kernel
theorem dX11_move_74 : decode cX11_move 74 = .ok (.ifCond .le 7, 3) := by decide +kernel
theorem dX11_move_77 : decode cX11_move 77 = .ok (.iconst (-1), 1) := by decide +kernel
theorem dX11_move_78 : decode cX11_move 78 = .ok (.goto 4, 3) := by decide +kernel
theorem dX11_move_81 : decode cX11_move 81 = .ok (.iconst 1, 1) := by decide +kernel
theorem dX11_move_82 : decode cX11_move 82 = .ok (.istore 4, 2) := by decide +kernel
theorem dX11_move_84 : decode cX11_move 84 = .ok (.aload_n 0, 1) := by decide +kernel
theorem dX11_move_85 : decode cX11_move 85 = .ok (.iload_n 3, 1) := by decide +kernel
theorem dX11_move_86 : decode cX11_move 86 = .ok (.iload 4, 2) := by decide +kernel
theorem dX11_move_88 : decode cX11_move 88 = .ok (.iload_n 1, 1) := by decide +kernel
theorem dX11_move_89 : decode cX11_move 89 = .ok (.invokevirtual 242, 3) := by decide +kernel
theorem dX11_move_92 : decode cX11_move 92 = .ok (.ifCond .eq 19, 3) := by decide +kernel
theorem dX11_move_95 : decode cX11_move 95 = .ok (.aload_n 0, 1) := by decide +kernel
theorem dX11_move_96 : decode cX11_move 96 = .ok (.getfield 35, 3) := by decide +kernel
theorem dX11_move_99 : decode cX11_move 99 = .ok (.getfield 178, 3) := by decide +kernel
theorem dX11_move_102 : decode cX11_move 102 = .ok (.iload_n 3, 1) := by decide +kernel
theorem dX11_move_103 : decode cX11_move 103 = .ok (.dup2, 1) := by decide +kernel
theorem dX11_move_104 : decode cX11_move 104 = .ok (.iaload, 1) := by decide +kernel
theorem dX11_move_105 : decode cX11_move 105 = .ok (.iload 4, 2) := by decide +kernel
theorem dX11_move_107 : decode cX11_move 107 = .ok (.iadd, 1) := by decide +kernel
theorem dX11_move_108 : decode cX11_move 108 = .ok (.iastore, 1) := by decide +kernel
theorem dX11_move_109 : decode cX11_move 109 = .ok (.iload_n 3, 1) := by decide +kernel
theorem dX11_move_110 : decode cX11_move 110 = .ok (.ireturn, 1) := by decide +kernel
theorem dX11_move_111 : decode cX11_move 111 = .ok (.aload_n 0, 1) := by decide +kernel
theorem dX11_move_112 : decode cX11_move 112 = .ok (.getfield 68, 3) := by decide +kernel
theorem dX11_move_115 : decode cX11_move 115 = .ok (.getfield 214, 3) := by decide +kernel
theorem dX11_move_118 : decode cX11_move 118 = .ok (.iload_n 3, 1) := by decide +kernel
theorem dX11_move_119 : decode cX11_move 119 = .ok (.iconst 0, 1) := by decide +kernel
theorem dX11_move_120 : decode cX11_move 120 = .ok (.iastore, 1) := by decide +kernel
theorem dX11_move_121 : decode cX11_move 121 = .ok (.iinc 2 1, 3) := by decide +kernel
theorem dX11_move_124 : decode cX11_move 124 = .ok (.goto (-94), 3) := by decide +kernel
theorem dX11_move_127 : decode cX11_move 127 = .ok (.ldc 241, 2) := by decide +kernel
theorem dX11_move_129 : decode cX11_move 129 = .ok (.ireturn, 1) := by decide +kernel
theorem dX11_rest_0 : decode cX11_rest 0 = .ok (.aload_n 0, 1) := by decide +kernel
theorem dX11_rest_1 : decode cX11_rest 1 = .ok (.invokevirtual 199, 3) := by decide +kernel
theorem dX11_rest_4 : decode cX11_rest 4 = .ok (.istore_n 1, 1) := by decide +kernel
theorem dX11_rest_5 : decode cX11_rest 5 = .ok (.iconst 0, 1) := by decide +kernel
theorem dX11_rest_6 : decode cX11_rest 6 = .ok (.istore_n 2, 1) := by decide +kernel
theorem dX11_rest_7 : decode cX11_rest 7 = .ok (.iload_n 2, 1) := by decide +kernel
theorem dX11_rest_8 : decode cX11_rest 8 = .ok (.aload_n 0, 1) := by decide +kernel
theorem dX11_rest_9 : decode cX11_rest 9 = .ok (.getfield 35, 3) := by decide +kernel
theorem dX11_rest_12 : decode cX11_rest 12 = .ok (.getfield 167, 3) := by decide +kernel
theorem dX11_rest_15 : decode cX11_rest 15 = .ok (.if_icmp .ge 31, 3) := by decide +kernel
theorem dX11_rest_18 : decode cX11_rest 18 = .ok (.aload_n 0, 1) := by decide +kernel
theorem dX11_rest_19 : decode cX11_rest 19 = .ok (.iload_n 2, 1) := by decide +kernel
theorem dX11_rest_20 : decode cX11_rest 20 = .ok (.iconst 1, 1) := by decide +kernel
theorem dX11_rest_21 : decode cX11_rest 21 = .ok (.iload_n 1, 1) := by decide +kernel
theorem dX11_rest_22 : decode cX11_rest 22 = .ok (.invokevirtual 242, 3) := by decide +kernel
theorem dX11_rest_25 : decode cX11_rest 25 = .ok (.ifCond .ne 13, 3) := by decide +kernel
theorem dX11_rest_28 : decode cX11_rest 28 = .ok (.aload_n 0, 1) := by decide +kernel
theorem dX11_rest_29 : decode cX11_rest 29 = .ok (.iload_n 2, 1) := by decide +kernel
theorem dX11_rest_30 : decode cX11_rest 30 = .ok (.iconst (-1), 1) := by decide +kernel
theorem dX11_rest_31 : decode cX11_rest 31 = .ok (.iload_n 1, 1) := by decide +kernel
theorem dX11_rest_32 : decode cX11_rest 32 = .ok (.invokevirtual 242, 3) := by decide +kernel
theorem dX11_rest_35 : decode cX11_rest 35 = .ok (.ifCond .eq 5, 3) := by decide +kernel
theorem dX11_rest_38 : decode cX11_rest 38 = .ok (.iconst 0, 1) := by decide +kernel
theorem dX11_rest_39 : decode cX11_rest 39 = .ok (.ireturn, 1) := by decide +kernel
theorem dX11_rest_40 : decode cX11_rest 40 = .ok (.iinc 2 1, 3) := by decide +kernel
theorem dX11_rest_43 : decode cX11_rest 43 = .ok (.goto (-36), 3) := by decide +kernel
theorem dX11_rest_46 : decode cX11_rest 46 = .ok (.iconst 1, 1) := by decide +kernel
theorem dX11_rest_47 : decode cX11_rest 47 = .ok (.ireturn, 1) := by decide +kernel
theorem dX11_keep_0 : decode cX11_keep 0 = .ok (.aload_n 0, 1) := by decide +kernel
theorem dX11_keep_1 : decode cX11_keep 1 = .ok (.getfield 82, 3) := by decide +kernel
theorem dX11_keep_4 : decode cX11_keep 4 = .ok (.getfield 245, 3) := by decide +kernel
theorem dX11_keep_7 : decode cX11_keep 7 = .ok (.bipush 6, 2) := by decide +kernel
theorem dX11_keep_9 : decode cX11_keep 9 = .ok (.if_icmp .lt 7, 3) := by decide +kernel
theorem dX11_keep_12 : decode cX11_keep 12 = .ok (.ldc2_w 146, 3) := by decide +kernel
theorem dX11_keep_15 : decode cX11_keep 15 = .ok (.lreturn, 1) := by decide +kernel
theorem dX11_keep_16 : decode cX11_keep 16 = .ok (.aload_n 0, 1) := by decide +kernel
theorem dX11_keep_17 : decode cX11_keep 17 = .ok (.getfield 82, 3) := by decide +kernel
theorem dX11_keep_20 : decode cX11_keep 20 = .ok (.aload_n 0, 1) := by decide +kernel
theorem dX11_keep_21 : decode cX11_keep 21 = .ok (.getfield 35, 3) := by decide +kernel
theorem dX11_keep_24 : decode cX11_keep 24 = .ok (.invokevirtual 246, 3) := by decide +kernel
theorem dX11_keep_27 : decode cX11_keep 27 = .ok (.aload_n 0, 1) := by decide +kernel
theorem dX11_keep_28 : decode cX11_keep 28 = .ok (.getfield 82, 3) := by decide +kernel
theorem dX11_keep_31 : decode cX11_keep 31 = .ok (.getfield 245, 3) := by decide +kernel
theorem dX11_keep_34 : decode cX11_keep 34 = .ok (.iconst 1, 1) := by decide +kernel
theorem dX11_keep_35 : decode cX11_keep 35 = .ok (.isub, 1) := by decide +kernel
theorem dX11_keep_36 : decode cX11_keep 36 = .ok (.i2l, 1) := by decide +kernel
theorem dX11_keep_37 : decode cX11_keep 37 = .ok (.lreturn, 1) := by decide +kernel
theorem dX11_lay_0 : decode cX11_lay 0 = .ok (.aload_n 0, 1) := by decide +kernel
theorem dX11_lay_1 : decode cX11_lay 1 = .ok (.getfield 82, 3) := by decide +kernel
theorem dX11_lay_4 : decode cX11_lay 4 = .ok (.iload_n 1, 1) := by decide +kernel
theorem dX11_lay_5 : decode cX11_lay 5 = .ok (.invokevirtual 249, 3) := by decide +kernel
theorem dX11_lay_8 : decode cX11_lay 8 = .ok (.ifCond .ne 7, 3) := by decide +kernel
theorem dX11_lay_11 : decode cX11_lay 11 = .ok (.ldc2_w 102, 3) := by decide +kernel
theorem dX11_lay_14 : decode cX11_lay 14 = .ok (.lreturn, 1) := by decide +kernel
theorem dX11_lay_15 : decode cX11_lay 15 = .ok (.aload_n 0, 1) := by decide +kernel
theorem dX11_lay_16 : decode cX11_lay 16 = .ok (.getfield 82, 3) := by decide +kernel
theorem dX11_lay_19 : decode cX11_lay 19 = .ok (.getfield 250, 3) := by decide +kernel
theorem dX11_lay_22 : decode cX11_lay 22 = .ok (.iload_n 1, 1) := by decide +kernel
theorem dX11_lay_23 : decode cX11_lay 23 = .ok (.iaload, 1) := by decide +kernel
theorem dX11_lay_24 : decode cX11_lay 24 = .ok (.aload_n 0, 1) := by decide +kernel
theorem dX11_lay_25 : decode cX11_lay 25 = .ok (.getfield 35, 3) := by decide +kernel
theorem dX11_lay_28 : decode cX11_lay 28 = .ok (.getfield 167, 3) := by decide +kernel
theorem dX11_lay_31 : decode cX11_lay 31 = .ok (.if_icmp .eq 7, 3) := by decide +kernel
theorem dX11_lay_34 : decode cX11_lay 34 = .ok (.ldc2_w 252, 3) := by decide +kernel
theorem dX11_lay_37 : decode cX11_lay 37 = .ok (.lreturn, 1) := by decide +kernel
theorem dX11_lay_38 : decode cX11_lay 38 = .ok (.aload_n 0, 1) := by decide +kernel
theorem dX11_lay_39 : decode cX11_lay 39 = .ok (.getfield 82, 3) := by decide +kernel
theorem dX11_lay_42 : decode cX11_lay 42 = .ok (.getfield 254, 3) := by decide +kernel
theorem dX11_lay_45 : decode cX11_lay 45 = .ok (.iload_n 1, 1) := by decide +kernel
theorem dX11_lay_46 : decode cX11_lay 46 = .ok (.aaload, 1) := by decide +kernel
theorem dX11_lay_47 : decode cX11_lay 47 = .ok (.iconst 0, 1) := by decide +kernel
theorem dX11_lay_48 : decode cX11_lay 48 = .ok (.aload_n 0, 1) := by decide +kernel
theorem dX11_lay_49 : decode cX11_lay 49 = .ok (.getfield 35, 3) := by decide +kernel
theorem dX11_lay_52 : decode cX11_lay 52 = .ok (.getfield 178, 3) := by decide +kernel
theorem dX11_lay_55 : decode cX11_lay 55 = .ok (.iconst 0, 1) := by decide +kernel
theorem dX11_lay_56 : decode cX11_lay 56 = .ok (.aload_n 0, 1) := by decide +kernel
theorem dX11_lay_57 : decode cX11_lay 57 = .ok (.getfield 35, 3) := by decide +kernel
theorem dX11_lay_60 : decode cX11_lay 60 = .ok (.getfield 167, 3) := by decide +kernel
theorem dX11_lay_63 : decode cX11_lay 63 = .ok (.invokestatic 136, 3) := by decide +kernel
theorem dX11_lay_66 : decode cX11_lay 66 = .ok (.lconst 1, 1) := by decide +kernel
theorem dX11_lay_67 : decode cX11_lay 67 = .ok (.lreturn, 1) := by decide +kernel
theorem dX11_apart_0 : decode cX11_apart 0 = .ok (.aload_n 0, 1) := by decide +kernel
theorem dX11_apart_1 : decode cX11_apart 1 = .ok (.getfield 82, 3) := by decide +kernel
theorem dX11_apart_4 : decode cX11_apart 4 = .ok (.iload_n 1, 1) := by decide +kernel
theorem dX11_apart_5 : decode cX11_apart 5 = .ok (.invokevirtual 249, 3) := by decide +kernel
theorem dX11_apart_8 : decode cX11_apart 8 = .ok (.ifCond .eq 14, 3) := by decide +kernel
theorem dX11_apart_11 : decode cX11_apart 11 = .ok (.aload_n 0, 1) := by decide +kernel
theorem dX11_apart_12 : decode cX11_apart 12 = .ok (.getfield 82, 3) := by decide +kernel
theorem dX11_apart_15 : decode cX11_apart 15 = .ok (.iload_n 2, 1) := by decide +kernel
theorem dX11_apart_16 : decode cX11_apart 16 = .ok (.invokevirtual 249, 3) := by decide +kernel
theorem dX11_apart_19 : decode cX11_apart 19 = .ok (.ifCond .ne 7, 3) := by decide +kernel
theorem dX11_apart_22 : decode cX11_apart 22 = .ok (.ldc2_w 102, 3) := by decide +kernel
theorem dX11_apart_25 : decode cX11_apart 25 = .ok (.lreturn, 1) := by decide +kernel
theorem dX11_apart_26 : decode cX11_apart 26 = .ok (.aload_n 0, 1) := by decide +kernel
theorem dX11_apart_27 : decode cX11_apart 27 = .ok (.getfield 82, 3) := by decide +kernel
theorem dX11_apart_30 : decode cX11_apart 30 = .ok (.getfield 250, 3) := by decide +kernel
theorem dX11_apart_33 : decode cX11_apart 33 = .ok (.iload_n 1, 1) := by decide +kernel
theorem dX11_apart_34 : decode cX11_apart 34 = .ok (.iaload, 1) := by decide +kernel
theorem dX11_apart_35 : decode cX11_apart 35 = .ok (.aload_n 0, 1) := by decide +kernel
theorem dX11_apart_36 : decode cX11_apart 36 = .ok (.getfield 35, 3) := by decide +kernel
theorem dX11_apart_39 : decode cX11_apart 39 = .ok (.getfield 167, 3) := by decide +kernel
theorem dX11_apart_42 : decode cX11_apart 42 = .ok (.if_icmp .ne 22, 3) := by decide +kernel
theorem dX11_apart_45 : decode cX11_apart 45 = .ok (.aload_n 0, 1) := by decide +kernel
theorem dX11_apart_46 : decode cX11_apart 46 = .ok (.getfield 82, 3) := by decide +kernel
theorem dX11_apart_49 : decode cX11_apart 49 = .ok (.getfield 250, 3) := by decide +kernel
theorem dX11_apart_52 : decode cX11_apart 52 = .ok (.iload_n 2, 1) := by decide +kernel
theorem dX11_apart_53 : decode cX11_apart 53 = .ok (.iaload, 1) := by decide +kernel
theorem dX11_apart_54 : decode cX11_apart 54 = .ok (.aload_n 0, 1) := by decide +kernel
theorem dX11_apart_55 : decode cX11_apart 55 = .ok (.getfield 35, 3) := by decide +kernel
theorem dX11_apart_58 : decode cX11_apart 58 = .ok (.getfield 167, 3) := by decide +kernel
theorem dX11_apart_61 : decode cX11_apart 61 = .ok (.if_icmp .eq 7, 3) := by decide +kernel
theorem dX11_apart_64 : decode cX11_apart 64 = .ok (.ldc2_w 252, 3) := by decide +kernel
theorem dX11_apart_67 : decode cX11_apart 67 = .ok (.lreturn, 1) := by decide +kernel
theorem dX11_apart_68 : decode cX11_apart 68 = .ok (.aload_n 0, 1) := by decide +kernel
theorem dX11_apart_69 : decode cX11_apart 69 = .ok (.getfield 42, 3) := by decide +kernel
theorem dX11_apart_72 : decode cX11_apart 72 = .ok (.aload_n 0, 1) := by decide +kernel
theorem dX11_apart_73 : decode cX11_apart 73 = .ok (.getfield 35, 3) := by decide +kernel
theorem dX11_apart_76 : decode cX11_apart 76 = .ok (.getfield 167, 3) := by decide +kernel
theorem dX11_apart_79 : decode cX11_apart 79 = .ok (.invokevirtual 203, 3) := by decide +kernel
theorem dX11_apart_82 : decode cX11_apart 82 = .ok (.istore_n 3, 1) := by decide +kernel
theorem dX11_apart_83 : decode cX11_apart 83 = .ok (.aload_n 0, 1) := by decide +kernel
theorem dX11_apart_84 : decode cX11_apart 84 = .ok (.getfield 58, 3) := by decide +kernel
theorem dX11_apart_87 : decode cX11_apart 87 = .ok (.aload_n 0, 1) := by decide +kernel
theorem dX11_apart_88 : decode cX11_apart 88 = .ok (.getfield 25, 3) := by decide +kernel
theorem dX11_apart_91 : decode cX11_apart 91 = .ok (.aload_n 0, 1) := by decide +kernel
theorem dX11_apart_92 : decode cX11_apart 92 = .ok (.getfield 82, 3) := by decide +kernel
theorem dX11_apart_95 : decode cX11_apart 95 = .ok (.getfield 254, 3) := by decide +kernel
theorem dX11_apart_98 : decode cX11_apart 98 = .ok (.iload_n 1, 1) := by decide +kernel
theorem dX11_apart_99 : decode cX11_apart 99 = .ok (.aaload, 1) := by decide +kernel
theorem dX11_apart_100 : decode cX11_apart 100 = .ok (.iload_n 3, 1) := by decide +kernel
theorem dX11_apart_101 : decode cX11_apart 101 = .ok (.invokevirtual 184, 3) := by decide +kernel
theorem dX11_apart_104 : decode cX11_apart 104 = .ok (.aload_n 0, 1) := by decide +kernel
theorem dX11_apart_105 : decode cX11_apart 105 = .ok (.getfield 62, 3) := by decide +kernel
theorem dX11_apart_108 : decode cX11_apart 108 = .ok (.aload_n 0, 1) := by decide +kernel
theorem dX11_apart_109 : decode cX11_apart 109 = .ok (.getfield 25, 3) := by decide +kernel
theorem dX11_apart_112 : decode cX11_apart 112 = .ok (.aload_n 0, 1) := by decide +kernel
theorem dX11_apart_113 : decode cX11_apart 113 = .ok (.getfield 82, 3) := by decide +kernel
theorem dX11_apart_116 : decode cX11_apart 116 = .ok (.getfield 254, 3) := by decide +kernel
theorem dX11_apart_119 : decode cX11_apart 119 = .ok (.iload_n 2, 1) := by decide +kernel
theorem dX11_apart_120 : decode cX11_apart 120 = .ok (.aaload, 1) := by decide +kernel
theorem dX11_apart_121 : decode cX11_apart 121 = .ok (.iload_n 3, 1) := by decide +kernel
theorem dX11_apart_122 : decode cX11_apart 122 = .ok (.invokevirtual 184, 3) := by decide +kernel
theorem dX11_apart_125 : decode cX11_apart 125 = .ok (.aload_n 0, 1) := by decide +kernel
theorem dX11_apart_126 : decode cX11_apart 126 = .ok (.getfield 58, 3) := by decide +kernel
theorem dX11_apart_129 : decode cX11_apart 129 = .ok (.aload_n 0, 1) := by decide +kernel
theorem dX11_apart_130 : decode cX11_apart 130 = .ok (.getfield 62, 3) := by decide +kernel
theorem dX11_apart_133 : decode cX11_apart 133 = .ok (.iload_n 3, 1) := by decide +kernel
theorem dX11_apart_134 : decode cX11_apart 134 = .ok (.invokevirtual 257, 3) := by decide +kernel
theorem dX11_apart_137 : decode cX11_apart 137 = .ok (.lreturn, 1) := by decide +kernel
theorem dX11_kind_0 : decode cX11_kind 0 = .ok (.aload_n 0, 1) := by decide +kernel
theorem dX11_kind_1 : decode cX11_kind 1 = .ok (.getfield 25, 3) := by decide +kernel
theorem dX11_kind_4 : decode cX11_kind 4 = .ok (.iload_n 1, 1) := by decide +kernel
theorem dX11_kind_5 : decode cX11_kind 5 = .ok (.invokevirtual 261, 3) := by decide +kernel
theorem dX11_kind_8 : decode cX11_kind 8 = .ok (.ifCond .eq 15, 3) := by decide +kernel
theorem dX11_kind_11 : decode cX11_kind 11 = .ok (.aload_n 0, 1) := by decide +kernel
theorem dX11_kind_12 : decode cX11_kind 12 = .ok (.getfield 25, 3) := by decide +kernel
theorem dX11_kind_15 : decode cX11_kind 15 = .ok (.iload_n 1, 1) := by decide +kernel
theorem dX11_kind_16 : decode cX11_kind 16 = .ok (.invokevirtual 262, 3) := by decide +kernel
theorem dX11_kind_19 : decode cX11_kind 19 = .ok (.i2l, 1) := by decide +kernel
theorem dX11_kind_20 : decode cX11_kind 20 = .ok (.goto 6, 3) := by decide +kernel
theorem dX11_kind_23 : decode cX11_kind 23 = .ok (.ldc2_w 102, 3) := by decide +kernel
theorem dX11_kind_26 : decode cX11_kind 26 = .ok (.lreturn, 1) := by decide +kernel
theorem dX11_as_0 : decode cX11_as 0 = .ok (.aload_n 0, 1) := by decide +kernel
theorem dX11_as_1 : decode cX11_as 1 = .ok (.getfield 25, 3) := by decide +kernel
theorem dX11_as_4 : decode cX11_as 4 = .ok (.iload_n 1, 1) := by decide +kernel
theorem dX11_as_5 : decode cX11_as 5 = .ok (.invokevirtual 261, 3) := by decide +kernel
theorem dX11_as_8 : decode cX11_as 8 = .ok (.ifCond .eq 12, 3) := by decide +kernel
theorem dX11_as_11 : decode cX11_as 11 = .ok (.iload_n 2, 1) := by decide +kernel
theorem dX11_as_12 : decode cX11_as 12 = .ok (.iconst 0, 1) := by decide +kernel
theorem dX11_as_13 : decode cX11_as 13 = .ok (.iconst 5, 1) := by decide +kernel
theorem dX11_as_14 : decode cX11_as 14 = .ok (.invokestatic 98, 3) := by decide +kernel
theorem dX11_as_17 : decode cX11_as 17 = .ok (.ifCond .ne 7, 3) := by decide +kernel
theorem dX11_as_20 : decode cX11_as 20 = .ok (.ldc2_w 102, 3) := by decide +kernel
theorem dX11_as_23 : decode cX11_as 23 = .ok (.lreturn, 1) := by decide +kernel
theorem dX11_as_24 : decode cX11_as 24 = .ok (.aload_n 0, 1) := by decide +kernel
theorem dX11_as_25 : decode cX11_as 25 = .ok (.getfield 25, 3) := by decide +kernel
theorem dX11_as_28 : decode cX11_as 28 = .ok (.iload_n 1, 1) := by decide +kernel
theorem dX11_as_29 : decode cX11_as 29 = .ok (.invokevirtual 262, 3) := by decide +kernel
theorem dX11_as_32 : decode cX11_as 32 = .ok (.iload_n 2, 1) := by decide +kernel
theorem dX11_as_33 : decode cX11_as 33 = .ok (.invokestatic 265, 3) := by decide +kernel
theorem dX11_as_36 : decode cX11_as 36 = .ok (.ifCond .ne 9, 3) := by decide +kernel
theorem dX11_as_39 : decode cX11_as 39 = .ok (.aload_n 0, 1) := by decide +kernel
theorem dX11_as_40 : decode cX11_as 40 = .ok (.iconst 3, 1) := by decide +kernel
theorem dX11_as_41 : decode cX11_as 41 = .ok (.invokevirtual 104, 3) := by decide +kernel
theorem dX11_as_44 : decode cX11_as 44 = .ok (.lreturn, 1) := by decide +kernel
theorem dX11_as_45 : decode cX11_as 45 = .ok (.aload_n 0, 1) := by decide +kernel
theorem dX11_as_46 : decode cX11_as 46 = .ok (.aload_n 0, 1) := by decide +kernel
theorem dX11_as_47 : decode cX11_as 47 = .ok (.getfield 25, 3) := by decide +kernel
theorem dX11_as_50 : decode cX11_as 50 = .ok (.getfield 268, 3) := by decide +kernel
theorem dX11_as_53 : decode cX11_as 53 = .ok (.iload_n 1, 1) := by decide +kernel
theorem dX11_as_54 : decode cX11_as 54 = .ok (.iaload, 1) := by decide +kernel
theorem dX11_as_55 : decode cX11_as 55 = .ok (.i2l, 1) := by decide +kernel
theorem dX11_as_56 : decode cX11_as 56 = .ok (.invokevirtual 112, 3) := by decide +kernel
theorem dX11_as_59 : decode cX11_as 59 = .ok (.lreturn, 1) := by decide +kernel
theorem dX11_ask_0 : decode cX11_ask 0 = .ok (.aload_n 0, 1) := by decide +kernel
theorem dX11_ask_1 : decode cX11_ask 1 = .ok (.getfield 25, 3) := by decide +kernel
theorem dX11_ask_4 : decode cX11_ask 4 = .ok (.iload_n 1, 1) := by decide +kernel
theorem dX11_ask_5 : decode cX11_ask 5 = .ok (.invokevirtual 261, 3) := by decide +kernel
theorem dX11_ask_8 : decode cX11_ask 8 = .ok (.ifCond .eq 12, 3) := by decide +kernel
theorem dX11_ask_11 : decode cX11_ask 11 = .ok (.iload_n 2, 1) := by decide +kernel
theorem dX11_ask_12 : decode cX11_ask 12 = .ok (.iconst 0, 1) := by decide +kernel
theorem dX11_ask_13 : decode cX11_ask 13 = .ok (.iconst 1, 1) := by decide +kernel
theorem dX11_ask_14 : decode cX11_ask 14 = .ok (.invokestatic 98, 3) := by decide +kernel
theorem dX11_ask_17 : decode cX11_ask 17 = .ok (.ifCond .ne 7, 3) := by decide +kernel
theorem dX11_ask_20 : decode cX11_ask 20 = .ok (.ldc2_w 102, 3) := by decide +kernel
theorem dX11_ask_23 : decode cX11_ask 23 = .ok (.lreturn, 1) := by decide +kernel
theorem dX11_ask_24 : decode cX11_ask 24 = .ok (.aload_n 0, 1) := by decide +kernel
theorem dX11_ask_25 : decode cX11_ask 25 = .ok (.getfield 89, 3) := by decide +kernel
theorem dX11_ask_28 : decode cX11_ask 28 = .ok (.iconst 0, 1) := by decide +kernel
theorem dX11_ask_29 : decode cX11_ask 29 = .ok (.putfield 271, 3) := by decide +kernel
theorem dX11_ask_32 : decode cX11_ask 32 = .ok (.iload_n 2, 1) := by decide +kernel
theorem dX11_ask_33 : decode cX11_ask 33 = .ok (.ifCond .ne 19, 3) := by decide +kernel
theorem dX11_ask_36 : decode cX11_ask 36 = .ok (.aload_n 0, 1) := by decide +kernel
theorem dX11_ask_37 : decode cX11_ask 37 = .ok (.getfield 89, 3) := by decide +kernel
theorem dX11_ask_40 : decode cX11_ask 40 = .ok (.aload_n 0, 1) := by decide +kernel
theorem dX11_ask_41 : decode cX11_ask 41 = .ok (.getfield 25, 3) := by decide +kernel
theorem dX11_ask_44 : decode cX11_ask 44 = .ok (.iload_n 1, 1) := by decide +kernel
theorem dX11_ask_45 : decode cX11_ask 45 = .ok (.invokevirtual 274, 3) := by decide +kernel
theorem dX11_ask_48 : decode cX11_ask 48 = .ok (.i2l, 1) := by decide +kernel
theorem dX11_ask_49 : decode cX11_ask 49 = .ok (.goto 16, 3) := by decide +kernel
theorem dX11_ask_52 : decode cX11_ask 52 = .ok (.aload_n 0, 1) := by decide +kernel
theorem dX11_ask_53 : decode cX11_ask 53 = .ok (.getfield 89, 3) := by decide +kernel
theorem dX11_ask_56 : decode cX11_ask 56 = .ok (.aload_n 0, 1) := by decide +kernel
theorem dX11_ask_57 : decode cX11_ask 57 = .ok (.getfield 25, 3) := by decide +kernel
theorem dX11_ask_60 : decode cX11_ask 60 = .ok (.iload_n 1, 1) := by decide +kernel
theorem dX11_ask_61 : decode cX11_ask 61 = .ok (.invokevirtual 277, 3) := by decide +kernel
theorem dX11_ask_64 : decode cX11_ask 64 = .ok (.i2l, 1) := by decide +kernel
theorem dX11_ask_65 : decode cX11_ask 65 = .ok (.lreturn, 1) := by decide +kernel
theorem dX11_trace_0 : decode cX11_trace 0 = .ok (.iload_n 1, 1) := by decide +kernel
theorem dX11_trace_1 : decode cX11_trace 1 = .ok (.iconst 0, 1) := by decide +kernel
theorem dX11_trace_2 : decode cX11_trace 2 = .ok (.aload_n 0, 1) := by decide +kernel
theorem dX11_trace_3 : decode cX11_trace 3 = .ok (.getfield 89, 3) := by decide +kernel
theorem dX11_trace_6 : decode cX11_trace 6 = .ok (.getfield 271, 3) := by decide +kernel
theorem dX11_trace_9 : decode cX11_trace 9 = .ok (.iconst 1, 1) := by decide +kernel
theorem dX11_trace_10 : decode cX11_trace 10 = .ok (.isub, 1) := by decide +kernel
theorem dX11_trace_11 : decode cX11_trace 11 = .ok (.invokestatic 98, 3) := by decide +kernel
theorem dX11_trace_14 : decode cX11_trace 14 = .ok (.ifCond .eq 15, 3) := by decide +kernel
theorem dX11_trace_17 : decode cX11_trace 17 = .ok (.aload_n 0, 1) := by decide +kernel
theorem dX11_trace_18 : decode cX11_trace 18 = .ok (.getfield 89, 3) := by decide +kernel
theorem dX11_trace_21 : decode cX11_trace 21 = .ok (.getfield 280, 3) := by decide +kernel
theorem dX11_trace_24 : decode cX11_trace 24 = .ok (.iload_n 1, 1) := by decide +kernel
theorem dX11_trace_25 : decode cX11_trace 25 = .ok (.iaload, 1) := by decide +kernel
theorem dX11_trace_26 : decode cX11_trace 26 = .ok (.goto 5, 3) := by decide +kernel
theorem dX11_trace_29 : decode cX11_trace 29 = .ok (.ldc 241, 2) := by decide +kernel
theorem dX11_trace_31 : decode cX11_trace 31 = .ok (.ireturn, 1) := by decide +kernel
theorem dX11_count_0 : decode cX11_count 0 = .ok (.iload_n 1, 1) := by decide +kernel
theorem dX11_count_1 : decode cX11_count 1 = .ok (.tableswitch 116 0 7 #[47, 53, 62, 71, 80, 89, 98, 107], 47) := by decide +kernel
theorem dX11_count_48 : decode cX11_count 48 = .ok (.aload_n 0, 1) := by decide +kernel
theorem dX11_count_49 : decode cX11_count 49 = .ok (.invokevirtual 283, 3) := by decide +kernel
theorem dX11_count_52 : decode cX11_count 52 = .ok (.i2l, 1) := by decide +kernel
theorem dX11_count_53 : decode cX11_count 53 = .ok (.lreturn, 1) := by decide +kernel
theorem dX11_count_54 : decode cX11_count 54 = .ok (.aload_n 0, 1) := by decide +kernel
theorem dX11_count_55 : decode cX11_count 55 = .ok (.getfield 25, 3) := by decide +kernel
theorem dX11_count_58 : decode cX11_count 58 = .ok (.getfield 286, 3) := by decide +kernel
theorem dX11_count_61 : decode cX11_count 61 = .ok (.i2l, 1) := by decide +kernel
theorem dX11_count_62 : decode cX11_count 62 = .ok (.lreturn, 1) := by decide +kernel
theorem dX11_count_63 : decode cX11_count 63 = .ok (.aload_n 0, 1) := by decide +kernel
theorem dX11_count_64 : decode cX11_count 64 = .ok (.getfield 25, 3) := by decide +kernel
theorem dX11_count_67 : decode cX11_count 67 = .ok (.getfield 161, 3) := by decide +kernel
theorem dX11_count_70 : decode cX11_count 70 = .ok (.i2l, 1) := by decide +kernel
theorem dX11_count_71 : decode cX11_count 71 = .ok (.lreturn, 1) := by decide +kernel
theorem dX11_count_72 : decode cX11_count 72 = .ok (.aload_n 0, 1) := by decide +kernel
theorem dX11_count_73 : decode cX11_count 73 = .ok (.getfield 35, 3) := by decide +kernel
theorem dX11_count_76 : decode cX11_count 76 = .ok (.getfield 167, 3) := by decide +kernel
theorem dX11_count_79 : decode cX11_count 79 = .ok (.i2l, 1) := by decide +kernel
theorem dX11_count_80 : decode cX11_count 80 = .ok (.lreturn, 1) := by decide +kernel
theorem dX11_count_81 : decode cX11_count 81 = .ok (.aload_n 0, 1) := by decide +kernel
theorem dX11_count_82 : decode cX11_count 82 = .ok (.getfield 42, 3) := by decide +kernel
theorem dX11_count_85 : decode cX11_count 85 = .ok (.getfield 191, 3) := by decide +kernel
theorem dX11_count_88 : decode cX11_count 88 = .ok (.i2l, 1) := by decide +kernel
theorem dX11_count_89 : decode cX11_count 89 = .ok (.lreturn, 1) := by decide +kernel
theorem dX11_count_90 : decode cX11_count 90 = .ok (.aload_n 0, 1) := by decide +kernel
theorem dX11_count_91 : decode cX11_count 91 = .ok (.getfield 42, 3) := by decide +kernel
theorem dX11_count_94 : decode cX11_count 94 = .ok (.invokevirtual 289, 3) := by decide +kernel
theorem dX11_count_97 : decode cX11_count 97 = .ok (.i2l, 1) := by decide +kernel
theorem dX11_count_98 : decode cX11_count 98 = .ok (.lreturn, 1) := by decide +kernel
theorem dX11_count_99 : decode cX11_count 99 = .ok (.aload_n 0, 1) := by decide +kernel
theorem dX11_count_100 : decode cX11_count 100 = .ok (.getfield 82, 3) := by decide +kernel
theorem dX11_count_103 : decode cX11_count 103 = .ok (.getfield 245, 3) := by decide +kernel
theorem dX11_count_106 : decode cX11_count 106 = .ok (.i2l, 1) := by decide +kernel
theorem dX11_count_107 : decode cX11_count 107 = .ok (.lreturn, 1) := by decide +kernel
theorem dX11_count_108 : decode cX11_count 108 = .ok (.aload_n 0, 1) := by decide +kernel
theorem dX11_count_109 : decode cX11_count 109 = .ok (.getfield 18, 3) := by decide +kernel
theorem dX11_count_112 : decode cX11_count 112 = .ok (.getfield 145, 3) := by decide +kernel
theorem dX11_count_115 : decode cX11_count 115 = .ok (.i2l, 1) := by decide +kernel
theorem dX11_count_116 : decode cX11_count 116 = .ok (.lreturn, 1) := by decide +kernel
theorem dX11_count_117 : decode cX11_count 117 = .ok (.ldc2_w 102, 3) := by decide +kernel
theorem dX11_count_120 : decode cX11_count 120 = .ok (.lreturn, 1) := by decide +kernel
theorem dX11_status_0 : decode cX11_status 0 = .ok (.aload_n 0, 1) := by decide +kernel
theorem dX11_status_1 : decode cX11_status 1 = .ok (.getfield 292, 3) := by decide +kernel
theorem dX11_status_4 : decode cX11_status 4 = .ok (.ireturn, 1) := by decide +kernel
theorem dX11_isWithin_0 : decode cX11_isWithin 0 = .ok (.iload_n 0, 1) := by decide +kernel
theorem dX11_isWithin_1 : decode cX11_isWithin 1 = .ok (.iload_n 1, 1) := by decide +kernel
theorem dX11_isWithin_2 : decode cX11_isWithin 2 = .ok (.if_icmp .lt 12, 3) := by decide +kernel
theorem dX11_isWithin_5 : decode cX11_isWithin 5 = .ok (.iload_n 0, 1) := by decide +kernel
theorem dX11_isWithin_6 : decode cX11_isWithin 6 = .ok (.iload_n 2, 1) := by decide +kernel
theorem dX11_isWithin_7 : decode cX11_isWithin 7 = .ok (.if_icmp .gt 7, 3) := by decide +kernel
theorem dX11_isWithin_10 : decode cX11_isWithin 10 = .ok (.iconst 1, 1) := by decide +kernel
theorem dX11_isWithin_11 : decode cX11_isWithin 11 = .ok (.goto 4, 3) := by decide +kernel
theorem dX11_isWithin_14 : decode cX11_isWithin 14 = .ok (.iconst 0, 1) := by decide +kernel
theorem dX11_isWithin_15 : decode cX11_isWithin 15 = .ok (.ireturn, 1) := by decide +kernel
theorem dX11_isRow_0 : decode cX11_isRow 0 = .ok (.iload_n 0, 1) := by decide +kernel
theorem dX11_isRow_1 : decode cX11_isRow 1 = .ok (.iconst 0, 1) := by decide +kernel
theorem dX11_isRow_2 : decode cX11_isRow 2 = .ok (.bipush 7, 2) := by decide +kernel
theorem dX11_isRow_4 : decode cX11_isRow 4 = .ok (.invokestatic 98, 3) := by decide +kernel
theorem dX11_isRow_7 : decode cX11_isRow 7 = .ok (.ireturn, 1) := by decide +kernel
theorem dX11_found_0 : decode cX11_found 0 = .ok (.aload_n 0, 1) := by decide +kernel
theorem dX11_found_1 : decode cX11_found 1 = .ok (.iload_n 1, 1) := by decide +kernel
theorem dX11_found_2 : decode cX11_found 2 = .ok (.putfield 292, 3) := by decide +kernel
theorem dX11_found_5 : decode cX11_found 5 = .ok (.ldc2_w 295, 3) := by decide +kernel
theorem dX11_found_8 : decode cX11_found 8 = .ok (.iload_n 1, 1) := by decide +kernel
theorem dX11_found_9 : decode cX11_found 9 = .ok (.i2l, 1) := by decide +kernel
theorem dX11_found_10 : decode cX11_found 10 = .ok (.lsub, 1) := by decide +kernel
theorem dX11_found_11 : decode cX11_found 11 = .ok (.lreturn, 1) := by decide +kernel
theorem dX11_foundNothing_0 : decode cX11_foundNothing 0 = .ok (.aload_n 0, 1) := by decide +kernel
theorem dX11_foundNothing_1 : decode cX11_foundNothing 1 = .ok (.iconst 0, 1) := by decide +kernel
theorem dX11_foundNothing_2 : decode cX11_foundNothing 2 = .ok (.putfield 292, 3) := by decide +kernel
theorem dX11_foundNothing_5 : decode cX11_foundNothing 5 = .ok (.lload_n 1, 1) := by decide +kernel
theorem dX11_foundNothing_6 : decode cX11_foundNothing 6 = .ok (.lreturn, 1) := by decide +kernel
theorem dX11_rowsThere_0 : decode cX11_rowsThere 0 = .ok (.iconst 0, 1) := by decide +kernel
theorem dX11_rowsThere_1 : decode cX11_rowsThere 1 = .ok (.istore_n 1, 1) := by decide +kernel
theorem dX11_rowsThere_2 : decode cX11_rowsThere 2 = .ok (.iconst 0, 1) := by decide +kernel
theorem dX11_rowsThere_3 : decode cX11_rowsThere 3 = .ok (.istore_n 2, 1) := by decide +kernel
theorem dX11_rowsThere_4 : decode cX11_rowsThere 4 = .ok (.iload_n 2, 1) := by decide +kernel
theorem dX11_rowsThere_5 : decode cX11_rowsThere 5 = .ok (.bipush 8, 2) := by decide +kernel
theorem dX11_rowsThere_7 : decode cX11_rowsThere 7 = .ok (.if_icmp .ge 24, 3) := by decide +kernel
theorem dX11_rowsThere_10 : decode cX11_rowsThere 10 = .ok (.aload_n 0, 1) := by decide +kernel
theorem dX11_rowsThere_11 : decode cX11_rowsThere 11 = .ok (.getfield 11, 3) := by decide +kernel
theorem dX11_rowsThere_14 : decode cX11_rowsThere 14 = .ok (.iload_n 2, 1) := by decide +kernel
theorem dX11_rowsThere_15 : decode cX11_rowsThere 15 = .ok (.aaload, 1) := by decide +kernel
theorem dX11_rowsThere_16 : decode cX11_rowsThere 16 = .ok (.getfield 116, 3) := by decide +kernel
theorem dX11_rowsThere_19 : decode cX11_rowsThere 19 = .ok (.ifCond .eq 6, 3) := by decide +kernel
theorem dX11_rowsThere_22 : decode cX11_rowsThere 22 = .ok (.iinc 1 1, 3) := by decide +kernel
theorem dX11_rowsThere_25 : decode cX11_rowsThere 25 = .ok (.iinc 2 1, 3) := by decide +kernel
theorem dX11_rowsThere_28 : decode cX11_rowsThere 28 = .ok (.goto (-24), 3) := by decide +kernel
theorem dX11_rowsThere_31 : decode cX11_rowsThere 31 = .ok (.iload_n 1, 1) := by decide +kernel
theorem dX11_rowsThere_32 : decode cX11_rowsThere 32 = .ok (.ireturn, 1) := by decide +kernel
theorem dX11_wishNow_0 : decode cX11_wishNow 0 = .ok (.aload_n 0, 1) := by decide +kernel
theorem dX11_wishNow_1 : decode cX11_wishNow 1 = .ok (.iconst 0, 1) := by decide +kernel
theorem dX11_wishNow_2 : decode cX11_wishNow 2 = .ok (.iconst 0, 1) := by decide +kernel
theorem dX11_wishNow_3 : decode cX11_wishNow 3 = .ok (.invokevirtual 223, 3) := by decide +kernel
theorem dX11_wishNow_6 : decode cX11_wishNow 6 = .ok (.ireturn, 1) := by decide +kernel
theorem dX11_wishWith_0 : decode cX11_wishWith 0 = .ok (.aload_n 0, 1) := by decide +kernel
theorem dX11_wishWith_1 : decode cX11_wishWith 1 = .ok (.getfield 35, 3) := by decide +kernel
theorem dX11_wishWith_4 : decode cX11_wishWith 4 = .ok (.getfield 178, 3) := by decide +kernel
theorem dX11_wishWith_7 : decode cX11_wishWith 7 = .ok (.iload_n 1, 1) := by decide +kernel
theorem dX11_wishWith_8 : decode cX11_wishWith 8 = .ok (.iaload, 1) := by decide +kernel
theorem dX11_wishWith_9 : decode cX11_wishWith 9 = .ok (.istore_n 3, 1) := by decide +kernel
theorem dX11_wishWith_10 : decode cX11_wishWith 10 = .ok (.aload_n 0, 1) := by decide +kernel
theorem dX11_wishWith_11 : decode cX11_wishWith 11 = .ok (.getfield 35, 3) := by decide +kernel
theorem dX11_wishWith_14 : decode cX11_wishWith 14 = .ok (.getfield 178, 3) := by decide +kernel
theorem dX11_wishWith_17 : decode cX11_wishWith 17 = .ok (.iload_n 1, 1) := by decide +kernel
theorem dX11_wishWith_18 : decode cX11_wishWith 18 = .ok (.iload_n 3, 1) := by decide +kernel
theorem dX11_wishWith_19 : decode cX11_wishWith 19 = .ok (.iload_n 2, 1) := by decide +kernel
theorem dX11_wishWith_20 : decode cX11_wishWith 20 = .ok (.iadd, 1) := by decide +kernel
theorem dX11_wishWith_21 : decode cX11_wishWith 21 = .ok (.iastore, 1) := by decide +kernel
theorem dX11_wishWith_22 : decode cX11_wishWith 22 = .ok (.aload_n 0, 1) := by decide +kernel
theorem dX11_wishWith_23 : decode cX11_wishWith 23 = .ok (.getfield 58, 3) := by decide +kernel
theorem dX11_wishWith_26 : decode cX11_wishWith 26 = .ok (.aload_n 0, 1) := by decide +kernel
theorem dX11_wishWith_27 : decode cX11_wishWith 27 = .ok (.getfield 25, 3) := by decide +kernel
theorem dX11_wishWith_30 : decode cX11_wishWith 30 = .ok (.aload_n 0, 1) := by decide +kernel
theorem dX11_wishWith_31 : decode cX11_wishWith 31 = .ok (.getfield 35, 3) := by decide +kernel
theorem dX11_wishWith_34 : decode cX11_wishWith 34 = .ok (.getfield 178, 3) := by decide +kernel
theorem dX11_wishWith_37 : decode cX11_wishWith 37 = .ok (.aload_n 0, 1) := by decide +kernel
theorem dX11_wishWith_38 : decode cX11_wishWith 38 = .ok (.getfield 42, 3) := by decide +kernel
theorem dX11_wishWith_41 : decode cX11_wishWith 41 = .ok (.aload_n 0, 1) := by decide +kernel
theorem dX11_wishWith_42 : decode cX11_wishWith 42 = .ok (.getfield 35, 3) := by decide +kernel
theorem dX11_wishWith_45 : decode cX11_wishWith 45 = .ok (.getfield 167, 3) := by decide +kernel
theorem dX11_wishWith_48 : decode cX11_wishWith 48 = .ok (.invokevirtual 203, 3) := by decide +kernel
theorem dX11_wishWith_51 : decode cX11_wishWith 51 = .ok (.invokevirtual 184, 3) := by decide +kernel
theorem dX11_wishWith_54 : decode cX11_wishWith 54 = .ok (.aload_n 0, 1) := by decide +kernel
theorem dX11_wishWith_55 : decode cX11_wishWith 55 = .ok (.getfield 35, 3) := by decide +kernel
theorem dX11_wishWith_58 : decode cX11_wishWith 58 = .ok (.getfield 178, 3) := by decide +kernel
theorem dX11_wishWith_61 : decode cX11_wishWith 61 = .ok (.iload_n 1, 1) := by decide +kernel
theorem dX11_wishWith_62 : decode cX11_wishWith 62 = .ok (.iload_n 3, 1) := by decide +kernel
theorem dX11_wishWith_63 : decode cX11_wishWith 63 = .ok (.iastore, 1) := by decide +kernel
theorem dX11_wishWith_64 : decode cX11_wishWith 64 = .ok (.aload_n 0, 1) := by decide +kernel
theorem dX11_wishWith_65 : decode cX11_wishWith 65 = .ok (.getfield 42, 3) := by decide +kernel
theorem dX11_wishWith_68 : decode cX11_wishWith 68 = .ok (.aload_n 0, 1) := by decide +kernel
theorem dX11_wishWith_69 : decode cX11_wishWith 69 = .ok (.getfield 58, 3) := by decide +kernel
theorem dX11_wishWith_72 : decode cX11_wishWith 72 = .ok (.aload_n 0, 1) := by decide +kernel
theorem dX11_wishWith_73 : decode cX11_wishWith 73 = .ok (.getfield 35, 3) := by decide +kernel
theorem dX11_wishWith_76 : decode cX11_wishWith 76 = .ok (.getfield 167, 3) := by decide +kernel
theorem dX11_wishWith_79 : decode cX11_wishWith 79 = .ok (.invokevirtual 297, 3) := by decide +kernel
theorem dX11_wishWith_82 : decode cX11_wishWith 82 = .ok (.ireturn, 1) := by decide +kernel
theorem dX11_knotsNow_0 : decode cX11_knotsNow 0 = .ok (.aload_n 0, 1) := by decide +kernel
theorem dX11_knotsNow_1 : decode cX11_knotsNow 1 = .ok (.getfield 42, 3) := by decide +kernel
theorem dX11_knotsNow_4 : decode cX11_knotsNow 4 = .ok (.aload_n 0, 1) := by decide +kernel
theorem dX11_knotsNow_5 : decode cX11_knotsNow 5 = .ok (.getfield 35, 3) := by decide +kernel
theorem dX11_knotsNow_8 : decode cX11_knotsNow 8 = .ok (.getfield 167, 3) := by decide +kernel
theorem dX11_knotsNow_11 : decode cX11_knotsNow 11 = .ok (.invokevirtual 203, 3) := by decide +kernel
theorem dX11_knotsNow_14 : decode cX11_knotsNow 14 = .ok (.istore_n 1, 1) := by decide +kernel
theorem dX11_knotsNow_15 : decode cX11_knotsNow 15 = .ok (.aload_n 0, 1) := by decide +kernel
theorem dX11_knotsNow_16 : decode cX11_knotsNow 16 = .ok (.getfield 58, 3) := by decide +kernel
theorem dX11_knotsNow_19 : decode cX11_knotsNow 19 = .ok (.aload_n 0, 1) := by decide +kernel
theorem dX11_knotsNow_20 : decode cX11_knotsNow 20 = .ok (.getfield 25, 3) := by decide +kernel
theorem dX11_knotsNow_23 : decode cX11_knotsNow 23 = .ok (.aload_n 0, 1) := by decide +kernel
theorem dX11_knotsNow_24 : decode cX11_knotsNow 24 = .ok (.getfield 35, 3) := by decide +kernel
theorem dX11_knotsNow_27 : decode cX11_knotsNow 27 = .ok (.getfield 178, 3) := by decide +kernel
theorem dX11_knotsNow_30 : decode cX11_knotsNow 30 = .ok (.iload_n 1, 1) := by decide +kernel
theorem dX11_knotsNow_31 : decode cX11_knotsNow 31 = .ok (.invokevirtual 184, 3) := by decide +kernel
theorem dX11_knotsNow_34 : decode cX11_knotsNow 34 = .ok (.aload_n 0, 1) := by decide +kernel
theorem dX11_knotsNow_35 : decode cX11_knotsNow 35 = .ok (.getfield 58, 3) := by decide +kernel
theorem dX11_knotsNow_38 : decode cX11_knotsNow 38 = .ok (.aload_n 0, 1) := by decide +kernel
theorem dX11_knotsNow_39 : decode cX11_knotsNow 39 = .ok (.getfield 25, 3) := by decide +kernel
theorem dX11_knotsNow_42 : decode cX11_knotsNow 42 = .ok (.aload_n 0, 1) := by decide +kernel
theorem dX11_knotsNow_43 : decode cX11_knotsNow 43 = .ok (.getfield 35, 3) := by decide +kernel
theorem dX11_knotsNow_46 : decode cX11_knotsNow 46 = .ok (.getfield 178, 3) := by decide +kernel
theorem dX11_knotsNow_49 : decode cX11_knotsNow 49 = .ok (.iload_n 1, 1) := by decide +kernel
theorem dX11_knotsNow_50 : decode cX11_knotsNow 50 = .ok (.invokevirtual 301, 3) := by decide +kernel
theorem dX11_knotsNow_53 : decode cX11_knotsNow 53 = .ok (.ireturn, 1) := by decide +kernel
theorem dX11_helps_0 : decode cX11_helps 0 = .ok (.aload_n 0, 1) := by decide +kernel
theorem dX11_helps_1 : decode cX11_helps 1 = .ok (.getfield 35, 3) := by decide +kernel
theorem dX11_helps_4 : decode cX11_helps 4 = .ok (.getfield 178, 3) := by decide +kernel
theorem dX11_helps_7 : decode cX11_helps 7 = .ok (.iload_n 1, 1) := by decide +kernel
theorem dX11_helps_8 : decode cX11_helps 8 = .ok (.iaload, 1) := by decide +kernel
theorem dX11_helps_9 : decode cX11_helps 9 = .ok (.iload_n 2, 1) := by decide +kernel
theorem dX11_helps_10 : decode cX11_helps 10 = .ok (.iadd, 1) := by decide +kernel
theorem dX11_helps_11 : decode cX11_helps 11 = .ok (.iconst 0, 1) := by decide +kernel
theorem dX11_helps_12 : decode cX11_helps 12 = .ok (.bipush 9, 2) := by decide +kernel
theorem dX11_helps_14 : decode cX11_helps 14 = .ok (.invokestatic 98, 3) := by decide +kernel
theorem dX11_helps_17 : decode cX11_helps 17 = .ok (.ifCond .eq 17, 3) := by decide +kernel
theorem dX11_helps_20 : decode cX11_helps 20 = .ok (.aload_n 0, 1) := by decide +kernel
theorem dX11_helps_21 : decode cX11_helps 21 = .ok (.iload_n 1, 1) := by decide +kernel
theorem dX11_helps_22 : decode cX11_helps 22 = .ok (.iload_n 2, 1) := by decide +kernel
theorem dX11_helps_23 : decode cX11_helps 23 = .ok (.invokevirtual 223, 3) := by decide +kernel
theorem dX11_helps_26 : decode cX11_helps 26 = .ok (.iload_n 3, 1) := by decide +kernel
theorem dX11_helps_27 : decode cX11_helps 27 = .ok (.if_icmp .ge 7, 3) := by decide +kernel
theorem dX11_helps_30 : decode cX11_helps 30 = .ok (.iconst 1, 1) := by decide +kernel
theorem dX11_helps_31 : decode cX11_helps 31 = .ok (.goto 4, 3) := by decide +kernel
theorem dX11_helps_34 : decode cX11_helps 34 = .ok (.iconst 0, 1) := by decide +kernel
theorem dX11_helps_35 : decode cX11_helps 35 = .ok (.ireturn, 1) := by decide +kernel
theorem dX11_isKind_0 : decode cX11_isKind 0 = .ok (.iload_n 0, 1) := by decide +kernel
theorem dX11_isKind_1 : decode cX11_isKind 1 = .ok (.istore_n 2, 1) := by decide +kernel
theorem dX11_isKind_2 : decode cX11_isKind 2 = .ok (.iconst 0, 1) := by decide +kernel
theorem dX11_isKind_3 : decode cX11_isKind 3 = .ok (.istore_n 3, 1) := by decide +kernel
theorem dX11_isKind_4 : decode cX11_isKind 4 = .ok (.iload_n 3, 1) := by decide +kernel
theorem dX11_isKind_5 : decode cX11_isKind 5 = .ok (.getstatic 305, 3) := by decide +kernel
theorem dX11_isKind_8 : decode cX11_isKind 8 = .ok (.arraylength, 1) := by decide +kernel
theorem dX11_isKind_9 : decode cX11_isKind 9 = .ok (.if_icmp .ge 28, 3) := by decide +kernel
theorem dX11_isKind_12 : decode cX11_isKind 12 = .ok (.iload_n 2, 1) := by decide +kernel
theorem dX11_isKind_13 : decode cX11_isKind 13 = .ok (.ldc 241, 2) := by decide +kernel
theorem dX11_isKind_15 : decode cX11_isKind 15 = .ok (.if_icmp .eq 22, 3) := by decide +kernel
theorem dX11_isKind_18 : decode cX11_isKind 18 = .ok (.iload_n 2, 1) := by decide +kernel
theorem dX11_isKind_19 : decode cX11_isKind 19 = .ok (.iload_n 1, 1) := by decide +kernel
theorem dX11_isKind_20 : decode cX11_isKind 20 = .ok (.if_icmp .ne 5, 3) := by decide +kernel
theorem dX11_isKind_23 : decode cX11_isKind 23 = .ok (.iconst 1, 1) := by decide +kernel
theorem dX11_isKind_24 : decode cX11_isKind 24 = .ok (.ireturn, 1) := by decide +kernel
theorem dX11_isKind_25 : decode cX11_isKind 25 = .ok (.getstatic 305, 3) := by decide +kernel
theorem dX11_isKind_28 : decode cX11_isKind 28 = .ok (.iload_n 2, 1) := by decide +kernel
theorem dX11_isKind_29 : decode cX11_isKind 29 = .ok (.iaload, 1) := by decide +kernel
theorem dX11_isKind_30 : decode cX11_isKind 30 = .ok (.istore_n 2, 1) := by decide +kernel
theorem dX11_isKind_31 : decode cX11_isKind 31 = .ok (.iinc 3 1, 3) := by decide +kernel
theorem dX11_isKind_34 : decode cX11_isKind 34 = .ok (.goto (-30), 3) := by decide +kernel
theorem dX11_isKind_37 : decode cX11_isKind 37 = .ok (.iconst 0, 1) := by decide +kernel
theorem dX11_isKind_38 : decode cX11_isKind 38 = .ok (.ireturn, 1) := by decide +kernel
