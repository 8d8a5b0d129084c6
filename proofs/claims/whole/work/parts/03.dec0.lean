theorem dX0_init_0 : decode cX0_init 0 = .ok (.aload_n 0, 1) := by decide +kernel
theorem dX0_init_1 : decode cX0_init 1 = .ok (.invokespecial 3, 3) := by decide +kernel
theorem dX0_init_4 : decode cX0_init 4 = .ok (.aload_n 0, 1) := by decide +kernel
theorem dX0_init_5 : decode cX0_init 5 = .ok (.bipush 17, 2) := by decide +kernel
theorem dX0_init_7 : decode cX0_init 7 = .ok (.newarray .int, 2) := by decide +kernel
theorem dX0_init_9 : decode cX0_init 9 = .ok (.putfield 11, 3) := by decide +kernel
theorem dX0_init_12 : decode cX0_init 12 = .ok (.aload_n 0, 1) := by decide +kernel
theorem dX0_init_13 : decode cX0_init 13 = .ok (.bipush 17, 2) := by decide +kernel
theorem dX0_init_15 : decode cX0_init 15 = .ok (.newarray .int, 2) := by decide +kernel
theorem dX0_init_17 : decode cX0_init 17 = .ok (.putfield 15, 3) := by decide +kernel
theorem dX0_init_20 : decode cX0_init 20 = .ok (.aload_n 0, 1) := by decide +kernel
theorem dX0_init_21 : decode cX0_init 21 = .ok (.bipush 17, 2) := by decide +kernel
theorem dX0_init_23 : decode cX0_init 23 = .ok (.newarray .int, 2) := by decide +kernel
theorem dX0_init_25 : decode cX0_init 25 = .ok (.putfield 18, 3) := by decide +kernel
theorem dX0_init_28 : decode cX0_init 28 = .ok (.aload_n 0, 1) := by decide +kernel
theorem dX0_init_29 : decode cX0_init 29 = .ok (.bipush 17, 2) := by decide +kernel
theorem dX0_init_31 : decode cX0_init 31 = .ok (.newarray .int, 2) := by decide +kernel
theorem dX0_init_33 : decode cX0_init 33 = .ok (.putfield 21, 3) := by decide +kernel
theorem dX0_init_36 : decode cX0_init 36 = .ok (.aload_n 0, 1) := by decide +kernel
theorem dX0_init_37 : decode cX0_init 37 = .ok (.bipush 8, 2) := by decide +kernel
theorem dX0_init_39 : decode cX0_init 39 = .ok (.newarray .int, 2) := by decide +kernel
theorem dX0_init_41 : decode cX0_init 41 = .ok (.putfield 24, 3) := by decide +kernel
theorem dX0_init_44 : decode cX0_init 44 = .ok (.aload_n 0, 1) := by decide +kernel
theorem dX0_init_45 : decode cX0_init 45 = .ok (.iconst 0, 1) := by decide +kernel
theorem dX0_init_46 : decode cX0_init 46 = .ok (.putfield 27, 3) := by decide +kernel
theorem dX0_init_49 : decode cX0_init 49 = .ok (.aload_n 0, 1) := by decide +kernel
theorem dX0_init_50 : decode cX0_init 50 = .ok (.iconst 0, 1) := by decide +kernel
theorem dX0_init_51 : decode cX0_init 51 = .ok (.putfield 31, 3) := by decide +kernel
theorem dX0_init_54 : decode cX0_init 54 = .ok (.aload_n 0, 1) := by decide +kernel
theorem dX0_init_55 : decode cX0_init 55 = .ok (.iconst 0, 1) := by decide +kernel
theorem dX0_init_56 : decode cX0_init 56 = .ok (.putfield 34, 3) := by decide +kernel
theorem dX0_init_59 : decode cX0_init 59 = .ok (.aload_n 0, 1) := by decide +kernel
theorem dX0_init_60 : decode cX0_init 60 = .ok (.iconst 0, 1) := by decide +kernel
theorem dX0_init_61 : decode cX0_init 61 = .ok (.putfield 37, 3) := by decide +kernel
theorem dX0_init_64 : decode cX0_init 64 = .ok (.return_, 1) := by decide +kernel
theorem dX0_lay_0 : decode cX0_lay 0 = .ok (.iload_n 1, 1) := by decide +kernel
theorem dX0_lay_1 : decode cX0_lay 1 = .ok (.ifCond .lt 29, 3) := by decide +kernel
theorem dX0_lay_4 : decode cX0_lay 4 = .ok (.iload_n 1, 1) := by decide +kernel
theorem dX0_lay_5 : decode cX0_lay 5 = .ok (.bipush 17, 2) := by decide +kernel
theorem dX0_lay_7 : decode cX0_lay 7 = .ok (.if_icmp .ge 23, 3) := by decide +kernel
theorem dX0_lay_10 : decode cX0_lay 10 = .ok (.aload_n 0, 1) := by decide +kernel
theorem dX0_lay_11 : decode cX0_lay 11 = .ok (.getfield 11, 3) := by decide +kernel
theorem dX0_lay_14 : decode cX0_lay 14 = .ok (.iload_n 1, 1) := by decide +kernel
theorem dX0_lay_15 : decode cX0_lay 15 = .ok (.iload_n 2, 1) := by decide +kernel
theorem dX0_lay_16 : decode cX0_lay 16 = .ok (.bipush 7, 2) := by decide +kernel
theorem dX0_lay_18 : decode cX0_lay 18 = .ok (.iand, 1) := by decide +kernel
theorem dX0_lay_19 : decode cX0_lay 19 = .ok (.iastore, 1) := by decide +kernel
theorem dX0_lay_20 : decode cX0_lay 20 = .ok (.aload_n 0, 1) := by decide +kernel
theorem dX0_lay_21 : decode cX0_lay 21 = .ok (.getfield 15, 3) := by decide +kernel
theorem dX0_lay_24 : decode cX0_lay 24 = .ok (.iload_n 1, 1) := by decide +kernel
theorem dX0_lay_25 : decode cX0_lay 25 = .ok (.iload_n 3, 1) := by decide +kernel
theorem dX0_lay_26 : decode cX0_lay 26 = .ok (.bipush 7, 2) := by decide +kernel
theorem dX0_lay_28 : decode cX0_lay 28 = .ok (.iand, 1) := by decide +kernel
theorem dX0_lay_29 : decode cX0_lay 29 = .ok (.iastore, 1) := by decide +kernel
theorem dX0_lay_30 : decode cX0_lay 30 = .ok (.return_, 1) := by decide +kernel
theorem dX0_begin_0 : decode cX0_begin 0 = .ok (.aload_n 0, 1) := by decide +kernel
theorem dX0_begin_1 : decode cX0_begin 1 = .ok (.iconst 0, 1) := by decide +kernel
theorem dX0_begin_2 : decode cX0_begin 2 = .ok (.putfield 27, 3) := by decide +kernel
theorem dX0_begin_5 : decode cX0_begin 5 = .ok (.aload_n 0, 1) := by decide +kernel
theorem dX0_begin_6 : decode cX0_begin 6 = .ok (.iconst 0, 1) := by decide +kernel
theorem dX0_begin_7 : decode cX0_begin 7 = .ok (.putfield 31, 3) := by decide +kernel
theorem dX0_begin_10 : decode cX0_begin 10 = .ok (.aload_n 0, 1) := by decide +kernel
theorem dX0_begin_11 : decode cX0_begin 11 = .ok (.iconst 0, 1) := by decide +kernel
theorem dX0_begin_12 : decode cX0_begin 12 = .ok (.putfield 34, 3) := by decide +kernel
theorem dX0_begin_15 : decode cX0_begin 15 = .ok (.aload_n 0, 1) := by decide +kernel
theorem dX0_begin_16 : decode cX0_begin 16 = .ok (.iconst 0, 1) := by decide +kernel
theorem dX0_begin_17 : decode cX0_begin 17 = .ok (.putfield 37, 3) := by decide +kernel
theorem dX0_begin_20 : decode cX0_begin 20 = .ok (.return_, 1) := by decide +kernel
theorem dX0_total_0 : decode cX0_total 0 = .ok (.aload_n 0, 1) := by decide +kernel
theorem dX0_total_1 : decode cX0_total 1 = .ok (.getfield 27, 3) := by decide +kernel
theorem dX0_total_4 : decode cX0_total 4 = .ok (.invokestatic 40, 3) := by decide +kernel
theorem dX0_total_7 : decode cX0_total 7 = .ok (.aload_n 0, 1) := by decide +kernel
theorem dX0_total_8 : decode cX0_total 8 = .ok (.getfield 31, 3) := by decide +kernel
theorem dX0_total_11 : decode cX0_total 11 = .ok (.invokestatic 40, 3) := by decide +kernel
theorem dX0_total_14 : decode cX0_total 14 = .ok (.iadd, 1) := by decide +kernel
theorem dX0_total_15 : decode cX0_total 15 = .ok (.ireturn, 1) := by decide +kernel
theorem dX0_isInside_0 : decode cX0_isInside 0 = .ok (.iload_n 1, 1) := by decide +kernel
theorem dX0_isInside_1 : decode cX0_isInside 1 = .ok (.ifCond .lt 24, 3) := by decide +kernel
theorem dX0_isInside_4 : decode cX0_isInside 4 = .ok (.iload_n 1, 1) := by decide +kernel
theorem dX0_isInside_5 : decode cX0_isInside 5 = .ok (.bipush 17, 2) := by decide +kernel
theorem dX0_isInside_7 : decode cX0_isInside 7 = .ok (.if_icmp .ge 18, 3) := by decide +kernel
theorem dX0_isInside_10 : decode cX0_isInside 10 = .ok (.aload_n 0, 1) := by decide +kernel
theorem dX0_isInside_11 : decode cX0_isInside 11 = .ok (.getfield 11, 3) := by decide +kernel
theorem dX0_isInside_14 : decode cX0_isInside 14 = .ok (.iload_n 1, 1) := by decide +kernel
theorem dX0_isInside_15 : decode cX0_isInside 15 = .ok (.iaload, 1) := by decide +kernel
theorem dX0_isInside_16 : decode cX0_isInside 16 = .ok (.aload_n 0, 1) := by decide +kernel
theorem dX0_isInside_17 : decode cX0_isInside 17 = .ok (.getfield 15, 3) := by decide +kernel
theorem dX0_isInside_20 : decode cX0_isInside 20 = .ok (.iload_n 1, 1) := by decide +kernel
theorem dX0_isInside_21 : decode cX0_isInside 21 = .ok (.iaload, 1) := by decide +kernel
theorem dX0_isInside_22 : decode cX0_isInside 22 = .ok (.if_icmp .ne 5, 3) := by decide +kernel
theorem dX0_isInside_25 : decode cX0_isInside 25 = .ok (.iconst 0, 1) := by decide +kernel
theorem dX0_isInside_26 : decode cX0_isInside 26 = .ok (.ireturn, 1) := by decide +kernel
theorem dX0_isInside_27 : decode cX0_isInside 27 = .ok (.iload_n 2, 1) := by decide +kernel
theorem dX0_isInside_28 : decode cX0_isInside 28 = .ok (.aload_n 0, 1) := by decide +kernel
theorem dX0_isInside_29 : decode cX0_isInside 29 = .ok (.getfield 11, 3) := by decide +kernel
theorem dX0_isInside_32 : decode cX0_isInside 32 = .ok (.iload_n 1, 1) := by decide +kernel
theorem dX0_isInside_33 : decode cX0_isInside 33 = .ok (.iaload, 1) := by decide +kernel
theorem dX0_isInside_34 : decode cX0_isInside 34 = .ok (.iushr, 1) := by decide +kernel
theorem dX0_isInside_35 : decode cX0_isInside 35 = .ok (.iload_n 2, 1) := by decide +kernel
theorem dX0_isInside_36 : decode cX0_isInside 36 = .ok (.aload_n 0, 1) := by decide +kernel
theorem dX0_isInside_37 : decode cX0_isInside 37 = .ok (.getfield 15, 3) := by decide +kernel
theorem dX0_isInside_40 : decode cX0_isInside 40 = .ok (.iload_n 1, 1) := by decide +kernel
theorem dX0_isInside_41 : decode cX0_isInside 41 = .ok (.iaload, 1) := by decide +kernel
theorem dX0_isInside_42 : decode cX0_isInside 42 = .ok (.iushr, 1) := by decide +kernel
theorem dX0_isInside_43 : decode cX0_isInside 43 = .ok (.iand, 1) := by decide +kernel
theorem dX0_isInside_44 : decode cX0_isInside 44 = .ok (.iconst 1, 1) := by decide +kernel
theorem dX0_isInside_45 : decode cX0_isInside 45 = .ok (.iand, 1) := by decide +kernel
theorem dX0_isInside_46 : decode cX0_isInside 46 = .ok (.ifCond .eq 7, 3) := by decide +kernel
theorem dX0_isInside_49 : decode cX0_isInside 49 = .ok (.iconst 1, 1) := by decide +kernel
theorem dX0_isInside_50 : decode cX0_isInside 50 = .ok (.goto 4, 3) := by decide +kernel
theorem dX0_isInside_53 : decode cX0_isInside 53 = .ok (.iconst 0, 1) := by decide +kernel
theorem dX0_isInside_54 : decode cX0_isInside 54 = .ok (.ireturn, 1) := by decide +kernel
theorem dX0_bring_0 : decode cX0_bring 0 = .ok (.iload_n 1, 1) := by decide +kernel
theorem dX0_bring_1 : decode cX0_bring 1 = .ok (.ifCond .lt 9, 3) := by decide +kernel
theorem dX0_bring_4 : decode cX0_bring 4 = .ok (.iload_n 1, 1) := by decide +kernel
theorem dX0_bring_5 : decode cX0_bring 5 = .ok (.bipush 17, 2) := by decide +kernel
theorem dX0_bring_7 : decode cX0_bring 7 = .ok (.if_icmp .lt 5, 3) := by decide +kernel
theorem dX0_bring_10 : decode cX0_bring 10 = .ok (.iconst 0, 1) := by decide +kernel
theorem dX0_bring_11 : decode cX0_bring 11 = .ok (.ireturn, 1) := by decide +kernel
theorem dX0_bring_12 : decode cX0_bring 12 = .ok (.aload_n 0, 1) := by decide +kernel
theorem dX0_bring_13 : decode cX0_bring 13 = .ok (.dup, 1) := by decide +kernel
theorem dX0_bring_14 : decode cX0_bring 14 = .ok (.getfield 34, 3) := by decide +kernel
theorem dX0_bring_17 : decode cX0_bring 17 = .ok (.iconst 1, 1) := by decide +kernel
theorem dX0_bring_18 : decode cX0_bring 18 = .ok (.iload_n 1, 1) := by decide +kernel
theorem dX0_bring_19 : decode cX0_bring 19 = .ok (.ishl, 1) := by decide +kernel
theorem dX0_bring_20 : decode cX0_bring 20 = .ok (.ior, 1) := by decide +kernel
theorem dX0_bring_21 : decode cX0_bring 21 = .ok (.putfield 34, 3) := by decide +kernel
theorem dX0_bring_24 : decode cX0_bring 24 = .ok (.aload_n 0, 1) := by decide +kernel
theorem dX0_bring_25 : decode cX0_bring 25 = .ok (.getfield 21, 3) := by decide +kernel
theorem dX0_bring_28 : decode cX0_bring 28 = .ok (.iconst 0, 1) := by decide +kernel
theorem dX0_bring_29 : decode cX0_bring 29 = .ok (.iload_n 1, 1) := by decide +kernel
theorem dX0_bring_30 : decode cX0_bring 30 = .ok (.iastore, 1) := by decide +kernel
theorem dX0_bring_31 : decode cX0_bring 31 = .ok (.aload_n 0, 1) := by decide +kernel
theorem dX0_bring_32 : decode cX0_bring 32 = .ok (.getfield 18, 3) := by decide +kernel
theorem dX0_bring_35 : decode cX0_bring 35 = .ok (.iload_n 1, 1) := by decide +kernel
theorem dX0_bring_36 : decode cX0_bring 36 = .ok (.iconst (-1), 1) := by decide +kernel
theorem dX0_bring_37 : decode cX0_bring 37 = .ok (.iastore, 1) := by decide +kernel
theorem dX0_bring_38 : decode cX0_bring 38 = .ok (.iconst 1, 1) := by decide +kernel
theorem dX0_bring_39 : decode cX0_bring 39 = .ok (.iload_n 1, 1) := by decide +kernel
theorem dX0_bring_40 : decode cX0_bring 40 = .ok (.ishl, 1) := by decide +kernel
theorem dX0_bring_41 : decode cX0_bring 41 = .ok (.istore_n 2, 1) := by decide +kernel
theorem dX0_bring_42 : decode cX0_bring 42 = .ok (.iconst 1, 1) := by decide +kernel
theorem dX0_bring_43 : decode cX0_bring 43 = .ok (.istore_n 3, 1) := by decide +kernel
theorem dX0_bring_44 : decode cX0_bring 44 = .ok (.iconst 0, 1) := by decide +kernel
theorem dX0_bring_45 : decode cX0_bring 45 = .ok (.istore 4, 2) := by decide +kernel
theorem dX0_bring_47 : decode cX0_bring 47 = .ok (.iload 4, 2) := by decide +kernel
theorem dX0_bring_49 : decode cX0_bring 49 = .ok (.iload_n 3, 1) := by decide +kernel
theorem dX0_bring_50 : decode cX0_bring 50 = .ok (.if_icmp .ge 142, 3) := by decide +kernel
theorem dX0_bring_53 : decode cX0_bring 53 = .ok (.iload 4, 2) := by decide +kernel
theorem dX0_bring_55 : decode cX0_bring 55 = .ok (.bipush 17, 2) := by decide +kernel
theorem dX0_bring_57 : decode cX0_bring 57 = .ok (.if_icmp .ge 135, 3) := by decide +kernel
theorem dX0_bring_60 : decode cX0_bring 60 = .ok (.aload_n 0, 1) := by decide +kernel
theorem dX0_bring_61 : decode cX0_bring 61 = .ok (.getfield 21, 3) := by decide +kernel
theorem dX0_bring_64 : decode cX0_bring 64 = .ok (.iload 4, 2) := by decide +kernel
theorem dX0_bring_66 : decode cX0_bring 66 = .ok (.iaload, 1) := by decide +kernel
theorem dX0_bring_67 : decode cX0_bring 67 = .ok (.istore 5, 2) := by decide +kernel
theorem dX0_bring_69 : decode cX0_bring 69 = .ok (.aload_n 0, 1) := by decide +kernel
theorem dX0_bring_70 : decode cX0_bring 70 = .ok (.getfield 27, 3) := by decide +kernel
theorem dX0_bring_73 : decode cX0_bring 73 = .ok (.aload_n 0, 1) := by decide +kernel
theorem dX0_bring_74 : decode cX0_bring 74 = .ok (.getfield 37, 3) := by decide +kernel
theorem dX0_bring_77 : decode cX0_bring 77 = .ok (.ior, 1) := by decide +kernel
theorem dX0_bring_78 : decode cX0_bring 78 = .ok (.iload 5, 2) := by decide +kernel
theorem dX0_bring_80 : decode cX0_bring 80 = .ok (.invokestatic 46, 3) := by decide +kernel
theorem dX0_bring_83 : decode cX0_bring 83 = .ok (.ifCond .eq 7, 3) := by decide +kernel
theorem dX0_bring_86 : decode cX0_bring 86 = .ok (.iconst 0, 1) := by decide +kernel
theorem dX0_bring_87 : decode cX0_bring 87 = .ok (.goto 13, 3) := by decide +kernel
theorem dX0_bring_90 : decode cX0_bring 90 = .ok (.aload_n 0, 1) := by decide +kernel
theorem dX0_bring_91 : decode cX0_bring 91 = .ok (.aload_n 0, 1) := by decide +kernel
theorem dX0_bring_92 : decode cX0_bring 92 = .ok (.getfield 27, 3) := by decide +kernel
theorem dX0_bring_95 : decode cX0_bring 95 = .ok (.iload 5, 2) := by decide +kernel
theorem dX0_bring_97 : decode cX0_bring 97 = .ok (.invokevirtual 50, 3) := by decide +kernel
theorem dX0_bring_100 : decode cX0_bring 100 = .ok (.istore 6, 2) := by decide +kernel
theorem dX0_bring_102 : decode cX0_bring 102 = .ok (.iload 6, 2) := by decide +kernel
theorem dX0_bring_104 : decode cX0_bring 104 = .ok (.iconst (-1), 1) := by decide +kernel
theorem dX0_bring_105 : decode cX0_bring 105 = .ok (.if_icmp .ne 12, 3) := by decide +kernel
theorem dX0_bring_108 : decode cX0_bring 108 = .ok (.aload_n 0, 1) := by decide +kernel
theorem dX0_bring_109 : decode cX0_bring 109 = .ok (.iload 5, 2) := by decide +kernel
theorem dX0_bring_111 : decode cX0_bring 111 = .ok (.iconst 1, 1) := by decide +kernel
theorem dX0_bring_112 : decode cX0_bring 112 = .ok (.invokevirtual 54, 3) := by decide +kernel
theorem dX0_bring_115 : decode cX0_bring 115 = .ok (.iconst 1, 1) := by decide +kernel
theorem dX0_bring_116 : decode cX0_bring 116 = .ok (.ireturn, 1) := by decide +kernel
theorem dX0_bring_117 : decode cX0_bring 117 = .ok (.aload_n 0, 1) := by decide +kernel
theorem dX0_bring_118 : decode cX0_bring 118 = .ok (.getfield 31, 3) := by decide +kernel
theorem dX0_bring_121 : decode cX0_bring 121 = .ok (.iload 5, 2) := by decide +kernel
theorem dX0_bring_123 : decode cX0_bring 123 = .ok (.invokestatic 46, 3) := by decide +kernel
theorem dX0_bring_126 : decode cX0_bring 126 = .ok (.ifCond .eq 7, 3) := by decide +kernel
theorem dX0_bring_129 : decode cX0_bring 129 = .ok (.iconst 0, 1) := by decide +kernel
theorem dX0_bring_130 : decode cX0_bring 130 = .ok (.goto 13, 3) := by decide +kernel
theorem dX0_bring_133 : decode cX0_bring 133 = .ok (.aload_n 0, 1) := by decide +kernel
theorem dX0_bring_134 : decode cX0_bring 134 = .ok (.aload_n 0, 1) := by decide +kernel
theorem dX0_bring_135 : decode cX0_bring 135 = .ok (.getfield 31, 3) := by decide +kernel
theorem dX0_bring_138 : decode cX0_bring 138 = .ok (.iload 5, 2) := by decide +kernel
theorem dX0_bring_140 : decode cX0_bring 140 = .ok (.invokevirtual 50, 3) := by decide +kernel
theorem dX0_bring_143 : decode cX0_bring 143 = .ok (.istore 7, 2) := by decide +kernel
theorem dX0_bring_145 : decode cX0_bring 145 = .ok (.iload 7, 2) := by decide +kernel
theorem dX0_bring_147 : decode cX0_bring 147 = .ok (.iconst (-1), 1) := by decide +kernel
theorem dX0_bring_148 : decode cX0_bring 148 = .ok (.if_icmp .ne 12, 3) := by decide +kernel
theorem dX0_bring_151 : decode cX0_bring 151 = .ok (.aload_n 0, 1) := by decide +kernel
theorem dX0_bring_152 : decode cX0_bring 152 = .ok (.iload 5, 2) := by decide +kernel
theorem dX0_bring_154 : decode cX0_bring 154 = .ok (.iconst 0, 1) := by decide +kernel
theorem dX0_bring_155 : decode cX0_bring 155 = .ok (.invokevirtual 54, 3) := by decide +kernel
theorem dX0_bring_158 : decode cX0_bring 158 = .ok (.iconst 1, 1) := by decide +kernel
theorem dX0_bring_159 : decode cX0_bring 159 = .ok (.ireturn, 1) := by decide +kernel
theorem dX0_bring_160 : decode cX0_bring 160 = .ok (.iload 6, 2) := by decide +kernel
theorem dX0_bring_162 : decode cX0_bring 162 = .ok (.iload 7, 2) := by decide +kernel
theorem dX0_bring_164 : decode cX0_bring 164 = .ok (.ior, 1) := by decide +kernel
theorem dX0_bring_165 : decode cX0_bring 165 = .ok (.iload_n 2, 1) := by decide +kernel
theorem dX0_bring_166 : decode cX0_bring 166 = .ok (.iconst (-1), 1) := by decide +kernel
theorem dX0_bring_167 : decode cX0_bring 167 = .ok (.ixor, 1) := by decide +kernel
theorem dX0_bring_168 : decode cX0_bring 168 = .ok (.iand, 1) := by decide +kernel
theorem dX0_bring_169 : decode cX0_bring 169 = .ok (.istore 8, 2) := by decide +kernel
theorem dX0_bring_171 : decode cX0_bring 171 = .ok (.iload_n 2, 1) := by decide +kernel
theorem dX0_bring_172 : decode cX0_bring 172 = .ok (.iload 8, 2) := by decide +kernel
theorem dX0_bring_174 : decode cX0_bring 174 = .ok (.ior, 1) := by decide +kernel
theorem dX0_bring_175 : decode cX0_bring 175 = .ok (.istore_n 2, 1) := by decide +kernel
theorem dX0_bring_176 : decode cX0_bring 176 = .ok (.aload_n 0, 1) := by decide +kernel
theorem dX0_bring_177 : decode cX0_bring 177 = .ok (.iload 8, 2) := by decide +kernel
theorem dX0_bring_179 : decode cX0_bring 179 = .ok (.iload 5, 2) := by decide +kernel
theorem dX0_bring_181 : decode cX0_bring 181 = .ok (.iload_n 3, 1) := by decide +kernel
theorem dX0_bring_182 : decode cX0_bring 182 = .ok (.invokevirtual 58, 3) := by decide +kernel
theorem dX0_bring_185 : decode cX0_bring 185 = .ok (.istore_n 3, 1) := by decide +kernel
theorem dX0_bring_186 : decode cX0_bring 186 = .ok (.iinc 4 1, 3) := by decide +kernel
theorem dX0_bring_189 : decode cX0_bring 189 = .ok (.goto (-142), 3) := by decide +kernel
theorem dX0_bring_192 : decode cX0_bring 192 = .ok (.iconst 0, 1) := by decide +kernel
theorem dX0_bring_193 : decode cX0_bring 193 = .ok (.ireturn, 1) := by decide +kernel
theorem dX0_driven_0 : decode cX0_driven 0 = .ok (.iload_n 3, 1) := by decide +kernel
theorem dX0_driven_1 : decode cX0_driven 1 = .ok (.istore 4, 2) := by decide +kernel
theorem dX0_driven_3 : decode cX0_driven 3 = .ok (.iconst 0, 1) := by decide +kernel
theorem dX0_driven_4 : decode cX0_driven 4 = .ok (.istore 5, 2) := by decide +kernel
theorem dX0_driven_6 : decode cX0_driven 6 = .ok (.iload 5, 2) := by decide +kernel
theorem dX0_driven_8 : decode cX0_driven 8 = .ok (.bipush 17, 2) := by decide +kernel
theorem dX0_driven_10 : decode cX0_driven 10 = .ok (.if_icmp .ge 50, 3) := by decide +kernel
theorem dX0_driven_13 : decode cX0_driven 13 = .ok (.iload_n 1, 1) := by decide +kernel
theorem dX0_driven_14 : decode cX0_driven 14 = .ok (.iload 5, 2) := by decide +kernel
theorem dX0_driven_16 : decode cX0_driven 16 = .ok (.iushr, 1) := by decide +kernel
theorem dX0_driven_17 : decode cX0_driven 17 = .ok (.iconst 1, 1) := by decide +kernel
theorem dX0_driven_18 : decode cX0_driven 18 = .ok (.iand, 1) := by decide +kernel
theorem dX0_driven_19 : decode cX0_driven 19 = .ok (.ifCond .eq 35, 3) := by decide +kernel
theorem dX0_driven_22 : decode cX0_driven 22 = .ok (.iload 4, 2) := by decide +kernel
theorem dX0_driven_24 : decode cX0_driven 24 = .ok (.ifCond .lt 30, 3) := by decide +kernel
theorem dX0_driven_27 : decode cX0_driven 27 = .ok (.iload 4, 2) := by decide +kernel
theorem dX0_driven_29 : decode cX0_driven 29 = .ok (.bipush 17, 2) := by decide +kernel
theorem dX0_driven_31 : decode cX0_driven 31 = .ok (.if_icmp .ge 23, 3) := by decide +kernel
theorem dX0_driven_34 : decode cX0_driven 34 = .ok (.aload_n 0, 1) := by decide +kernel
theorem dX0_driven_35 : decode cX0_driven 35 = .ok (.getfield 18, 3) := by decide +kernel
theorem dX0_driven_38 : decode cX0_driven 38 = .ok (.iload 5, 2) := by decide +kernel
theorem dX0_driven_40 : decode cX0_driven 40 = .ok (.iload_n 2, 1) := by decide +kernel
theorem dX0_driven_41 : decode cX0_driven 41 = .ok (.iastore, 1) := by decide +kernel
theorem dX0_driven_42 : decode cX0_driven 42 = .ok (.aload_n 0, 1) := by decide +kernel
theorem dX0_driven_43 : decode cX0_driven 43 = .ok (.getfield 21, 3) := by decide +kernel
theorem dX0_driven_46 : decode cX0_driven 46 = .ok (.iload 4, 2) := by decide +kernel
theorem dX0_driven_48 : decode cX0_driven 48 = .ok (.iload 5, 2) := by decide +kernel
theorem dX0_driven_50 : decode cX0_driven 50 = .ok (.iastore, 1) := by decide +kernel
theorem dX0_driven_51 : decode cX0_driven 51 = .ok (.iinc 4 1, 3) := by decide +kernel
theorem dX0_driven_54 : decode cX0_driven 54 = .ok (.iinc 5 1, 3) := by decide +kernel
theorem dX0_driven_57 : decode cX0_driven 57 = .ok (.goto (-51), 3) := by decide +kernel
theorem dX0_driven_60 : decode cX0_driven 60 = .ok (.iload 4, 2) := by decide +kernel
theorem dX0_driven_62 : decode cX0_driven 62 = .ok (.ireturn, 1) := by decide +kernel
theorem dX0_shift_0 : decode cX0_shift 0 = .ok (.iload_n 1, 1) := by decide +kernel
theorem dX0_shift_1 : decode cX0_shift 1 = .ok (.istore_n 3, 1) := by decide +kernel
theorem dX0_shift_2 : decode cX0_shift 2 = .ok (.iload_n 2, 1) := by decide +kernel
theorem dX0_shift_3 : decode cX0_shift 3 = .ok (.istore 4, 2) := by decide +kernel
theorem dX0_shift_5 : decode cX0_shift 5 = .ok (.iconst 0, 1) := by decide +kernel
theorem dX0_shift_6 : decode cX0_shift 6 = .ok (.istore 5, 2) := by decide +kernel
theorem dX0_shift_8 : decode cX0_shift 8 = .ok (.iload 5, 2) := by decide +kernel
theorem dX0_shift_10 : decode cX0_shift 10 = .ok (.bipush 17, 2) := by decide +kernel
theorem dX0_shift_12 : decode cX0_shift 12 = .ok (.if_icmp .ge 108, 3) := by decide +kernel
theorem dX0_shift_15 : decode cX0_shift 15 = .ok (.iload_n 3, 1) := by decide +kernel
theorem dX0_shift_16 : decode cX0_shift 16 = .ok (.ifCond .lt 104, 3) := by decide +kernel
theorem dX0_shift_19 : decode cX0_shift 19 = .ok (.iload_n 3, 1) := by decide +kernel
theorem dX0_shift_20 : decode cX0_shift 20 = .ok (.bipush 17, 2) := by decide +kernel
theorem dX0_shift_22 : decode cX0_shift 22 = .ok (.if_icmp .ge 98, 3) := by decide +kernel
theorem dX0_shift_25 : decode cX0_shift 25 = .ok (.iconst 1, 1) := by decide +kernel
theorem dX0_shift_26 : decode cX0_shift 26 = .ok (.iload_n 3, 1) := by decide +kernel
theorem dX0_shift_27 : decode cX0_shift 27 = .ok (.ishl, 1) := by decide +kernel
theorem dX0_shift_28 : decode cX0_shift 28 = .ok (.istore 6, 2) := by decide +kernel
theorem dX0_shift_30 : decode cX0_shift 30 = .ok (.aload_n 0, 1) := by decide +kernel
theorem dX0_shift_31 : decode cX0_shift 31 = .ok (.getfield 27, 3) := by decide +kernel
theorem dX0_shift_34 : decode cX0_shift 34 = .ok (.iload 6, 2) := by decide +kernel
theorem dX0_shift_36 : decode cX0_shift 36 = .ok (.iand, 1) := by decide +kernel
theorem dX0_shift_37 : decode cX0_shift 37 = .ok (.ifCond .eq 7, 3) := by decide +kernel
theorem dX0_shift_40 : decode cX0_shift 40 = .ok (.iconst 1, 1) := by decide +kernel
theorem dX0_shift_41 : decode cX0_shift 41 = .ok (.goto 4, 3) := by decide +kernel
theorem dX0_shift_44 : decode cX0_shift 44 = .ok (.iconst 0, 1) := by decide +kernel
theorem dX0_shift_45 : decode cX0_shift 45 = .ok (.istore 7, 2) := by decide +kernel
theorem dX0_shift_47 : decode cX0_shift 47 = .ok (.aload_n 0, 1) := by decide +kernel
theorem dX0_shift_48 : decode cX0_shift 48 = .ok (.iload 4, 2) := by decide +kernel
theorem dX0_shift_50 : decode cX0_shift 50 = .ok (.ifCond .eq 13, 3) := by decide +kernel
theorem dX0_shift_53 : decode cX0_shift 53 = .ok (.aload_n 0, 1) := by decide +kernel
theorem dX0_shift_54 : decode cX0_shift 54 = .ok (.getfield 27, 3) := by decide +kernel
theorem dX0_shift_57 : decode cX0_shift 57 = .ok (.iload 6, 2) := by decide +kernel
theorem dX0_shift_59 : decode cX0_shift 59 = .ok (.ior, 1) := by decide +kernel
theorem dX0_shift_60 : decode cX0_shift 60 = .ok (.goto 12, 3) := by decide +kernel
theorem dX0_shift_63 : decode cX0_shift 63 = .ok (.aload_n 0, 1) := by decide +kernel
theorem dX0_shift_64 : decode cX0_shift 64 = .ok (.getfield 27, 3) := by decide +kernel
theorem dX0_shift_67 : decode cX0_shift 67 = .ok (.iload 6, 2) := by decide +kernel
theorem dX0_shift_69 : decode cX0_shift 69 = .ok (.iconst (-1), 1) := by decide +kernel
theorem dX0_shift_70 : decode cX0_shift 70 = .ok (.ixor, 1) := by decide +kernel
theorem dX0_shift_71 : decode cX0_shift 71 = .ok (.iand, 1) := by decide +kernel
theorem dX0_shift_72 : decode cX0_shift 72 = .ok (.putfield 27, 3) := by decide +kernel
theorem dX0_shift_75 : decode cX0_shift 75 = .ok (.aload_n 0, 1) := by decide +kernel
theorem dX0_shift_76 : decode cX0_shift 76 = .ok (.iload 4, 2) := by decide +kernel
theorem dX0_shift_78 : decode cX0_shift 78 = .ok (.ifCond .eq 15, 3) := by decide +kernel
theorem dX0_shift_81 : decode cX0_shift 81 = .ok (.aload_n 0, 1) := by decide +kernel
theorem dX0_shift_82 : decode cX0_shift 82 = .ok (.getfield 31, 3) := by decide +kernel
theorem dX0_shift_85 : decode cX0_shift 85 = .ok (.iload 6, 2) := by decide +kernel
theorem dX0_shift_87 : decode cX0_shift 87 = .ok (.iconst (-1), 1) := by decide +kernel
theorem dX0_shift_88 : decode cX0_shift 88 = .ok (.ixor, 1) := by decide +kernel
theorem dX0_shift_89 : decode cX0_shift 89 = .ok (.iand, 1) := by decide +kernel
theorem dX0_shift_90 : decode cX0_shift 90 = .ok (.goto 10, 3) := by decide +kernel
theorem dX0_shift_93 : decode cX0_shift 93 = .ok (.aload_n 0, 1) := by decide +kernel
theorem dX0_shift_94 : decode cX0_shift 94 = .ok (.getfield 31, 3) := by decide +kernel
theorem dX0_shift_97 : decode cX0_shift 97 = .ok (.iload 6, 2) := by decide +kernel
theorem dX0_shift_99 : decode cX0_shift 99 = .ok (.ior, 1) := by decide +kernel
theorem dX0_shift_100 : decode cX0_shift 100 = .ok (.putfield 31, 3) := by decide +kernel
theorem dX0_shift_103 : decode cX0_shift 103 = .ok (.iload 7, 2) := by decide +kernel
theorem dX0_shift_105 : decode cX0_shift 105 = .ok (.istore 4, 2) := by decide +kernel
theorem dX0_shift_107 : decode cX0_shift 107 = .ok (.aload_n 0, 1) := by decide +kernel
theorem dX0_shift_108 : decode cX0_shift 108 = .ok (.getfield 18, 3) := by decide +kernel
theorem dX0_shift_111 : decode cX0_shift 111 = .ok (.iload_n 3, 1) := by decide +kernel
theorem dX0_shift_112 : decode cX0_shift 112 = .ok (.iaload, 1) := by decide +kernel
theorem dX0_shift_113 : decode cX0_shift 113 = .ok (.istore_n 3, 1) := by decide +kernel
theorem dX0_shift_114 : decode cX0_shift 114 = .ok (.iinc 5 1, 3) := by decide +kernel
theorem dX0_shift_117 : decode cX0_shift 117 = .ok (.goto (-109), 3) := by decide +kernel
theorem dX0_shift_120 : decode cX0_shift 120 = .ok (.return_, 1) := by decide +kernel
theorem dX0_ring_0 : decode cX0_ring 0 = .ok (.iload_n 2, 1) := by decide +kernel
theorem dX0_ring_1 : decode cX0_ring 1 = .ok (.ifCond .lt 9, 3) := by decide +kernel
theorem dX0_ring_4 : decode cX0_ring 4 = .ok (.iload_n 2, 1) := by decide +kernel
theorem dX0_ring_5 : decode cX0_ring 5 = .ok (.bipush 17, 2) := by decide +kernel
theorem dX0_ring_7 : decode cX0_ring 7 = .ok (.if_icmp .lt 5, 3) := by decide +kernel
theorem dX0_ring_10 : decode cX0_ring 10 = .ok (.iconst 0, 1) := by decide +kernel
theorem dX0_ring_11 : decode cX0_ring 11 = .ok (.ireturn, 1) := by decide +kernel
theorem dX0_ring_12 : decode cX0_ring 12 = .ok (.iconst 1, 1) := by decide +kernel
theorem dX0_ring_13 : decode cX0_ring 13 = .ok (.aload_n 0, 1) := by decide +kernel
theorem dX0_ring_14 : decode cX0_ring 14 = .ok (.getfield 15, 3) := by decide +kernel
theorem dX0_ring_17 : decode cX0_ring 17 = .ok (.iload_n 2, 1) := by decide +kernel
theorem dX0_ring_18 : decode cX0_ring 18 = .ok (.iaload, 1) := by decide +kernel
theorem dX0_ring_19 : decode cX0_ring 19 = .ok (.ishl, 1) := by decide +kernel
theorem dX0_ring_20 : decode cX0_ring 20 = .ok (.istore_n 3, 1) := by decide +kernel
theorem dX0_ring_21 : decode cX0_ring 21 = .ok (.iconst 1, 1) := by decide +kernel
theorem dX0_ring_22 : decode cX0_ring 22 = .ok (.aload_n 0, 1) := by decide +kernel
theorem dX0_ring_23 : decode cX0_ring 23 = .ok (.getfield 11, 3) := by decide +kernel
theorem dX0_ring_26 : decode cX0_ring 26 = .ok (.iload_n 2, 1) := by decide +kernel
theorem dX0_ring_27 : decode cX0_ring 27 = .ok (.iaload, 1) := by decide +kernel
theorem dX0_ring_28 : decode cX0_ring 28 = .ok (.ishl, 1) := by decide +kernel
theorem dX0_ring_29 : decode cX0_ring 29 = .ok (.istore 4, 2) := by decide +kernel
theorem dX0_ring_31 : decode cX0_ring 31 = .ok (.iconst 0, 1) := by decide +kernel
theorem dX0_ring_32 : decode cX0_ring 32 = .ok (.istore 5, 2) := by decide +kernel
theorem dX0_ring_34 : decode cX0_ring 34 = .ok (.iload 5, 2) := by decide +kernel
theorem dX0_ring_36 : decode cX0_ring 36 = .ok (.bipush 8, 2) := by decide +kernel
theorem dX0_ring_38 : decode cX0_ring 38 = .ok (.if_icmp .ge 150, 3) := by decide +kernel
theorem dX0_ring_41 : decode cX0_ring 41 = .ok (.iload 4, 2) := by decide +kernel
theorem dX0_ring_43 : decode cX0_ring 43 = .ok (.iload_n 3, 1) := by decide +kernel
theorem dX0_ring_44 : decode cX0_ring 44 = .ok (.iand, 1) := by decide +kernel
theorem dX0_ring_45 : decode cX0_ring 45 = .ok (.ifCond .ne 143, 3) := by decide +kernel
theorem dX0_ring_48 : decode cX0_ring 48 = .ok (.iload 4, 2) := by decide +kernel
theorem dX0_ring_50 : decode cX0_ring 50 = .ok (.istore 6, 2) := by decide +kernel
theorem dX0_ring_52 : decode cX0_ring 52 = .ok (.iconst 0, 1) := by decide +kernel
theorem dX0_ring_53 : decode cX0_ring 53 = .ok (.istore 7, 2) := by decide +kernel
theorem dX0_ring_55 : decode cX0_ring 55 = .ok (.iload 7, 2) := by decide +kernel
theorem dX0_ring_57 : decode cX0_ring 57 = .ok (.bipush 17, 2) := by decide +kernel
theorem dX0_ring_59 : decode cX0_ring 59 = .ok (.if_icmp .ge 114, 3) := by decide +kernel
theorem dX0_ring_62 : decode cX0_ring 62 = .ok (.iload_n 1, 1) := by decide +kernel
theorem dX0_ring_63 : decode cX0_ring 63 = .ok (.iload 7, 2) := by decide +kernel
theorem dX0_ring_65 : decode cX0_ring 65 = .ok (.iushr, 1) := by decide +kernel
theorem dX0_ring_66 : decode cX0_ring 66 = .ok (.iconst 1, 1) := by decide +kernel
theorem dX0_ring_67 : decode cX0_ring 67 = .ok (.iand, 1) := by decide +kernel
theorem dX0_ring_68 : decode cX0_ring 68 = .ok (.ifCond .eq 25, 3) := by decide +kernel
theorem dX0_ring_71 : decode cX0_ring 71 = .ok (.iconst 1, 1) := by decide +kernel
theorem dX0_ring_72 : decode cX0_ring 72 = .ok (.aload_n 0, 1) := by decide +kernel
theorem dX0_ring_73 : decode cX0_ring 73 = .ok (.getfield 11, 3) := by decide +kernel
theorem dX0_ring_76 : decode cX0_ring 76 = .ok (.iload 7, 2) := by decide +kernel
theorem dX0_ring_78 : decode cX0_ring 78 = .ok (.iaload, 1) := by decide +kernel
theorem dX0_ring_79 : decode cX0_ring 79 = .ok (.ishl, 1) := by decide +kernel
theorem dX0_ring_80 : decode cX0_ring 80 = .ok (.iconst 1, 1) := by decide +kernel
theorem dX0_ring_81 : decode cX0_ring 81 = .ok (.aload_n 0, 1) := by decide +kernel
theorem dX0_ring_82 : decode cX0_ring 82 = .ok (.getfield 15, 3) := by decide +kernel
theorem dX0_ring_85 : decode cX0_ring 85 = .ok (.iload 7, 2) := by decide +kernel
theorem dX0_ring_87 : decode cX0_ring 87 = .ok (.iaload, 1) := by decide +kernel
theorem dX0_ring_88 : decode cX0_ring 88 = .ok (.ishl, 1) := by decide +kernel
theorem dX0_ring_89 : decode cX0_ring 89 = .ok (.ixor, 1) := by decide +kernel
theorem dX0_ring_90 : decode cX0_ring 90 = .ok (.goto 4, 3) := by decide +kernel
theorem dX0_ring_93 : decode cX0_ring 93 = .ok (.iconst 0, 1) := by decide +kernel
theorem dX0_ring_94 : decode cX0_ring 94 = .ok (.istore 8, 2) := by decide +kernel
theorem dX0_ring_96 : decode cX0_ring 96 = .ok (.iload 8, 2) := by decide +kernel
theorem dX0_ring_98 : decode cX0_ring 98 = .ok (.iload 4, 2) := by decide +kernel
theorem dX0_ring_100 : decode cX0_ring 100 = .ok (.iand, 1) := by decide +kernel
theorem dX0_ring_101 : decode cX0_ring 101 = .ok (.ifCond .eq 66, 3) := by decide +kernel
theorem dX0_ring_104 : decode cX0_ring 104 = .ok (.iload 8, 2) := by decide +kernel
theorem dX0_ring_106 : decode cX0_ring 106 = .ok (.iload 4, 2) := by decide +kernel
theorem dX0_ring_108 : decode cX0_ring 108 = .ok (.iconst (-1), 1) := by decide +kernel
theorem dX0_ring_109 : decode cX0_ring 109 = .ok (.ixor, 1) := by decide +kernel
theorem dX0_ring_110 : decode cX0_ring 110 = .ok (.iand, 1) := by decide +kernel
theorem dX0_ring_111 : decode cX0_ring 111 = .ok (.ifCond .eq 56, 3) := by decide +kernel
theorem dX0_ring_114 : decode cX0_ring 114 = .ok (.iload 4, 2) := by decide +kernel
theorem dX0_ring_116 : decode cX0_ring 116 = .ok (.aload_n 0, 1) := by decide +kernel
theorem dX0_ring_117 : decode cX0_ring 117 = .ok (.getfield 11, 3) := by decide +kernel
theorem dX0_ring_120 : decode cX0_ring 120 = .ok (.iload 7, 2) := by decide +kernel
theorem dX0_ring_122 : decode cX0_ring 122 = .ok (.iaload, 1) := by decide +kernel
theorem dX0_ring_123 : decode cX0_ring 123 = .ok (.iushr, 1) := by decide +kernel
theorem dX0_ring_124 : decode cX0_ring 124 = .ok (.iconst 1, 1) := by decide +kernel
theorem dX0_ring_125 : decode cX0_ring 125 = .ok (.iand, 1) := by decide +kernel
theorem dX0_ring_126 : decode cX0_ring 126 = .ok (.ifCond .eq 13, 3) := by decide +kernel
theorem dX0_ring_129 : decode cX0_ring 129 = .ok (.aload_n 0, 1) := by decide +kernel
theorem dX0_ring_130 : decode cX0_ring 130 = .ok (.getfield 15, 3) := by decide +kernel
theorem dX0_ring_133 : decode cX0_ring 133 = .ok (.iload 7, 2) := by decide +kernel
theorem dX0_ring_135 : decode cX0_ring 135 = .ok (.iaload, 1) := by decide +kernel
theorem dX0_ring_136 : decode cX0_ring 136 = .ok (.goto 10, 3) := by decide +kernel
theorem dX0_ring_139 : decode cX0_ring 139 = .ok (.aload_n 0, 1) := by decide +kernel
theorem dX0_ring_140 : decode cX0_ring 140 = .ok (.getfield 11, 3) := by decide +kernel
theorem dX0_ring_143 : decode cX0_ring 143 = .ok (.iload 7, 2) := by decide +kernel
theorem dX0_ring_145 : decode cX0_ring 145 = .ok (.iaload, 1) := by decide +kernel
theorem dX0_ring_146 : decode cX0_ring 146 = .ok (.istore 9, 2) := by decide +kernel
theorem dX0_ring_148 : decode cX0_ring 148 = .ok (.aload_n 0, 1) := by decide +kernel
theorem dX0_ring_149 : decode cX0_ring 149 = .ok (.getfield 24, 3) := by decide +kernel
theorem dX0_ring_152 : decode cX0_ring 152 = .ok (.iload 9, 2) := by decide +kernel
theorem dX0_ring_154 : decode cX0_ring 154 = .ok (.bipush 7, 2) := by decide +kernel
theorem dX0_ring_156 : decode cX0_ring 156 = .ok (.iand, 1) := by decide +kernel
theorem dX0_ring_157 : decode cX0_ring 157 = .ok (.iload 7, 2) := by decide +kernel
theorem dX0_ring_159 : decode cX0_ring 159 = .ok (.iastore, 1) := by decide +kernel
theorem dX0_ring_160 : decode cX0_ring 160 = .ok (.iload 4, 2) := by decide +kernel
theorem dX0_ring_162 : decode cX0_ring 162 = .ok (.iload 8, 2) := by decide +kernel
theorem dX0_ring_164 : decode cX0_ring 164 = .ok (.ior, 1) := by decide +kernel
theorem dX0_ring_165 : decode cX0_ring 165 = .ok (.istore 4, 2) := by decide +kernel
theorem dX0_ring_167 : decode cX0_ring 167 = .ok (.iinc 7 1, 3) := by decide +kernel
theorem dX0_ring_170 : decode cX0_ring 170 = .ok (.goto (-115), 3) := by decide +kernel
theorem dX0_ring_173 : decode cX0_ring 173 = .ok (.iload 4, 2) := by decide +kernel
theorem dX0_ring_175 : decode cX0_ring 175 = .ok (.iload 6, 2) := by decide +kernel
theorem dX0_ring_177 : decode cX0_ring 177 = .ok (.if_icmp .ne 5, 3) := by decide +kernel
theorem dX0_ring_180 : decode cX0_ring 180 = .ok (.iconst (-1), 1) := by decide +kernel
theorem dX0_ring_181 : decode cX0_ring 181 = .ok (.ireturn, 1) := by decide +kernel
theorem dX0_ring_182 : decode cX0_ring 182 = .ok (.iinc 5 1, 3) := by decide +kernel
theorem dX0_ring_185 : decode cX0_ring 185 = .ok (.goto (-151), 3) := by decide +kernel
theorem dX0_ring_188 : decode cX0_ring 188 = .ok (.iconst 0, 1) := by decide +kernel
theorem dX0_ring_189 : decode cX0_ring 189 = .ok (.istore 5, 2) := by decide +kernel
theorem dX0_ring_191 : decode cX0_ring 191 = .ok (.aload_n 0, 1) := by decide +kernel
theorem dX0_ring_192 : decode cX0_ring 192 = .ok (.getfield 15, 3) := by decide +kernel
theorem dX0_ring_195 : decode cX0_ring 195 = .ok (.iload_n 2, 1) := by decide +kernel
theorem dX0_ring_196 : decode cX0_ring 196 = .ok (.iaload, 1) := by decide +kernel
theorem dX0_ring_197 : decode cX0_ring 197 = .ok (.istore 6, 2) := by decide +kernel
theorem dX0_ring_199 : decode cX0_ring 199 = .ok (.iconst 0, 1) := by decide +kernel
theorem dX0_ring_200 : decode cX0_ring 200 = .ok (.istore 7, 2) := by decide +kernel
theorem dX0_ring_202 : decode cX0_ring 202 = .ok (.iload 7, 2) := by decide +kernel
theorem dX0_ring_204 : decode cX0_ring 204 = .ok (.bipush 8, 2) := by decide +kernel
theorem dX0_ring_206 : decode cX0_ring 206 = .ok (.if_icmp .ge 86, 3) := by decide +kernel
theorem dX0_ring_209 : decode cX0_ring 209 = .ok (.iload 6, 2) := by decide +kernel
theorem dX0_ring_211 : decode cX0_ring 211 = .ok (.aload_n 0, 1) := by decide +kernel
theorem dX0_ring_212 : decode cX0_ring 212 = .ok (.getfield 11, 3) := by decide +kernel
theorem dX0_ring_215 : decode cX0_ring 215 = .ok (.iload_n 2, 1) := by decide +kernel
theorem dX0_ring_216 : decode cX0_ring 216 = .ok (.iaload, 1) := by decide +kernel
theorem dX0_ring_217 : decode cX0_ring 217 = .ok (.if_icmp .eq 75, 3) := by decide +kernel
theorem dX0_ring_220 : decode cX0_ring 220 = .ok (.aload_n 0, 1) := by decide +kernel
theorem dX0_ring_221 : decode cX0_ring 221 = .ok (.getfield 24, 3) := by decide +kernel
theorem dX0_ring_224 : decode cX0_ring 224 = .ok (.iload 6, 2) := by decide +kernel
theorem dX0_ring_226 : decode cX0_ring 226 = .ok (.bipush 7, 2) := by decide +kernel
theorem dX0_ring_228 : decode cX0_ring 228 = .ok (.iand, 1) := by decide +kernel
theorem dX0_ring_229 : decode cX0_ring 229 = .ok (.iaload, 1) := by decide +kernel
theorem dX0_ring_230 : decode cX0_ring 230 = .ok (.istore 8, 2) := by decide +kernel
theorem dX0_ring_232 : decode cX0_ring 232 = .ok (.iload 8, 2) := by decide +kernel
theorem dX0_ring_234 : decode cX0_ring 234 = .ok (.ifCond .lt 10, 3) := by decide +kernel
theorem dX0_ring_237 : decode cX0_ring 237 = .ok (.iload 8, 2) := by decide +kernel
theorem dX0_ring_239 : decode cX0_ring 239 = .ok (.bipush 17, 2) := by decide +kernel
theorem dX0_ring_241 : decode cX0_ring 241 = .ok (.if_icmp .lt 5, 3) := by decide +kernel
theorem dX0_ring_244 : decode cX0_ring 244 = .ok (.iconst (-1), 1) := by decide +kernel
theorem dX0_ring_245 : decode cX0_ring 245 = .ok (.ireturn, 1) := by decide +kernel
theorem dX0_ring_246 : decode cX0_ring 246 = .ok (.iload 5, 2) := by decide +kernel
theorem dX0_ring_248 : decode cX0_ring 248 = .ok (.iconst 1, 1) := by decide +kernel
theorem dX0_ring_249 : decode cX0_ring 249 = .ok (.iload 8, 2) := by decide +kernel
theorem dX0_ring_251 : decode cX0_ring 251 = .ok (.ishl, 1) := by decide +kernel
theorem dX0_ring_252 : decode cX0_ring 252 = .ok (.ior, 1) := by decide +kernel
theorem dX0_ring_253 : decode cX0_ring 253 = .ok (.istore 5, 2) := by decide +kernel
theorem dX0_ring_255 : decode cX0_ring 255 = .ok (.aload_n 0, 1) := by decide +kernel
theorem dX0_ring_256 : decode cX0_ring 256 = .ok (.getfield 11, 3) := by decide +kernel
theorem dX0_ring_259 : decode cX0_ring 259 = .ok (.iload 8, 2) := by decide +kernel
theorem dX0_ring_261 : decode cX0_ring 261 = .ok (.iaload, 1) := by decide +kernel
theorem dX0_ring_262 : decode cX0_ring 262 = .ok (.iload 6, 2) := by decide +kernel
theorem dX0_ring_264 : decode cX0_ring 264 = .ok (.if_icmp .ne 13, 3) := by decide +kernel
theorem dX0_ring_267 : decode cX0_ring 267 = .ok (.aload_n 0, 1) := by decide +kernel
theorem dX0_ring_268 : decode cX0_ring 268 = .ok (.getfield 15, 3) := by decide +kernel
theorem dX0_ring_271 : decode cX0_ring 271 = .ok (.iload 8, 2) := by decide +kernel
theorem dX0_ring_273 : decode cX0_ring 273 = .ok (.iaload, 1) := by decide +kernel
theorem dX0_ring_274 : decode cX0_ring 274 = .ok (.goto 10, 3) := by decide +kernel
theorem dX0_ring_277 : decode cX0_ring 277 = .ok (.aload_n 0, 1) := by decide +kernel
theorem dX0_ring_278 : decode cX0_ring 278 = .ok (.getfield 11, 3) := by decide +kernel
theorem dX0_ring_281 : decode cX0_ring 281 = .ok (.iload 8, 2) := by decide +kernel
theorem dX0_ring_283 : decode cX0_ring 283 = .ok (.iaload, 1) := by decide +kernel
theorem dX0_ring_284 : decode cX0_ring 284 = .ok (.istore 6, 2) := by decide +kernel
theorem dX0_ring_286 : decode cX0_ring 286 = .ok (.iinc 7 1, 3) := by decide +kernel
theorem dX0_ring_289 : decode cX0_ring 289 = .ok (.goto (-87), 3) := by decide +kernel
theorem dX0_ring_292 : decode cX0_ring 292 = .ok (.iload 5, 2) := by decide +kernel
theorem dX0_ring_294 : decode cX0_ring 294 = .ok (.ireturn, 1) := by decide +kernel
theorem dX0_lower_0 : decode cX0_lower 0 = .ok (.bipush 16, 2) := by decide +kernel
theorem dX0_lower_2 : decode cX0_lower 2 = .ok (.istore_n 1, 1) := by decide +kernel
theorem dX0_lower_3 : decode cX0_lower 3 = .ok (.iload_n 1, 1) := by decide +kernel
theorem dX0_lower_4 : decode cX0_lower 4 = .ok (.ifCond .lt 87, 3) := by decide +kernel
theorem dX0_lower_7 : decode cX0_lower 7 = .ok (.aload_n 0, 1) := by decide +kernel
theorem dX0_lower_8 : decode cX0_lower 8 = .ok (.dup, 1) := by decide +kernel
theorem dX0_lower_9 : decode cX0_lower 9 = .ok (.getfield 37, 3) := by decide +kernel
theorem dX0_lower_12 : decode cX0_lower 12 = .ok (.iconst 1, 1) := by decide +kernel
theorem dX0_lower_13 : decode cX0_lower 13 = .ok (.iload_n 1, 1) := by decide +kernel
theorem dX0_lower_14 : decode cX0_lower 14 = .ok (.ishl, 1) := by decide +kernel
theorem dX0_lower_15 : decode cX0_lower 15 = .ok (.ior, 1) := by decide +kernel
theorem dX0_lower_16 : decode cX0_lower 16 = .ok (.putfield 37, 3) := by decide +kernel
theorem dX0_lower_19 : decode cX0_lower 19 = .ok (.aload_n 0, 1) := by decide +kernel
theorem dX0_lower_20 : decode cX0_lower 20 = .ok (.getfield 27, 3) := by decide +kernel
theorem dX0_lower_23 : decode cX0_lower 23 = .ok (.iload_n 1, 1) := by decide +kernel
theorem dX0_lower_24 : decode cX0_lower 24 = .ok (.invokestatic 46, 3) := by decide +kernel
theorem dX0_lower_27 : decode cX0_lower 27 = .ok (.ifCond .eq 58, 3) := by decide +kernel
theorem dX0_lower_30 : decode cX0_lower 30 = .ok (.aload_n 0, 1) := by decide +kernel
theorem dX0_lower_31 : decode cX0_lower 31 = .ok (.getfield 27, 3) := by decide +kernel
theorem dX0_lower_34 : decode cX0_lower 34 = .ok (.istore_n 2, 1) := by decide +kernel
theorem dX0_lower_35 : decode cX0_lower 35 = .ok (.aload_n 0, 1) := by decide +kernel
theorem dX0_lower_36 : decode cX0_lower 36 = .ok (.getfield 31, 3) := by decide +kernel
theorem dX0_lower_39 : decode cX0_lower 39 = .ok (.istore_n 3, 1) := by decide +kernel
theorem dX0_lower_40 : decode cX0_lower 40 = .ok (.aload_n 0, 1) := by decide +kernel
theorem dX0_lower_41 : decode cX0_lower 41 = .ok (.dup, 1) := by decide +kernel
theorem dX0_lower_42 : decode cX0_lower 42 = .ok (.getfield 27, 3) := by decide +kernel
theorem dX0_lower_45 : decode cX0_lower 45 = .ok (.iconst 1, 1) := by decide +kernel
theorem dX0_lower_46 : decode cX0_lower 46 = .ok (.iload_n 1, 1) := by decide +kernel
theorem dX0_lower_47 : decode cX0_lower 47 = .ok (.ishl, 1) := by decide +kernel
theorem dX0_lower_48 : decode cX0_lower 48 = .ok (.iconst (-1), 1) := by decide +kernel
theorem dX0_lower_49 : decode cX0_lower 49 = .ok (.ixor, 1) := by decide +kernel
theorem dX0_lower_50 : decode cX0_lower 50 = .ok (.iand, 1) := by decide +kernel
theorem dX0_lower_51 : decode cX0_lower 51 = .ok (.putfield 27, 3) := by decide +kernel
theorem dX0_lower_54 : decode cX0_lower 54 = .ok (.aload_n 0, 1) := by decide +kernel
theorem dX0_lower_55 : decode cX0_lower 55 = .ok (.invokevirtual 62, 3) := by decide +kernel
theorem dX0_lower_58 : decode cX0_lower 58 = .ok (.ifCond .ne 27, 3) := by decide +kernel
theorem dX0_lower_61 : decode cX0_lower 61 = .ok (.aload_n 0, 1) := by decide +kernel
theorem dX0_lower_62 : decode cX0_lower 62 = .ok (.iload_n 2, 1) := by decide +kernel
theorem dX0_lower_63 : decode cX0_lower 63 = .ok (.putfield 27, 3) := by decide +kernel
theorem dX0_lower_66 : decode cX0_lower 66 = .ok (.aload_n 0, 1) := by decide +kernel
theorem dX0_lower_67 : decode cX0_lower 67 = .ok (.iload_n 3, 1) := by decide +kernel
theorem dX0_lower_68 : decode cX0_lower 68 = .ok (.putfield 31, 3) := by decide +kernel
theorem dX0_lower_71 : decode cX0_lower 71 = .ok (.aload_n 0, 1) := by decide +kernel
theorem dX0_lower_72 : decode cX0_lower 72 = .ok (.dup, 1) := by decide +kernel
theorem dX0_lower_73 : decode cX0_lower 73 = .ok (.getfield 37, 3) := by decide +kernel
theorem dX0_lower_76 : decode cX0_lower 76 = .ok (.iconst 1, 1) := by decide +kernel
theorem dX0_lower_77 : decode cX0_lower 77 = .ok (.iload_n 1, 1) := by decide +kernel
theorem dX0_lower_78 : decode cX0_lower 78 = .ok (.ishl, 1) := by decide +kernel
theorem dX0_lower_79 : decode cX0_lower 79 = .ok (.iconst (-1), 1) := by decide +kernel
theorem dX0_lower_80 : decode cX0_lower 80 = .ok (.ixor, 1) := by decide +kernel
theorem dX0_lower_81 : decode cX0_lower 81 = .ok (.iand, 1) := by decide +kernel
theorem dX0_lower_82 : decode cX0_lower 82 = .ok (.putfield 37, 3) := by decide +kernel
theorem dX0_lower_85 : decode cX0_lower 85 = .ok (.iinc 1 (-1), 3) := by decide +kernel
theorem dX0_lower_88 : decode cX0_lower 88 = .ok (.goto (-85), 3) := by decide +kernel
theorem dX0_lower_91 : decode cX0_lower 91 = .ok (.aload_n 0, 1) := by decide +kernel
theorem dX0_lower_92 : decode cX0_lower 92 = .ok (.aload_n 0, 1) := by decide +kernel
theorem dX0_lower_93 : decode cX0_lower 93 = .ok (.aload_n 0, 1) := by decide +kernel
theorem dX0_lower_94 : decode cX0_lower 94 = .ok (.getfield 34, 3) := by decide +kernel
theorem dX0_lower_97 : decode cX0_lower 97 = .ok (.aload_n 0, 1) := by decide +kernel
theorem dX0_lower_98 : decode cX0_lower 98 = .ok (.getfield 27, 3) := by decide +kernel
theorem dX0_lower_101 : decode cX0_lower 101 = .ok (.iconst (-1), 1) := by decide +kernel
theorem dX0_lower_102 : decode cX0_lower 102 = .ok (.ixor, 1) := by decide +kernel
theorem dX0_lower_103 : decode cX0_lower 103 = .ok (.iand, 1) := by decide +kernel
theorem dX0_lower_104 : decode cX0_lower 104 = .ok (.invokevirtual 66, 3) := by decide +kernel
theorem dX0_lower_107 : decode cX0_lower 107 = .ok (.putfield 31, 3) := by decide +kernel
theorem dX0_lower_110 : decode cX0_lower 110 = .ok (.return_, 1) := by decide +kernel
theorem dX0_bringAny_0 : decode cX0_bringAny 0 = .ok (.aload_n 0, 1) := by decide +kernel
theorem dX0_bringAny_1 : decode cX0_bringAny 1 = .ok (.getfield 34, 3) := by decide +kernel
theorem dX0_bringAny_4 : decode cX0_bringAny 4 = .ok (.aload_n 0, 1) := by decide +kernel
theorem dX0_bringAny_5 : decode cX0_bringAny 5 = .ok (.getfield 27, 3) := by decide +kernel
theorem dX0_bringAny_8 : decode cX0_bringAny 8 = .ok (.aload_n 0, 1) := by decide +kernel
theorem dX0_bringAny_9 : decode cX0_bringAny 9 = .ok (.getfield 31, 3) := by decide +kernel
theorem dX0_bringAny_12 : decode cX0_bringAny 12 = .ok (.ior, 1) := by decide +kernel
theorem dX0_bringAny_13 : decode cX0_bringAny 13 = .ok (.iconst (-1), 1) := by decide +kernel
theorem dX0_bringAny_14 : decode cX0_bringAny 14 = .ok (.ixor, 1) := by decide +kernel
theorem dX0_bringAny_15 : decode cX0_bringAny 15 = .ok (.iand, 1) := by decide +kernel
theorem dX0_bringAny_16 : decode cX0_bringAny 16 = .ok (.istore_n 1, 1) := by decide +kernel
theorem dX0_bringAny_17 : decode cX0_bringAny 17 = .ok (.iconst 0, 1) := by decide +kernel
theorem dX0_bringAny_18 : decode cX0_bringAny 18 = .ok (.istore_n 2, 1) := by decide +kernel
theorem dX0_bringAny_19 : decode cX0_bringAny 19 = .ok (.iload_n 2, 1) := by decide +kernel
theorem dX0_bringAny_20 : decode cX0_bringAny 20 = .ok (.bipush 17, 2) := by decide +kernel
theorem dX0_bringAny_22 : decode cX0_bringAny 22 = .ok (.if_icmp .ge 27, 3) := by decide +kernel
theorem dX0_bringAny_25 : decode cX0_bringAny 25 = .ok (.iload_n 1, 1) := by decide +kernel
theorem dX0_bringAny_26 : decode cX0_bringAny 26 = .ok (.iload_n 2, 1) := by decide +kernel
theorem dX0_bringAny_27 : decode cX0_bringAny 27 = .ok (.invokestatic 46, 3) := by decide +kernel
theorem dX0_bringAny_30 : decode cX0_bringAny 30 = .ok (.ifCond .eq 13, 3) := by decide +kernel
theorem dX0_bringAny_33 : decode cX0_bringAny 33 = .ok (.aload_n 0, 1) := by decide +kernel
theorem dX0_bringAny_34 : decode cX0_bringAny 34 = .ok (.iload_n 2, 1) := by decide +kernel
theorem dX0_bringAny_35 : decode cX0_bringAny 35 = .ok (.invokevirtual 69, 3) := by decide +kernel
theorem dX0_bringAny_38 : decode cX0_bringAny 38 = .ok (.ifCond .eq 5, 3) := by decide +kernel
theorem dX0_bringAny_41 : decode cX0_bringAny 41 = .ok (.iconst 1, 1) := by decide +kernel
theorem dX0_bringAny_42 : decode cX0_bringAny 42 = .ok (.ireturn, 1) := by decide +kernel
theorem dX0_bringAny_43 : decode cX0_bringAny 43 = .ok (.iinc 2 1, 3) := by decide +kernel
theorem dX0_bringAny_46 : decode cX0_bringAny 46 = .ok (.goto (-27), 3) := by decide +kernel
theorem dX0_bringAny_49 : decode cX0_bringAny 49 = .ok (.iconst 0, 1) := by decide +kernel
theorem dX0_bringAny_50 : decode cX0_bringAny 50 = .ok (.ireturn, 1) := by decide +kernel
theorem dX0_leastForest_0 : decode cX0_leastForest 0 = .ok (.iconst 0, 1) := by decide +kernel
theorem dX0_leastForest_1 : decode cX0_leastForest 1 = .ok (.istore_n 2, 1) := by decide +kernel
theorem dX0_leastForest_2 : decode cX0_leastForest 2 = .ok (.iconst 0, 1) := by decide +kernel
theorem dX0_leastForest_3 : decode cX0_leastForest 3 = .ok (.istore_n 3, 1) := by decide +kernel
theorem dX0_leastForest_4 : decode cX0_leastForest 4 = .ok (.iload_n 3, 1) := by decide +kernel
theorem dX0_leastForest_5 : decode cX0_leastForest 5 = .ok (.bipush 17, 2) := by decide +kernel
theorem dX0_leastForest_7 : decode cX0_leastForest 7 = .ok (.if_icmp .ge 33, 3) := by decide +kernel
theorem dX0_leastForest_10 : decode cX0_leastForest 10 = .ok (.iload_n 1, 1) := by decide +kernel
theorem dX0_leastForest_11 : decode cX0_leastForest 11 = .ok (.iload_n 3, 1) := by decide +kernel
theorem dX0_leastForest_12 : decode cX0_leastForest 12 = .ok (.invokestatic 46, 3) := by decide +kernel
theorem dX0_leastForest_15 : decode cX0_leastForest 15 = .ok (.ifCond .eq 19, 3) := by decide +kernel
theorem dX0_leastForest_18 : decode cX0_leastForest 18 = .ok (.aload_n 0, 1) := by decide +kernel
theorem dX0_leastForest_19 : decode cX0_leastForest 19 = .ok (.iload_n 2, 1) := by decide +kernel
theorem dX0_leastForest_20 : decode cX0_leastForest 20 = .ok (.iload_n 3, 1) := by decide +kernel
theorem dX0_leastForest_21 : decode cX0_leastForest 21 = .ok (.invokevirtual 50, 3) := by decide +kernel
theorem dX0_leastForest_24 : decode cX0_leastForest 24 = .ok (.iconst (-1), 1) := by decide +kernel
theorem dX0_leastForest_25 : decode cX0_leastForest 25 = .ok (.if_icmp .ne 9, 3) := by decide +kernel
theorem dX0_leastForest_28 : decode cX0_leastForest 28 = .ok (.iload_n 2, 1) := by decide +kernel
theorem dX0_leastForest_29 : decode cX0_leastForest 29 = .ok (.iconst 1, 1) := by decide +kernel
theorem dX0_leastForest_30 : decode cX0_leastForest 30 = .ok (.iload_n 3, 1) := by decide +kernel
theorem dX0_leastForest_31 : decode cX0_leastForest 31 = .ok (.ishl, 1) := by decide +kernel
theorem dX0_leastForest_32 : decode cX0_leastForest 32 = .ok (.ior, 1) := by decide +kernel
theorem dX0_leastForest_33 : decode cX0_leastForest 33 = .ok (.istore_n 2, 1) := by decide +kernel
theorem dX0_leastForest_34 : decode cX0_leastForest 34 = .ok (.iinc 3 1, 3) := by decide +kernel
theorem dX0_leastForest_37 : decode cX0_leastForest 37 = .ok (.goto (-33), 3) := by decide +kernel
theorem dX0_leastForest_40 : decode cX0_leastForest 40 = .ok (.iload_n 2, 1) := by decide +kernel
theorem dX0_leastForest_41 : decode cX0_leastForest 41 = .ok (.ireturn, 1) := by decide +kernel
theorem dX1_init_0 : decode cX1_init 0 = .ok (.aload_n 0, 1) := by decide +kernel
theorem dX1_init_1 : decode cX1_init 1 = .ok (.invokespecial 5, 3) := by decide +kernel
theorem dX1_init_4 : decode cX1_init 4 = .ok (.aload_n 0, 1) := by decide +kernel
theorem dX1_init_5 : decode cX1_init 5 = .ok (.new 11, 3) := by decide +kernel
theorem dX1_init_8 : decode cX1_init 8 = .ok (.dup, 1) := by decide +kernel
theorem dX1_init_9 : decode cX1_init 9 = .ok (.invokespecial 13, 3) := by decide +kernel
theorem dX1_init_12 : decode cX1_init 12 = .ok (.putfield 14, 3) := by decide +kernel
theorem dX1_init_15 : decode cX1_init 15 = .ok (.aload_n 0, 1) := by decide +kernel
theorem dX1_init_16 : decode cX1_init 16 = .ok (.lconst 0, 1) := by decide +kernel
theorem dX1_init_17 : decode cX1_init 17 = .ok (.putfield 18, 3) := by decide +kernel
theorem dX1_init_20 : decode cX1_init 20 = .ok (.aload_n 0, 1) := by decide +kernel
theorem dX1_init_21 : decode cX1_init 21 = .ok (.aload_n 1, 1) := by decide +kernel
theorem dX1_init_22 : decode cX1_init 22 = .ok (.putfield 22, 3) := by decide +kernel
theorem dX1_init_25 : decode cX1_init 25 = .ok (.aload_n 0, 1) := by decide +kernel
theorem dX1_init_26 : decode cX1_init 26 = .ok (.aload_n 2, 1) := by decide +kernel
theorem dX1_init_27 : decode cX1_init 27 = .ok (.putfield 26, 3) := by decide +kernel
theorem dX1_init_30 : decode cX1_init 30 = .ok (.aload_n 0, 1) := by decide +kernel
theorem dX1_init_31 : decode cX1_init 31 = .ok (.aload_n 3, 1) := by decide +kernel
theorem dX1_init_32 : decode cX1_init 32 = .ok (.putfield 30, 3) := by decide +kernel
theorem dX1_init_35 : decode cX1_init 35 = .ok (.return_, 1) := by decide +kernel
theorem dX1_playOn_0 : decode cX1_playOn 0 = .ok (.iload_n 1, 1) := by decide +kernel
theorem dX1_playOn_1 : decode cX1_playOn 1 = .ok (.istore 5, 2) := by decide +kernel
theorem dX1_playOn_3 : decode cX1_playOn 3 = .ok (.iload_n 2, 1) := by decide +kernel
theorem dX1_playOn_4 : decode cX1_playOn 4 = .ok (.istore 6, 2) := by decide +kernel
theorem dX1_playOn_6 : decode cX1_playOn 6 = .ok (.iload_n 3, 1) := by decide +kernel
theorem dX1_playOn_7 : decode cX1_playOn 7 = .ok (.istore 7, 2) := by decide +kernel
theorem dX1_playOn_9 : decode cX1_playOn 9 = .ok (.iconst 0, 1) := by decide +kernel
theorem dX1_playOn_10 : decode cX1_playOn 10 = .ok (.istore 8, 2) := by decide +kernel
theorem dX1_playOn_12 : decode cX1_playOn 12 = .ok (.iload 8, 2) := by decide +kernel
theorem dX1_playOn_14 : decode cX1_playOn 14 = .ok (.bipush 14, 2) := by decide +kernel
theorem dX1_playOn_16 : decode cX1_playOn 16 = .ok (.if_icmp .gt 128, 3) := by decide +kernel
theorem dX1_playOn_19 : decode cX1_playOn 19 = .ok (.aload_n 0, 1) := by decide +kernel
theorem dX1_playOn_20 : decode cX1_playOn 20 = .ok (.getfield 22, 3) := by decide +kernel
theorem dX1_playOn_23 : decode cX1_playOn 23 = .ok (.iload 5, 2) := by decide +kernel
theorem dX1_playOn_25 : decode cX1_playOn 25 = .ok (.iload 6, 2) := by decide +kernel
theorem dX1_playOn_27 : decode cX1_playOn 27 = .ok (.invokevirtual 34, 3) := by decide +kernel
theorem dX1_playOn_30 : decode cX1_playOn 30 = .ok (.iconst 2, 1) := by decide +kernel
theorem dX1_playOn_31 : decode cX1_playOn 31 = .ok (.if_icmp .eq 17, 3) := by decide +kernel
theorem dX1_playOn_34 : decode cX1_playOn 34 = .ok (.iload 4, 2) := by decide +kernel
theorem dX1_playOn_36 : decode cX1_playOn 36 = .ok (.iconst (-1), 1) := by decide +kernel
theorem dX1_playOn_37 : decode cX1_playOn 37 = .ok (.if_icmp .ne 8, 3) := by decide +kernel
theorem dX1_playOn_40 : decode cX1_playOn 40 = .ok (.iload 8, 2) := by decide +kernel
theorem dX1_playOn_42 : decode cX1_playOn 42 = .ok (.goto 5, 3) := by decide +kernel
theorem dX1_playOn_45 : decode cX1_playOn 45 = .ok (.bipush (-2), 2) := by decide +kernel
theorem dX1_playOn_47 : decode cX1_playOn 47 = .ok (.ireturn, 1) := by decide +kernel
theorem dX1_playOn_48 : decode cX1_playOn 48 = .ok (.aload_n 0, 1) := by decide +kernel
theorem dX1_playOn_49 : decode cX1_playOn 49 = .ok (.getfield 26, 3) := by decide +kernel
theorem dX1_playOn_52 : decode cX1_playOn 52 = .ok (.iconst 0, 1) := by decide +kernel
theorem dX1_playOn_53 : decode cX1_playOn 53 = .ok (.iload 7, 2) := by decide +kernel
theorem dX1_playOn_55 : decode cX1_playOn 55 = .ok (.iload 5, 2) := by decide +kernel
theorem dX1_playOn_57 : decode cX1_playOn 57 = .ok (.iload 6, 2) := by decide +kernel
theorem dX1_playOn_59 : decode cX1_playOn 59 = .ok (.invokevirtual 40, 3) := by decide +kernel
theorem dX1_playOn_62 : decode cX1_playOn 62 = .ok (.istore 9, 2) := by decide +kernel
theorem dX1_playOn_64 : decode cX1_playOn 64 = .ok (.iload 9, 2) := by decide +kernel
theorem dX1_playOn_66 : decode cX1_playOn 66 = .ok (.ifCond .ge 21, 3) := by decide +kernel
theorem dX1_playOn_69 : decode cX1_playOn 69 = .ok (.aload_n 0, 1) := by decide +kernel
theorem dX1_playOn_70 : decode cX1_playOn 70 = .ok (.getfield 22, 3) := by decide +kernel
theorem dX1_playOn_73 : decode cX1_playOn 73 = .ok (.iload 5, 2) := by decide +kernel
theorem dX1_playOn_75 : decode cX1_playOn 75 = .ok (.iload 6, 2) := by decide +kernel
theorem dX1_playOn_77 : decode cX1_playOn 77 = .ok (.invokevirtual 46, 3) := by decide +kernel
theorem dX1_playOn_80 : decode cX1_playOn 80 = .ok (.iconst 0, 1) := by decide +kernel
theorem dX1_playOn_81 : decode cX1_playOn 81 = .ok (.invokestatic 49, 3) := by decide +kernel
theorem dX1_playOn_84 : decode cX1_playOn 84 = .ok (.goto 5, 3) := by decide +kernel
theorem dX1_playOn_87 : decode cX1_playOn 87 = .ok (.iload 9, 2) := by decide +kernel
theorem dX1_playOn_89 : decode cX1_playOn 89 = .ok (.istore 10, 2) := by decide +kernel
theorem dX1_playOn_91 : decode cX1_playOn 91 = .ok (.iload 8, 2) := by decide +kernel
theorem dX1_playOn_93 : decode cX1_playOn 93 = .ok (.iload 4, 2) := by decide +kernel
theorem dX1_playOn_95 : decode cX1_playOn 95 = .ok (.if_icmp .eq 8, 3) := by decide +kernel
theorem dX1_playOn_98 : decode cX1_playOn 98 = .ok (.iload 10, 2) := by decide +kernel
theorem dX1_playOn_100 : decode cX1_playOn 100 = .ok (.ifCond .ge 6, 3) := by decide +kernel
theorem dX1_playOn_103 : decode cX1_playOn 103 = .ok (.iload 10, 2) := by decide +kernel
theorem dX1_playOn_105 : decode cX1_playOn 105 = .ok (.ireturn, 1) := by decide +kernel
theorem dX1_playOn_106 : decode cX1_playOn 106 = .ok (.iload 7, 2) := by decide +kernel
theorem dX1_playOn_108 : decode cX1_playOn 108 = .ok (.ifCond .ne 15, 3) := by decide +kernel
theorem dX1_playOn_111 : decode cX1_playOn 111 = .ok (.iload 5, 2) := by decide +kernel
theorem dX1_playOn_113 : decode cX1_playOn 113 = .ok (.iconst 1, 1) := by decide +kernel
theorem dX1_playOn_114 : decode cX1_playOn 114 = .ok (.iload 10, 2) := by decide +kernel
theorem dX1_playOn_116 : decode cX1_playOn 116 = .ok (.ishl, 1) := by decide +kernel
theorem dX1_playOn_117 : decode cX1_playOn 117 = .ok (.ior, 1) := by decide +kernel
theorem dX1_playOn_118 : decode cX1_playOn 118 = .ok (.istore 5, 2) := by decide +kernel
theorem dX1_playOn_120 : decode cX1_playOn 120 = .ok (.goto 12, 3) := by decide +kernel
theorem dX1_playOn_123 : decode cX1_playOn 123 = .ok (.iload 6, 2) := by decide +kernel
theorem dX1_playOn_125 : decode cX1_playOn 125 = .ok (.iconst 1, 1) := by decide +kernel
theorem dX1_playOn_126 : decode cX1_playOn 126 = .ok (.iload 10, 2) := by decide +kernel
theorem dX1_playOn_128 : decode cX1_playOn 128 = .ok (.ishl, 1) := by decide +kernel
theorem dX1_playOn_129 : decode cX1_playOn 129 = .ok (.ior, 1) := by decide +kernel
theorem dX1_playOn_130 : decode cX1_playOn 130 = .ok (.istore 6, 2) := by decide +kernel
theorem dX1_playOn_132 : decode cX1_playOn 132 = .ok (.iconst 1, 1) := by decide +kernel
theorem dX1_playOn_133 : decode cX1_playOn 133 = .ok (.iload 7, 2) := by decide +kernel
theorem dX1_playOn_135 : decode cX1_playOn 135 = .ok (.isub, 1) := by decide +kernel
theorem dX1_playOn_136 : decode cX1_playOn 136 = .ok (.istore 7, 2) := by decide +kernel
theorem dX1_playOn_138 : decode cX1_playOn 138 = .ok (.iinc 8 1, 3) := by decide +kernel
theorem dX1_playOn_141 : decode cX1_playOn 141 = .ok (.goto (-129), 3) := by decide +kernel
theorem dX1_playOn_144 : decode cX1_playOn 144 = .ok (.bipush (-2), 2) := by decide +kernel
theorem dX1_playOn_146 : decode cX1_playOn 146 = .ok (.ireturn, 1) := by decide +kernel
theorem dX1_goThrough_0 : decode cX1_goThrough 0 = .ok (.aload_n 0, 1) := by decide +kernel
theorem dX1_goThrough_1 : decode cX1_goThrough 1 = .ok (.getfield 14, 3) := by decide +kernel
theorem dX1_goThrough_4 : decode cX1_goThrough 4 = .ok (.invokevirtual 52, 3) := by decide +kernel
theorem dX1_goThrough_7 : decode cX1_goThrough 7 = .ok (.iload_n 1, 1) := by decide +kernel
theorem dX1_goThrough_8 : decode cX1_goThrough 8 = .ok (.iconst 1, 1) := by decide +kernel
theorem dX1_goThrough_9 : decode cX1_goThrough 9 = .ok (.if_icmp .ne 13, 3) := by decide +kernel
theorem dX1_goThrough_12 : decode cX1_goThrough 12 = .ok (.aload_n 0, 1) := by decide +kernel
theorem dX1_goThrough_13 : decode cX1_goThrough 13 = .ok (.iload_n 2, 1) := by decide +kernel
theorem dX1_goThrough_14 : decode cX1_goThrough 14 = .ok (.iload_n 3, 1) := by decide +kernel
theorem dX1_goThrough_15 : decode cX1_goThrough 15 = .ok (.iconst 0, 1) := by decide +kernel
theorem dX1_goThrough_16 : decode cX1_goThrough 16 = .ok (.invokevirtual 55, 3) := by decide +kernel
theorem dX1_goThrough_19 : decode cX1_goThrough 19 = .ok (.goto 10, 3) := by decide +kernel
theorem dX1_goThrough_22 : decode cX1_goThrough 22 = .ok (.aload_n 0, 1) := by decide +kernel
theorem dX1_goThrough_23 : decode cX1_goThrough 23 = .ok (.iload_n 2, 1) := by decide +kernel
theorem dX1_goThrough_24 : decode cX1_goThrough 24 = .ok (.iload_n 3, 1) := by decide +kernel
theorem dX1_goThrough_25 : decode cX1_goThrough 25 = .ok (.iconst 0, 1) := by decide +kernel
theorem dX1_goThrough_26 : decode cX1_goThrough 26 = .ok (.invokevirtual 59, 3) := by decide +kernel
theorem dX1_goThrough_29 : decode cX1_goThrough 29 = .ok (.istore 5, 2) := by decide +kernel
theorem dX1_goThrough_31 : decode cX1_goThrough 31 = .ok (.iload 4, 2) := by decide +kernel
theorem dX1_goThrough_33 : decode cX1_goThrough 33 = .ok (.ifCond .ne 11, 3) := by decide +kernel
theorem dX1_goThrough_36 : decode cX1_goThrough 36 = .ok (.iload 5, 2) := by decide +kernel
theorem dX1_goThrough_38 : decode cX1_goThrough 38 = .ok (.ldc 62, 2) := by decide +kernel
theorem dX1_goThrough_40 : decode cX1_goThrough 40 = .ok (.idiv, 1) := by decide +kernel
theorem dX1_goThrough_41 : decode cX1_goThrough 41 = .ok (.goto 8, 3) := by decide +kernel
theorem dX1_goThrough_44 : decode cX1_goThrough 44 = .ok (.iload 5, 2) := by decide +kernel
theorem dX1_goThrough_46 : decode cX1_goThrough 46 = .ok (.ldc 63, 2) := by decide +kernel
theorem dX1_goThrough_48 : decode cX1_goThrough 48 = .ok (.iand, 1) := by decide +kernel
theorem dX1_goThrough_49 : decode cX1_goThrough 49 = .ok (.ireturn, 1) := by decide +kernel
theorem dX1_cutFirst_0 : decode cX1_cutFirst 0 = .ok (.aload_n 0, 1) := by decide +kernel
theorem dX1_cutFirst_1 : decode cX1_cutFirst 1 = .ok (.getfield 22, 3) := by decide +kernel
theorem dX1_cutFirst_4 : decode cX1_cutFirst 4 = .ok (.iload_n 1, 1) := by decide +kernel
theorem dX1_cutFirst_5 : decode cX1_cutFirst 5 = .ok (.iload_n 2, 1) := by decide +kernel
theorem dX1_cutFirst_6 : decode cX1_cutFirst 6 = .ok (.invokevirtual 34, 3) := by decide +kernel
theorem dX1_cutFirst_9 : decode cX1_cutFirst 9 = .ok (.istore 4, 2) := by decide +kernel
theorem dX1_cutFirst_11 : decode cX1_cutFirst 11 = .ok (.iload 4, 2) := by decide +kernel
theorem dX1_cutFirst_13 : decode cX1_cutFirst 13 = .ok (.iconst 2, 1) := by decide +kernel
theorem dX1_cutFirst_14 : decode cX1_cutFirst 14 = .ok (.if_icmp .ne 9, 3) := by decide +kernel
theorem dX1_cutFirst_17 : decode cX1_cutFirst 17 = .ok (.iload_n 3, 1) := by decide +kernel
theorem dX1_cutFirst_18 : decode cX1_cutFirst 18 = .ok (.bipush 14, 2) := by decide +kernel
theorem dX1_cutFirst_20 : decode cX1_cutFirst 20 = .ok (.if_icmp .le 16, 3) := by decide +kernel
theorem dX1_cutFirst_23 : decode cX1_cutFirst 23 = .ok (.iload 4, 2) := by decide +kernel
theorem dX1_cutFirst_25 : decode cX1_cutFirst 25 = .ok (.ifCond .ne 8, 3) := by decide +kernel
theorem dX1_cutFirst_28 : decode cX1_cutFirst 28 = .ok (.ldc 64, 2) := by decide +kernel
theorem dX1_cutFirst_30 : decode cX1_cutFirst 30 = .ok (.goto 5, 3) := by decide +kernel
theorem dX1_cutFirst_33 : decode cX1_cutFirst 33 = .ok (.ldc 62, 2) := by decide +kernel
theorem dX1_cutFirst_35 : decode cX1_cutFirst 35 = .ok (.ireturn, 1) := by decide +kernel
theorem dX1_cutFirst_36 : decode cX1_cutFirst 36 = .ok (.aload_n 0, 1) := by decide +kernel
theorem dX1_cutFirst_37 : decode cX1_cutFirst 37 = .ok (.getfield 14, 3) := by decide +kernel
theorem dX1_cutFirst_40 : decode cX1_cutFirst 40 = .ok (.iload_n 1, 1) := by decide +kernel
theorem dX1_cutFirst_41 : decode cX1_cutFirst 41 = .ok (.iload_n 2, 1) := by decide +kernel
theorem dX1_cutFirst_42 : decode cX1_cutFirst 42 = .ok (.invokevirtual 65, 3) := by decide +kernel
theorem dX1_cutFirst_45 : decode cX1_cutFirst 45 = .ok (.istore 5, 2) := by decide +kernel
theorem dX1_cutFirst_47 : decode cX1_cutFirst 47 = .ok (.iload 5, 2) := by decide +kernel
theorem dX1_cutFirst_49 : decode cX1_cutFirst 49 = .ok (.iconst (-1), 1) := by decide +kernel
theorem dX1_cutFirst_50 : decode cX1_cutFirst 50 = .ok (.if_icmp .eq 6, 3) := by decide +kernel
theorem dX1_cutFirst_53 : decode cX1_cutFirst 53 = .ok (.iload 5, 2) := by decide +kernel
theorem dX1_cutFirst_55 : decode cX1_cutFirst 55 = .ok (.ireturn, 1) := by decide +kernel
theorem dX1_cutFirst_56 : decode cX1_cutFirst 56 = .ok (.aload_n 0, 1) := by decide +kernel
theorem dX1_cutFirst_57 : decode cX1_cutFirst 57 = .ok (.getfield 30, 3) := by decide +kernel
theorem dX1_cutFirst_60 : decode cX1_cutFirst 60 = .ok (.iload_n 1, 1) := by decide +kernel
theorem dX1_cutFirst_61 : decode cX1_cutFirst 61 = .ok (.iload_n 2, 1) := by decide +kernel
theorem dX1_cutFirst_62 : decode cX1_cutFirst 62 = .ok (.invokevirtual 68, 3) := by decide +kernel
theorem dX1_cutFirst_65 : decode cX1_cutFirst 65 = .ok (.ifCond .ne 6, 3) := by decide +kernel
theorem dX1_cutFirst_68 : decode cX1_cutFirst 68 = .ok (.ldc 62, 2) := by decide +kernel
theorem dX1_cutFirst_70 : decode cX1_cutFirst 70 = .ok (.ireturn, 1) := by decide +kernel
theorem dX1_cutFirst_71 : decode cX1_cutFirst 71 = .ok (.aload_n 0, 1) := by decide +kernel
theorem dX1_cutFirst_72 : decode cX1_cutFirst 72 = .ok (.getfield 22, 3) := by decide +kernel
theorem dX1_cutFirst_75 : decode cX1_cutFirst 75 = .ok (.iload_n 1, 1) := by decide +kernel
theorem dX1_cutFirst_76 : decode cX1_cutFirst 76 = .ok (.iload_n 2, 1) := by decide +kernel
theorem dX1_cutFirst_77 : decode cX1_cutFirst 77 = .ok (.invokevirtual 46, 3) := by decide +kernel
theorem dX1_cutFirst_80 : decode cX1_cutFirst 80 = .ok (.istore 6, 2) := by decide +kernel
theorem dX1_cutFirst_82 : decode cX1_cutFirst 82 = .ok (.aload_n 0, 1) := by decide +kernel
theorem dX1_cutFirst_83 : decode cX1_cutFirst 83 = .ok (.getfield 30, 3) := by decide +kernel
theorem dX1_cutFirst_86 : decode cX1_cutFirst 86 = .ok (.invokevirtual 74, 3) := by decide +kernel
theorem dX1_cutFirst_89 : decode cX1_cutFirst 89 = .ok (.lstore 7, 2) := by decide +kernel
theorem dX1_cutFirst_91 : decode cX1_cutFirst 91 = .ok (.iconst 0, 1) := by decide +kernel
theorem dX1_cutFirst_92 : decode cX1_cutFirst 92 = .ok (.istore 9, 2) := by decide +kernel
theorem dX1_cutFirst_94 : decode cX1_cutFirst 94 = .ok (.iconst 0, 1) := by decide +kernel
theorem dX1_cutFirst_95 : decode cX1_cutFirst 95 = .ok (.istore 10, 2) := by decide +kernel
theorem dX1_cutFirst_97 : decode cX1_cutFirst 97 = .ok (.iload 10, 2) := by decide +kernel
theorem dX1_cutFirst_99 : decode cX1_cutFirst 99 = .ok (.bipush 14, 2) := by decide +kernel
theorem dX1_cutFirst_101 : decode cX1_cutFirst 101 = .ok (.if_icmp .ge 56, 3) := by decide +kernel
theorem dX1_cutFirst_104 : decode cX1_cutFirst 104 = .ok (.iload 6, 2) := by decide +kernel
theorem dX1_cutFirst_106 : decode cX1_cutFirst 106 = .ok (.iload 10, 2) := by decide +kernel
theorem dX1_cutFirst_108 : decode cX1_cutFirst 108 = .ok (.invokestatic 78, 3) := by decide +kernel
theorem dX1_cutFirst_111 : decode cX1_cutFirst 111 = .ok (.ifCond .eq 40, 3) := by decide +kernel
theorem dX1_cutFirst_114 : decode cX1_cutFirst 114 = .ok (.lload 7, 2) := by decide +kernel
theorem dX1_cutFirst_116 : decode cX1_cutFirst 116 = .ok (.iconst 4, 1) := by decide +kernel
theorem dX1_cutFirst_117 : decode cX1_cutFirst 117 = .ok (.iload 10, 2) := by decide +kernel
theorem dX1_cutFirst_119 : decode cX1_cutFirst 119 = .ok (.imul, 1) := by decide +kernel
theorem dX1_cutFirst_120 : decode cX1_cutFirst 120 = .ok (.lushr, 1) := by decide +kernel
theorem dX1_cutFirst_121 : decode cX1_cutFirst 121 = .ok (.l2i, 1) := by decide +kernel
theorem dX1_cutFirst_122 : decode cX1_cutFirst 122 = .ok (.bipush 15, 2) := by decide +kernel
theorem dX1_cutFirst_124 : decode cX1_cutFirst 124 = .ok (.iand, 1) := by decide +kernel
theorem dX1_cutFirst_125 : decode cX1_cutFirst 125 = .ok (.istore 11, 2) := by decide +kernel
theorem dX1_cutFirst_127 : decode cX1_cutFirst 127 = .ok (.iload 9, 2) := by decide +kernel
theorem dX1_cutFirst_129 : decode cX1_cutFirst 129 = .ok (.aload_n 0, 1) := by decide +kernel
theorem dX1_cutFirst_130 : decode cX1_cutFirst 130 = .ok (.iload_n 1, 1) := by decide +kernel
theorem dX1_cutFirst_131 : decode cX1_cutFirst 131 = .ok (.iconst 1, 1) := by decide +kernel
theorem dX1_cutFirst_132 : decode cX1_cutFirst 132 = .ok (.iload 11, 2) := by decide +kernel
theorem dX1_cutFirst_134 : decode cX1_cutFirst 134 = .ok (.ishl, 1) := by decide +kernel
theorem dX1_cutFirst_135 : decode cX1_cutFirst 135 = .ok (.ior, 1) := by decide +kernel
theorem dX1_cutFirst_136 : decode cX1_cutFirst 136 = .ok (.iload_n 2, 1) := by decide +kernel
theorem dX1_cutFirst_137 : decode cX1_cutFirst 137 = .ok (.iconst 1, 1) := by decide +kernel
theorem dX1_cutFirst_138 : decode cX1_cutFirst 138 = .ok (.iload 10, 2) := by decide +kernel
theorem dX1_cutFirst_140 : decode cX1_cutFirst 140 = .ok (.ishl, 1) := by decide +kernel
theorem dX1_cutFirst_141 : decode cX1_cutFirst 141 = .ok (.ior, 1) := by decide +kernel
theorem dX1_cutFirst_142 : decode cX1_cutFirst 142 = .ok (.iload_n 3, 1) := by decide +kernel
theorem dX1_cutFirst_143 : decode cX1_cutFirst 143 = .ok (.iconst 1, 1) := by decide +kernel
theorem dX1_cutFirst_144 : decode cX1_cutFirst 144 = .ok (.iadd, 1) := by decide +kernel
theorem dX1_cutFirst_145 : decode cX1_cutFirst 145 = .ok (.invokevirtual 55, 3) := by decide +kernel
theorem dX1_cutFirst_148 : decode cX1_cutFirst 148 = .ok (.iadd, 1) := by decide +kernel
theorem dX1_cutFirst_149 : decode cX1_cutFirst 149 = .ok (.istore 9, 2) := by decide +kernel
theorem dX1_cutFirst_151 : decode cX1_cutFirst 151 = .ok (.iinc 10 1, 3) := by decide +kernel
theorem dX1_cutFirst_154 : decode cX1_cutFirst 154 = .ok (.goto (-57), 3) := by decide +kernel
theorem dX1_cutFirst_157 : decode cX1_cutFirst 157 = .ok (.aload_n 0, 1) := by decide +kernel
theorem dX1_cutFirst_158 : decode cX1_cutFirst 158 = .ok (.getfield 14, 3) := by decide +kernel
theorem dX1_cutFirst_161 : decode cX1_cutFirst 161 = .ok (.iload_n 1, 1) := by decide +kernel
theorem dX1_cutFirst_162 : decode cX1_cutFirst 162 = .ok (.iload_n 2, 1) := by decide +kernel
theorem dX1_cutFirst_163 : decode cX1_cutFirst 163 = .ok (.iload 9, 2) := by decide +kernel
theorem dX1_cutFirst_165 : decode cX1_cutFirst 165 = .ok (.invokevirtual 81, 3) := by decide +kernel
theorem dX1_cutFirst_168 : decode cX1_cutFirst 168 = .ok (.iload 9, 2) := by decide +kernel
theorem dX1_cutFirst_170 : decode cX1_cutFirst 170 = .ok (.ireturn, 1) := by decide +kernel
theorem dX1_joinFirst_0 : decode cX1_joinFirst 0 = .ok (.aload_n 0, 1) := by decide +kernel
theorem dX1_joinFirst_1 : decode cX1_joinFirst 1 = .ok (.getfield 22, 3) := by decide +kernel
theorem dX1_joinFirst_4 : decode cX1_joinFirst 4 = .ok (.iload_n 1, 1) := by decide +kernel
theorem dX1_joinFirst_5 : decode cX1_joinFirst 5 = .ok (.iload_n 2, 1) := by decide +kernel
theorem dX1_joinFirst_6 : decode cX1_joinFirst 6 = .ok (.invokevirtual 34, 3) := by decide +kernel
theorem dX1_joinFirst_9 : decode cX1_joinFirst 9 = .ok (.istore 4, 2) := by decide +kernel
theorem dX1_joinFirst_11 : decode cX1_joinFirst 11 = .ok (.iload 4, 2) := by decide +kernel
theorem dX1_joinFirst_13 : decode cX1_joinFirst 13 = .ok (.iconst 2, 1) := by decide +kernel
theorem dX1_joinFirst_14 : decode cX1_joinFirst 14 = .ok (.if_icmp .ne 9, 3) := by decide +kernel
theorem dX1_joinFirst_17 : decode cX1_joinFirst 17 = .ok (.iload_n 3, 1) := by decide +kernel
theorem dX1_joinFirst_18 : decode cX1_joinFirst 18 = .ok (.bipush 14, 2) := by decide +kernel
theorem dX1_joinFirst_20 : decode cX1_joinFirst 20 = .ok (.if_icmp .le 17, 3) := by decide +kernel
theorem dX1_joinFirst_23 : decode cX1_joinFirst 23 = .ok (.iload 4, 2) := by decide +kernel
theorem dX1_joinFirst_25 : decode cX1_joinFirst 25 = .ok (.iconst 1, 1) := by decide +kernel
theorem dX1_joinFirst_26 : decode cX1_joinFirst 26 = .ok (.if_icmp .ne 8, 3) := by decide +kernel
theorem dX1_joinFirst_29 : decode cX1_joinFirst 29 = .ok (.ldc 64, 2) := by decide +kernel
theorem dX1_joinFirst_31 : decode cX1_joinFirst 31 = .ok (.goto 5, 3) := by decide +kernel
theorem dX1_joinFirst_34 : decode cX1_joinFirst 34 = .ok (.ldc 62, 2) := by decide +kernel
theorem dX1_joinFirst_36 : decode cX1_joinFirst 36 = .ok (.ireturn, 1) := by decide +kernel
theorem dX1_joinFirst_37 : decode cX1_joinFirst 37 = .ok (.aload_n 0, 1) := by decide +kernel
theorem dX1_joinFirst_38 : decode cX1_joinFirst 38 = .ok (.getfield 14, 3) := by decide +kernel
theorem dX1_joinFirst_41 : decode cX1_joinFirst 41 = .ok (.iload_n 1, 1) := by decide +kernel
theorem dX1_joinFirst_42 : decode cX1_joinFirst 42 = .ok (.iload_n 2, 1) := by decide +kernel
theorem dX1_joinFirst_43 : decode cX1_joinFirst 43 = .ok (.invokevirtual 65, 3) := by decide +kernel
theorem dX1_joinFirst_46 : decode cX1_joinFirst 46 = .ok (.istore 5, 2) := by decide +kernel
theorem dX1_joinFirst_48 : decode cX1_joinFirst 48 = .ok (.iload 5, 2) := by decide +kernel
theorem dX1_joinFirst_50 : decode cX1_joinFirst 50 = .ok (.iconst (-1), 1) := by decide +kernel
theorem dX1_joinFirst_51 : decode cX1_joinFirst 51 = .ok (.if_icmp .eq 6, 3) := by decide +kernel
theorem dX1_joinFirst_54 : decode cX1_joinFirst 54 = .ok (.iload 5, 2) := by decide +kernel
theorem dX1_joinFirst_56 : decode cX1_joinFirst 56 = .ok (.ireturn, 1) := by decide +kernel
theorem dX1_joinFirst_57 : decode cX1_joinFirst 57 = .ok (.aload_n 0, 1) := by decide +kernel
theorem dX1_joinFirst_58 : decode cX1_joinFirst 58 = .ok (.getfield 22, 3) := by decide +kernel
theorem dX1_joinFirst_61 : decode cX1_joinFirst 61 = .ok (.iload_n 1, 1) := by decide +kernel
theorem dX1_joinFirst_62 : decode cX1_joinFirst 62 = .ok (.iload_n 2, 1) := by decide +kernel
theorem dX1_joinFirst_63 : decode cX1_joinFirst 63 = .ok (.invokevirtual 46, 3) := by decide +kernel
theorem dX1_joinFirst_66 : decode cX1_joinFirst 66 = .ok (.istore 6, 2) := by decide +kernel
theorem dX1_joinFirst_68 : decode cX1_joinFirst 68 = .ok (.iconst 0, 1) := by decide +kernel
theorem dX1_joinFirst_69 : decode cX1_joinFirst 69 = .ok (.istore 7, 2) := by decide +kernel
theorem dX1_joinFirst_71 : decode cX1_joinFirst 71 = .ok (.iconst 0, 1) := by decide +kernel
theorem dX1_joinFirst_72 : decode cX1_joinFirst 72 = .ok (.istore 8, 2) := by decide +kernel
theorem dX1_joinFirst_74 : decode cX1_joinFirst 74 = .ok (.iload 8, 2) := by decide +kernel
theorem dX1_joinFirst_76 : decode cX1_joinFirst 76 = .ok (.bipush 14, 2) := by decide +kernel
theorem dX1_joinFirst_78 : decode cX1_joinFirst 78 = .ok (.if_icmp .ge 98, 3) := by decide +kernel
theorem dX1_joinFirst_81 : decode cX1_joinFirst 81 = .ok (.iload 6, 2) := by decide +kernel
theorem dX1_joinFirst_83 : decode cX1_joinFirst 83 = .ok (.iload 8, 2) := by decide +kernel
theorem dX1_joinFirst_85 : decode cX1_joinFirst 85 = .ok (.invokestatic 78, 3) := by decide +kernel
theorem dX1_joinFirst_88 : decode cX1_joinFirst 88 = .ok (.ifCond .eq 82, 3) := by decide +kernel
theorem dX1_joinFirst_91 : decode cX1_joinFirst 91 = .ok (.iload_n 1, 1) := by decide +kernel
theorem dX1_joinFirst_92 : decode cX1_joinFirst 92 = .ok (.iconst 1, 1) := by decide +kernel
theorem dX1_joinFirst_93 : decode cX1_joinFirst 93 = .ok (.iload 8, 2) := by decide +kernel
theorem dX1_joinFirst_95 : decode cX1_joinFirst 95 = .ok (.ishl, 1) := by decide +kernel
theorem dX1_joinFirst_96 : decode cX1_joinFirst 96 = .ok (.ior, 1) := by decide +kernel
theorem dX1_joinFirst_97 : decode cX1_joinFirst 97 = .ok (.istore 9, 2) := by decide +kernel
theorem dX1_joinFirst_99 : decode cX1_joinFirst 99 = .ok (.aload_n 0, 1) := by decide +kernel
theorem dX1_joinFirst_100 : decode cX1_joinFirst 100 = .ok (.getfield 22, 3) := by decide +kernel
theorem dX1_joinFirst_103 : decode cX1_joinFirst 103 = .ok (.aload_n 0, 1) := by decide +kernel
theorem dX1_joinFirst_104 : decode cX1_joinFirst 104 = .ok (.getfield 22, 3) := by decide +kernel
theorem dX1_joinFirst_107 : decode cX1_joinFirst 107 = .ok (.iload 9, 2) := by decide +kernel
theorem dX1_joinFirst_109 : decode cX1_joinFirst 109 = .ok (.invokevirtual 85, 3) := by decide +kernel
theorem dX1_joinFirst_112 : decode cX1_joinFirst 112 = .ok (.invokevirtual 89, 3) := by decide +kernel
theorem dX1_joinFirst_115 : decode cX1_joinFirst 115 = .ok (.ifCond .eq 8, 3) := by decide +kernel
theorem dX1_joinFirst_118 : decode cX1_joinFirst 118 = .ok (.bipush (-2), 2) := by decide +kernel
theorem dX1_joinFirst_120 : decode cX1_joinFirst 120 = .ok (.goto 15, 3) := by decide +kernel
theorem dX1_joinFirst_123 : decode cX1_joinFirst 123 = .ok (.aload_n 0, 1) := by decide +kernel
theorem dX1_joinFirst_124 : decode cX1_joinFirst 124 = .ok (.getfield 26, 3) := by decide +kernel
theorem dX1_joinFirst_127 : decode cX1_joinFirst 127 = .ok (.iconst 0, 1) := by decide +kernel
theorem dX1_joinFirst_128 : decode cX1_joinFirst 128 = .ok (.iconst 1, 1) := by decide +kernel
theorem dX1_joinFirst_129 : decode cX1_joinFirst 129 = .ok (.iload 9, 2) := by decide +kernel
theorem dX1_joinFirst_131 : decode cX1_joinFirst 131 = .ok (.iload_n 2, 1) := by decide +kernel
theorem dX1_joinFirst_132 : decode cX1_joinFirst 132 = .ok (.invokevirtual 40, 3) := by decide +kernel
theorem dX1_joinFirst_135 : decode cX1_joinFirst 135 = .ok (.istore 10, 2) := by decide +kernel
theorem dX1_joinFirst_137 : decode cX1_joinFirst 137 = .ok (.iload 10, 2) := by decide +kernel
theorem dX1_joinFirst_139 : decode cX1_joinFirst 139 = .ok (.ifCond .ge 7, 3) := by decide +kernel
theorem dX1_joinFirst_142 : decode cX1_joinFirst 142 = .ok (.iload_n 2, 1) := by decide +kernel
theorem dX1_joinFirst_143 : decode cX1_joinFirst 143 = .ok (.goto 9, 3) := by decide +kernel
theorem dX1_joinFirst_146 : decode cX1_joinFirst 146 = .ok (.iload_n 2, 1) := by decide +kernel
theorem dX1_joinFirst_147 : decode cX1_joinFirst 147 = .ok (.iconst 1, 1) := by decide +kernel
theorem dX1_joinFirst_148 : decode cX1_joinFirst 148 = .ok (.iload 10, 2) := by decide +kernel
theorem dX1_joinFirst_150 : decode cX1_joinFirst 150 = .ok (.ishl, 1) := by decide +kernel
theorem dX1_joinFirst_151 : decode cX1_joinFirst 151 = .ok (.ior, 1) := by decide +kernel
theorem dX1_joinFirst_152 : decode cX1_joinFirst 152 = .ok (.istore 11, 2) := by decide +kernel
theorem dX1_joinFirst_154 : decode cX1_joinFirst 154 = .ok (.iload 7, 2) := by decide +kernel
theorem dX1_joinFirst_156 : decode cX1_joinFirst 156 = .ok (.aload_n 0, 1) := by decide +kernel
theorem dX1_joinFirst_157 : decode cX1_joinFirst 157 = .ok (.iload 9, 2) := by decide +kernel
theorem dX1_joinFirst_159 : decode cX1_joinFirst 159 = .ok (.iload 11, 2) := by decide +kernel
theorem dX1_joinFirst_161 : decode cX1_joinFirst 161 = .ok (.iload_n 3, 1) := by decide +kernel
theorem dX1_joinFirst_162 : decode cX1_joinFirst 162 = .ok (.iconst 1, 1) := by decide +kernel
theorem dX1_joinFirst_163 : decode cX1_joinFirst 163 = .ok (.iadd, 1) := by decide +kernel
theorem dX1_joinFirst_164 : decode cX1_joinFirst 164 = .ok (.invokevirtual 59, 3) := by decide +kernel
theorem dX1_joinFirst_167 : decode cX1_joinFirst 167 = .ok (.iadd, 1) := by decide +kernel
theorem dX1_joinFirst_168 : decode cX1_joinFirst 168 = .ok (.istore 7, 2) := by decide +kernel
theorem dX1_joinFirst_170 : decode cX1_joinFirst 170 = .ok (.iinc 8 1, 3) := by decide +kernel
theorem dX1_joinFirst_173 : decode cX1_joinFirst 173 = .ok (.goto (-99), 3) := by decide +kernel
theorem dX1_joinFirst_176 : decode cX1_joinFirst 176 = .ok (.aload_n 0, 1) := by decide +kernel
theorem dX1_joinFirst_177 : decode cX1_joinFirst 177 = .ok (.getfield 14, 3) := by decide +kernel
theorem dX1_joinFirst_180 : decode cX1_joinFirst 180 = .ok (.iload_n 1, 1) := by decide +kernel
theorem dX1_joinFirst_181 : decode cX1_joinFirst 181 = .ok (.iload_n 2, 1) := by decide +kernel
theorem dX1_joinFirst_182 : decode cX1_joinFirst 182 = .ok (.iload 7, 2) := by decide +kernel
theorem dX1_joinFirst_184 : decode cX1_joinFirst 184 = .ok (.invokevirtual 81, 3) := by decide +kernel
theorem dX1_joinFirst_187 : decode cX1_joinFirst 187 = .ok (.iload 7, 2) := by decide +kernel
theorem dX1_joinFirst_189 : decode cX1_joinFirst 189 = .ok (.ireturn, 1) := by decide +kernel
theorem dX1_draw_0 : decode cX1_draw 0 = .ok (.aload_n 0, 1) := by decide +kernel
theorem dX1_draw_1 : decode cX1_draw 1 = .ok (.aload_n 0, 1) := by decide +kernel
theorem dX1_draw_2 : decode cX1_draw 2 = .ok (.getfield 18, 3) := by decide +kernel
theorem dX1_draw_5 : decode cX1_draw 5 = .ok (.ldc2_w 93, 3) := by decide +kernel
theorem dX1_draw_8 : decode cX1_draw 8 = .ok (.lmul, 1) := by decide +kernel
theorem dX1_draw_9 : decode cX1_draw 9 = .ok (.ldc2_w 95, 3) := by decide +kernel
theorem dX1_draw_12 : decode cX1_draw 12 = .ok (.ladd, 1) := by decide +kernel
theorem dX1_draw_13 : decode cX1_draw 13 = .ok (.ldc2_w 97, 3) := by decide +kernel
theorem dX1_draw_16 : decode cX1_draw 16 = .ok (.lrem, 1) := by decide +kernel
theorem dX1_draw_17 : decode cX1_draw 17 = .ok (.putfield 18, 3) := by decide +kernel
theorem dX1_draw_20 : decode cX1_draw 20 = .ok (.iload_n 1, 1) := by decide +kernel
theorem dX1_draw_21 : decode cX1_draw 21 = .ok (.iconst 1, 1) := by decide +kernel
theorem dX1_draw_22 : decode cX1_draw 22 = .ok (.if_icmp .ge 7, 3) := by decide +kernel
theorem dX1_draw_25 : decode cX1_draw 25 = .ok (.iconst 0, 1) := by decide +kernel
theorem dX1_draw_26 : decode cX1_draw 26 = .ok (.goto 15, 3) := by decide +kernel
theorem dX1_draw_29 : decode cX1_draw 29 = .ok (.aload_n 0, 1) := by decide +kernel
theorem dX1_draw_30 : decode cX1_draw 30 = .ok (.getfield 18, 3) := by decide +kernel
theorem dX1_draw_33 : decode cX1_draw 33 = .ok (.ldc2_w 99, 3) := by decide +kernel
theorem dX1_draw_36 : decode cX1_draw 36 = .ok (.ldiv, 1) := by decide +kernel
theorem dX1_draw_37 : decode cX1_draw 37 = .ok (.iload_n 1, 1) := by decide +kernel
theorem dX1_draw_38 : decode cX1_draw 38 = .ok (.i2l, 1) := by decide +kernel
theorem dX1_draw_39 : decode cX1_draw 39 = .ok (.lrem, 1) := by decide +kernel
theorem dX1_draw_40 : decode cX1_draw 40 = .ok (.l2i, 1) := by decide +kernel
theorem dX1_draw_41 : decode cX1_draw 41 = .ok (.ireturn, 1) := by decide +kernel
theorem dX1_drawLine_0 : decode cX1_drawLine 0 = .ok (.iload_n 1, 1) := by decide +kernel
theorem dX1_drawLine_1 : decode cX1_drawLine 1 = .ok (.aload_n 0, 1) := by decide +kernel
theorem dX1_drawLine_2 : decode cX1_drawLine 2 = .ok (.iload_n 1, 1) := by decide +kernel
theorem dX1_drawLine_3 : decode cX1_drawLine 3 = .ok (.invokestatic 101, 3) := by decide +kernel
theorem dX1_drawLine_6 : decode cX1_drawLine 6 = .ok (.invokevirtual 106, 3) := by decide +kernel
theorem dX1_drawLine_9 : decode cX1_drawLine 9 = .ok (.invokestatic 49, 3) := by decide +kernel
theorem dX1_drawLine_12 : decode cX1_drawLine 12 = .ok (.ireturn, 1) := by decide +kernel
theorem dX1_joinedByChance_0 : decode cX1_joinedByChance 0 = .ok (.aload_n 0, 1) := by decide +kernel
theorem dX1_joinedByChance_1 : decode cX1_joinedByChance 1 = .ok (.iload 4, 2) := by decide +kernel
theorem dX1_joinedByChance_3 : decode cX1_joinedByChance 3 = .ok (.i2l, 1) := by decide +kernel
theorem dX1_joinedByChance_4 : decode cX1_joinedByChance 4 = .ok (.putfield 18, 3) := by decide +kernel
theorem dX1_joinedByChance_7 : decode cX1_joinedByChance 7 = .ok (.iconst 0, 1) := by decide +kernel
theorem dX1_joinedByChance_8 : decode cX1_joinedByChance 8 = .ok (.istore 6, 2) := by decide +kernel
theorem dX1_joinedByChance_10 : decode cX1_joinedByChance 10 = .ok (.iconst 0, 1) := by decide +kernel
theorem dX1_joinedByChance_11 : decode cX1_joinedByChance 11 = .ok (.istore 7, 2) := by decide +kernel
theorem dX1_joinedByChance_13 : decode cX1_joinedByChance 13 = .ok (.iload 7, 2) := by decide +kernel
theorem dX1_joinedByChance_15 : decode cX1_joinedByChance 15 = .ok (.iload 5, 2) := by decide +kernel
theorem dX1_joinedByChance_17 : decode cX1_joinedByChance 17 = .ok (.if_icmp .ge 29, 3) := by decide +kernel
theorem dX1_joinedByChance_20 : decode cX1_joinedByChance 20 = .ok (.iload 7, 2) := by decide +kernel
theorem dX1_joinedByChance_22 : decode cX1_joinedByChance 22 = .ok (.bipush 50, 2) := by decide +kernel
theorem dX1_joinedByChance_24 : decode cX1_joinedByChance 24 = .ok (.if_icmp .ge 22, 3) := by decide +kernel
theorem dX1_joinedByChance_27 : decode cX1_joinedByChance 27 = .ok (.aload_n 0, 1) := by decide +kernel
theorem dX1_joinedByChance_28 : decode cX1_joinedByChance 28 = .ok (.iload_n 1, 1) := by decide +kernel
theorem dX1_joinedByChance_29 : decode cX1_joinedByChance 29 = .ok (.iload_n 2, 1) := by decide +kernel
theorem dX1_joinedByChance_30 : decode cX1_joinedByChance 30 = .ok (.iload_n 3, 1) := by decide +kernel
theorem dX1_joinedByChance_31 : decode cX1_joinedByChance 31 = .ok (.invokevirtual 109, 3) := by decide +kernel
theorem dX1_joinedByChance_34 : decode cX1_joinedByChance 34 = .ok (.ifCond .ne 6, 3) := by decide +kernel
theorem dX1_joinedByChance_37 : decode cX1_joinedByChance 37 = .ok (.iinc 6 1, 3) := by decide +kernel
theorem dX1_joinedByChance_40 : decode cX1_joinedByChance 40 = .ok (.iinc 7 1, 3) := by decide +kernel
theorem dX1_joinedByChance_43 : decode cX1_joinedByChance 43 = .ok (.goto (-30), 3) := by decide +kernel
theorem dX1_joinedByChance_46 : decode cX1_joinedByChance 46 = .ok (.iload 6, 2) := by decide +kernel
theorem dX1_joinedByChance_48 : decode cX1_joinedByChance 48 = .ok (.ireturn, 1) := by decide +kernel
theorem dX1_holderByChance_0 : decode cX1_holderByChance 0 = .ok (.iload_n 1, 1) := by decide +kernel
theorem dX1_holderByChance_1 : decode cX1_holderByChance 1 = .ok (.istore 4, 2) := by decide +kernel
theorem dX1_holderByChance_3 : decode cX1_holderByChance 3 = .ok (.iload_n 2, 1) := by decide +kernel
theorem dX1_holderByChance_4 : decode cX1_holderByChance 4 = .ok (.istore 5, 2) := by decide +kernel
theorem dX1_holderByChance_6 : decode cX1_holderByChance 6 = .ok (.iload_n 3, 1) := by decide +kernel
theorem dX1_holderByChance_7 : decode cX1_holderByChance 7 = .ok (.istore 6, 2) := by decide +kernel
theorem dX1_holderByChance_9 : decode cX1_holderByChance 9 = .ok (.iconst 0, 1) := by decide +kernel
theorem dX1_holderByChance_10 : decode cX1_holderByChance 10 = .ok (.istore 7, 2) := by decide +kernel
theorem dX1_holderByChance_12 : decode cX1_holderByChance 12 = .ok (.iload 7, 2) := by decide +kernel
theorem dX1_holderByChance_14 : decode cX1_holderByChance 14 = .ok (.bipush 14, 2) := by decide +kernel
theorem dX1_holderByChance_16 : decode cX1_holderByChance 16 = .ok (.if_icmp .ge 73, 3) := by decide +kernel
theorem dX1_holderByChance_19 : decode cX1_holderByChance 19 = .ok (.aload_n 0, 1) := by decide +kernel
theorem dX1_holderByChance_20 : decode cX1_holderByChance 20 = .ok (.getfield 22, 3) := by decide +kernel
theorem dX1_holderByChance_23 : decode cX1_holderByChance 23 = .ok (.iload 4, 2) := by decide +kernel
theorem dX1_holderByChance_25 : decode cX1_holderByChance 25 = .ok (.iload 5, 2) := by decide +kernel
theorem dX1_holderByChance_27 : decode cX1_holderByChance 27 = .ok (.invokevirtual 34, 3) := by decide +kernel
theorem dX1_holderByChance_30 : decode cX1_holderByChance 30 = .ok (.iconst 2, 1) := by decide +kernel
theorem dX1_holderByChance_31 : decode cX1_holderByChance 31 = .ok (.if_icmp .ne 58, 3) := by decide +kernel
theorem dX1_holderByChance_34 : decode cX1_holderByChance 34 = .ok (.aload_n 0, 1) := by decide +kernel
theorem dX1_holderByChance_35 : decode cX1_holderByChance 35 = .ok (.aload_n 0, 1) := by decide +kernel
theorem dX1_holderByChance_36 : decode cX1_holderByChance 36 = .ok (.getfield 22, 3) := by decide +kernel
theorem dX1_holderByChance_39 : decode cX1_holderByChance 39 = .ok (.iload 4, 2) := by decide +kernel
theorem dX1_holderByChance_41 : decode cX1_holderByChance 41 = .ok (.iload 5, 2) := by decide +kernel
theorem dX1_holderByChance_43 : decode cX1_holderByChance 43 = .ok (.invokevirtual 46, 3) := by decide +kernel
theorem dX1_holderByChance_46 : decode cX1_holderByChance 46 = .ok (.invokevirtual 112, 3) := by decide +kernel
theorem dX1_holderByChance_49 : decode cX1_holderByChance 49 = .ok (.istore 8, 2) := by decide +kernel
theorem dX1_holderByChance_51 : decode cX1_holderByChance 51 = .ok (.iload 6, 2) := by decide +kernel
theorem dX1_holderByChance_53 : decode cX1_holderByChance 53 = .ok (.ifCond .ne 15, 3) := by decide +kernel
theorem dX1_holderByChance_56 : decode cX1_holderByChance 56 = .ok (.iload 4, 2) := by decide +kernel
theorem dX1_holderByChance_58 : decode cX1_holderByChance 58 = .ok (.iconst 1, 1) := by decide +kernel
theorem dX1_holderByChance_59 : decode cX1_holderByChance 59 = .ok (.iload 8, 2) := by decide +kernel
theorem dX1_holderByChance_61 : decode cX1_holderByChance 61 = .ok (.ishl, 1) := by decide +kernel
theorem dX1_holderByChance_62 : decode cX1_holderByChance 62 = .ok (.ior, 1) := by decide +kernel
theorem dX1_holderByChance_63 : decode cX1_holderByChance 63 = .ok (.istore 4, 2) := by decide +kernel
theorem dX1_holderByChance_65 : decode cX1_holderByChance 65 = .ok (.goto 12, 3) := by decide +kernel
theorem dX1_holderByChance_68 : decode cX1_holderByChance 68 = .ok (.iload 5, 2) := by decide +kernel
theorem dX1_holderByChance_70 : decode cX1_holderByChance 70 = .ok (.iconst 1, 1) := by decide +kernel
theorem dX1_holderByChance_71 : decode cX1_holderByChance 71 = .ok (.iload 8, 2) := by decide +kernel
theorem dX1_holderByChance_73 : decode cX1_holderByChance 73 = .ok (.ishl, 1) := by decide +kernel
theorem dX1_holderByChance_74 : decode cX1_holderByChance 74 = .ok (.ior, 1) := by decide +kernel
theorem dX1_holderByChance_75 : decode cX1_holderByChance 75 = .ok (.istore 5, 2) := by decide +kernel
theorem dX1_holderByChance_77 : decode cX1_holderByChance 77 = .ok (.iconst 1, 1) := by decide +kernel
theorem dX1_holderByChance_78 : decode cX1_holderByChance 78 = .ok (.iload 6, 2) := by decide +kernel
theorem dX1_holderByChance_80 : decode cX1_holderByChance 80 = .ok (.isub, 1) := by decide +kernel
theorem dX1_holderByChance_81 : decode cX1_holderByChance 81 = .ok (.istore 6, 2) := by decide +kernel
theorem dX1_holderByChance_83 : decode cX1_holderByChance 83 = .ok (.iinc 7 1, 3) := by decide +kernel
theorem dX1_holderByChance_86 : decode cX1_holderByChance 86 = .ok (.goto (-74), 3) := by decide +kernel
theorem dX1_holderByChance_89 : decode cX1_holderByChance 89 = .ok (.aload_n 0, 1) := by decide +kernel
theorem dX1_holderByChance_90 : decode cX1_holderByChance 90 = .ok (.getfield 22, 3) := by decide +kernel
theorem dX1_holderByChance_93 : decode cX1_holderByChance 93 = .ok (.iload 4, 2) := by decide +kernel
theorem dX1_holderByChance_95 : decode cX1_holderByChance 95 = .ok (.iload 5, 2) := by decide +kernel
theorem dX1_holderByChance_97 : decode cX1_holderByChance 97 = .ok (.invokevirtual 34, 3) := by decide +kernel
theorem dX1_holderByChance_100 : decode cX1_holderByChance 100 = .ok (.ireturn, 1) := by decide +kernel
theorem dX1_movesOfDuel_0 : decode cX1_movesOfDuel 0 = .ok (.iload_n 1, 1) := by decide +kernel
theorem dX1_movesOfDuel_1 : decode cX1_movesOfDuel 1 = .ok (.istore 4, 2) := by decide +kernel
theorem dX1_movesOfDuel_3 : decode cX1_movesOfDuel 3 = .ok (.iload_n 2, 1) := by decide +kernel
theorem dX1_movesOfDuel_4 : decode cX1_movesOfDuel 4 = .ok (.istore 5, 2) := by decide +kernel
theorem dX1_movesOfDuel_6 : decode cX1_movesOfDuel 6 = .ok (.iconst 0, 1) := by decide +kernel
theorem dX1_movesOfDuel_7 : decode cX1_movesOfDuel 7 = .ok (.istore 6, 2) := by decide +kernel
theorem dX1_movesOfDuel_9 : decode cX1_movesOfDuel 9 = .ok (.aload_n 0, 1) := by decide +kernel
theorem dX1_movesOfDuel_10 : decode cX1_movesOfDuel 10 = .ok (.iload_n 3, 1) := by decide +kernel
theorem dX1_movesOfDuel_11 : decode cX1_movesOfDuel 11 = .ok (.i2l, 1) := by decide +kernel
theorem dX1_movesOfDuel_12 : decode cX1_movesOfDuel 12 = .ok (.putfield 18, 3) := by decide +kernel
theorem dX1_movesOfDuel_15 : decode cX1_movesOfDuel 15 = .ok (.iconst 0, 1) := by decide +kernel
theorem dX1_movesOfDuel_16 : decode cX1_movesOfDuel 16 = .ok (.istore 7, 2) := by decide +kernel
theorem dX1_movesOfDuel_18 : decode cX1_movesOfDuel 18 = .ok (.iload 7, 2) := by decide +kernel
theorem dX1_movesOfDuel_20 : decode cX1_movesOfDuel 20 = .ok (.bipush 14, 2) := by decide +kernel
theorem dX1_movesOfDuel_22 : decode cX1_movesOfDuel 22 = .ok (.if_icmp .ge 68, 3) := by decide +kernel
theorem dX1_movesOfDuel_25 : decode cX1_movesOfDuel 25 = .ok (.aload_n 0, 1) := by decide +kernel
theorem dX1_movesOfDuel_26 : decode cX1_movesOfDuel 26 = .ok (.getfield 30, 3) := by decide +kernel
theorem dX1_movesOfDuel_29 : decode cX1_movesOfDuel 29 = .ok (.iload 4, 2) := by decide +kernel
theorem dX1_movesOfDuel_31 : decode cX1_movesOfDuel 31 = .ok (.iload 5, 2) := by decide +kernel
theorem dX1_movesOfDuel_33 : decode cX1_movesOfDuel 33 = .ok (.invokevirtual 68, 3) := by decide +kernel
theorem dX1_movesOfDuel_36 : decode cX1_movesOfDuel 36 = .ok (.ifCond .eq 54, 3) := by decide +kernel
theorem dX1_movesOfDuel_39 : decode cX1_movesOfDuel 39 = .ok (.aload_n 0, 1) := by decide +kernel
theorem dX1_movesOfDuel_40 : decode cX1_movesOfDuel 40 = .ok (.aload_n 0, 1) := by decide +kernel
theorem dX1_movesOfDuel_41 : decode cX1_movesOfDuel 41 = .ok (.getfield 22, 3) := by decide +kernel
theorem dX1_movesOfDuel_44 : decode cX1_movesOfDuel 44 = .ok (.iload 4, 2) := by decide +kernel
theorem dX1_movesOfDuel_46 : decode cX1_movesOfDuel 46 = .ok (.iload 5, 2) := by decide +kernel
theorem dX1_movesOfDuel_48 : decode cX1_movesOfDuel 48 = .ok (.invokevirtual 46, 3) := by decide +kernel
theorem dX1_movesOfDuel_51 : decode cX1_movesOfDuel 51 = .ok (.invokevirtual 112, 3) := by decide +kernel
theorem dX1_movesOfDuel_54 : decode cX1_movesOfDuel 54 = .ok (.istore 8, 2) := by decide +kernel
theorem dX1_movesOfDuel_56 : decode cX1_movesOfDuel 56 = .ok (.iload 4, 2) := by decide +kernel
theorem dX1_movesOfDuel_58 : decode cX1_movesOfDuel 58 = .ok (.iconst 1, 1) := by decide +kernel
theorem dX1_movesOfDuel_59 : decode cX1_movesOfDuel 59 = .ok (.aload_n 0, 1) := by decide +kernel
theorem dX1_movesOfDuel_60 : decode cX1_movesOfDuel 60 = .ok (.getfield 30, 3) := by decide +kernel
theorem dX1_movesOfDuel_63 : decode cX1_movesOfDuel 63 = .ok (.iload 8, 2) := by decide +kernel
theorem dX1_movesOfDuel_65 : decode cX1_movesOfDuel 65 = .ok (.invokevirtual 115, 3) := by decide +kernel
theorem dX1_movesOfDuel_68 : decode cX1_movesOfDuel 68 = .ok (.ishl, 1) := by decide +kernel
theorem dX1_movesOfDuel_69 : decode cX1_movesOfDuel 69 = .ok (.ior, 1) := by decide +kernel
theorem dX1_movesOfDuel_70 : decode cX1_movesOfDuel 70 = .ok (.istore 4, 2) := by decide +kernel
theorem dX1_movesOfDuel_72 : decode cX1_movesOfDuel 72 = .ok (.iload 5, 2) := by decide +kernel
theorem dX1_movesOfDuel_74 : decode cX1_movesOfDuel 74 = .ok (.iconst 1, 1) := by decide +kernel
theorem dX1_movesOfDuel_75 : decode cX1_movesOfDuel 75 = .ok (.iload 8, 2) := by decide +kernel
theorem dX1_movesOfDuel_77 : decode cX1_movesOfDuel 77 = .ok (.ishl, 1) := by decide +kernel
theorem dX1_movesOfDuel_78 : decode cX1_movesOfDuel 78 = .ok (.ior, 1) := by decide +kernel
theorem dX1_movesOfDuel_79 : decode cX1_movesOfDuel 79 = .ok (.istore 5, 2) := by decide +kernel
theorem dX1_movesOfDuel_81 : decode cX1_movesOfDuel 81 = .ok (.iinc 6 2, 3) := by decide +kernel
theorem dX1_movesOfDuel_84 : decode cX1_movesOfDuel 84 = .ok (.iinc 7 1, 3) := by decide +kernel
theorem dX1_movesOfDuel_87 : decode cX1_movesOfDuel 87 = .ok (.goto (-69), 3) := by decide +kernel
theorem dX1_movesOfDuel_90 : decode cX1_movesOfDuel 90 = .ok (.iload 6, 2) := by decide +kernel
theorem dX1_movesOfDuel_92 : decode cX1_movesOfDuel 92 = .ok (.ireturn, 1) := by decide +kernel
theorem dX2_init_0 : decode cX2_init 0 = .ok (.aload_n 0, 1) := by decide +kernel
theorem dX2_init_1 : decode cX2_init 1 = .ok (.invokespecial 3, 3) := by decide +kernel
theorem dX2_init_4 : decode cX2_init 4 = .ok (.aload_n 0, 1) := by decide +kernel
theorem dX2_init_5 : decode cX2_init 5 = .ok (.bipush 40, 2) := by decide +kernel
theorem dX2_init_7 : decode cX2_init 7 = .ok (.newarray .int, 2) := by decide +kernel
theorem dX2_init_9 : decode cX2_init 9 = .ok (.putfield 9, 3) := by decide +kernel
theorem dX2_init_12 : decode cX2_init 12 = .ok (.aload_n 0, 1) := by decide +kernel
theorem dX2_init_13 : decode cX2_init 13 = .ok (.iconst 0, 1) := by decide +kernel
theorem dX2_init_14 : decode cX2_init 14 = .ok (.putfield 15, 3) := by decide +kernel
theorem dX2_init_17 : decode cX2_init 17 = .ok (.aload_n 0, 1) := by decide +kernel
theorem dX2_init_18 : decode cX2_init 18 = .ok (.iconst 0, 1) := by decide +kernel
theorem dX2_init_19 : decode cX2_init 19 = .ok (.putfield 19, 3) := by decide +kernel
theorem dX2_init_22 : decode cX2_init 22 = .ok (.return_, 1) := by decide +kernel
theorem dX2_forgetAll_0 : decode cX2_forgetAll 0 = .ok (.aload_n 0, 1) := by decide +kernel
theorem dX2_forgetAll_1 : decode cX2_forgetAll 1 = .ok (.iconst 0, 1) := by decide +kernel
theorem dX2_forgetAll_2 : decode cX2_forgetAll 2 = .ok (.putfield 15, 3) := by decide +kernel
theorem dX2_forgetAll_5 : decode cX2_forgetAll 5 = .ok (.aload_n 0, 1) := by decide +kernel
theorem dX2_forgetAll_6 : decode cX2_forgetAll 6 = .ok (.iconst 0, 1) := by decide +kernel
theorem dX2_forgetAll_7 : decode cX2_forgetAll 7 = .ok (.putfield 19, 3) := by decide +kernel
theorem dX2_forgetAll_10 : decode cX2_forgetAll 10 = .ok (.return_, 1) := by decide +kernel
theorem dX2_slotOf_0 : decode cX2_slotOf 0 = .ok (.aload_n 0, 1) := by decide +kernel
theorem dX2_slotOf_1 : decode cX2_slotOf 1 = .ok (.getfield 15, 3) := by decide +kernel
theorem dX2_slotOf_4 : decode cX2_slotOf 4 = .ok (.iload_n 1, 1) := by decide +kernel
theorem dX2_slotOf_5 : decode cX2_slotOf 5 = .ok (.iadd, 1) := by decide +kernel
theorem dX2_slotOf_6 : decode cX2_slotOf 6 = .ok (.bipush 40, 2) := by decide +kernel
theorem dX2_slotOf_8 : decode cX2_slotOf 8 = .ok (.invokestatic 22, 3) := by decide +kernel
theorem dX2_slotOf_11 : decode cX2_slotOf 11 = .ok (.ireturn, 1) := by decide +kernel
theorem dX2_add_0 : decode cX2_add 0 = .ok (.aload_n 0, 1) := by decide +kernel
theorem dX2_add_1 : decode cX2_add 1 = .ok (.getfield 9, 3) := by decide +kernel
theorem dX2_add_4 : decode cX2_add 4 = .ok (.aload_n 0, 1) := by decide +kernel
theorem dX2_add_5 : decode cX2_add 5 = .ok (.aload_n 0, 1) := by decide +kernel
theorem dX2_add_6 : decode cX2_add 6 = .ok (.getfield 19, 3) := by decide +kernel
theorem dX2_add_9 : decode cX2_add 9 = .ok (.invokevirtual 28, 3) := by decide +kernel
theorem dX2_add_12 : decode cX2_add 12 = .ok (.iload_n 1, 1) := by decide +kernel
theorem dX2_add_13 : decode cX2_add 13 = .ok (.iastore, 1) := by decide +kernel
theorem dX2_add_14 : decode cX2_add 14 = .ok (.aload_n 0, 1) := by decide +kernel
theorem dX2_add_15 : decode cX2_add 15 = .ok (.getfield 19, 3) := by decide +kernel
theorem dX2_add_18 : decode cX2_add 18 = .ok (.bipush 40, 2) := by decide +kernel
theorem dX2_add_20 : decode cX2_add 20 = .ok (.if_icmp .ge 16, 3) := by decide +kernel
theorem dX2_add_23 : decode cX2_add 23 = .ok (.aload_n 0, 1) := by decide +kernel
theorem dX2_add_24 : decode cX2_add 24 = .ok (.dup, 1) := by decide +kernel
theorem dX2_add_25 : decode cX2_add 25 = .ok (.getfield 19, 3) := by decide +kernel
theorem dX2_add_28 : decode cX2_add 28 = .ok (.iconst 1, 1) := by decide +kernel
theorem dX2_add_29 : decode cX2_add 29 = .ok (.iadd, 1) := by decide +kernel
theorem dX2_add_30 : decode cX2_add 30 = .ok (.putfield 19, 3) := by decide +kernel
theorem dX2_add_33 : decode cX2_add 33 = .ok (.goto 12, 3) := by decide +kernel
theorem dX2_add_36 : decode cX2_add 36 = .ok (.aload_n 0, 1) := by decide +kernel
theorem dX2_add_37 : decode cX2_add 37 = .ok (.aload_n 0, 1) := by decide +kernel
theorem dX2_add_38 : decode cX2_add 38 = .ok (.iconst 1, 1) := by decide +kernel
theorem dX2_add_39 : decode cX2_add 39 = .ok (.invokevirtual 28, 3) := by decide +kernel
theorem dX2_add_42 : decode cX2_add 42 = .ok (.putfield 15, 3) := by decide +kernel
theorem dX2_add_45 : decode cX2_add 45 = .ok (.return_, 1) := by decide +kernel
theorem dX2_entry_0 : decode cX2_entry 0 = .ok (.iload_n 1, 1) := by decide +kernel
theorem dX2_entry_1 : decode cX2_entry 1 = .ok (.ifCond .lt 24, 3) := by decide +kernel
theorem dX2_entry_4 : decode cX2_entry 4 = .ok (.iload_n 1, 1) := by decide +kernel
theorem dX2_entry_5 : decode cX2_entry 5 = .ok (.aload_n 0, 1) := by decide +kernel
theorem dX2_entry_6 : decode cX2_entry 6 = .ok (.getfield 19, 3) := by decide +kernel
theorem dX2_entry_9 : decode cX2_entry 9 = .ok (.if_icmp .ge 16, 3) := by decide +kernel
theorem dX2_entry_12 : decode cX2_entry 12 = .ok (.aload_n 0, 1) := by decide +kernel
theorem dX2_entry_13 : decode cX2_entry 13 = .ok (.getfield 9, 3) := by decide +kernel
theorem dX2_entry_16 : decode cX2_entry 16 = .ok (.aload_n 0, 1) := by decide +kernel
theorem dX2_entry_17 : decode cX2_entry 17 = .ok (.iload_n 1, 1) := by decide +kernel
theorem dX2_entry_18 : decode cX2_entry 18 = .ok (.invokevirtual 28, 3) := by decide +kernel
theorem dX2_entry_21 : decode cX2_entry 21 = .ok (.iaload, 1) := by decide +kernel
theorem dX2_entry_22 : decode cX2_entry 22 = .ok (.goto 4, 3) := by decide +kernel
theorem dX2_entry_25 : decode cX2_entry 25 = .ok (.iconst (-1), 1) := by decide +kernel
theorem dX2_entry_26 : decode cX2_entry 26 = .ok (.ireturn, 1) := by decide +kernel
theorem dX2_takeLatest_0 : decode cX2_takeLatest 0 = .ok (.aload_n 0, 1) := by decide +kernel
theorem dX2_takeLatest_1 : decode cX2_takeLatest 1 = .ok (.getfield 19, 3) := by decide +kernel
theorem dX2_takeLatest_4 : decode cX2_takeLatest 4 = .ok (.ifCond .ne 5, 3) := by decide +kernel
theorem dX2_takeLatest_7 : decode cX2_takeLatest 7 = .ok (.iconst (-1), 1) := by decide +kernel
theorem dX2_takeLatest_8 : decode cX2_takeLatest 8 = .ok (.ireturn, 1) := by decide +kernel
theorem dX2_takeLatest_9 : decode cX2_takeLatest 9 = .ok (.aload_n 0, 1) := by decide +kernel
theorem dX2_takeLatest_10 : decode cX2_takeLatest 10 = .ok (.dup, 1) := by decide +kernel
theorem dX2_takeLatest_11 : decode cX2_takeLatest 11 = .ok (.getfield 19, 3) := by decide +kernel
theorem dX2_takeLatest_14 : decode cX2_takeLatest 14 = .ok (.iconst 1, 1) := by decide +kernel
theorem dX2_takeLatest_15 : decode cX2_takeLatest 15 = .ok (.isub, 1) := by decide +kernel
theorem dX2_takeLatest_16 : decode cX2_takeLatest 16 = .ok (.putfield 19, 3) := by decide +kernel
theorem dX2_takeLatest_19 : decode cX2_takeLatest 19 = .ok (.aload_n 0, 1) := by decide +kernel
theorem dX2_takeLatest_20 : decode cX2_takeLatest 20 = .ok (.getfield 9, 3) := by decide +kernel
theorem dX2_takeLatest_23 : decode cX2_takeLatest 23 = .ok (.aload_n 0, 1) := by decide +kernel
theorem dX2_takeLatest_24 : decode cX2_takeLatest 24 = .ok (.aload_n 0, 1) := by decide +kernel
theorem dX2_takeLatest_25 : decode cX2_takeLatest 25 = .ok (.getfield 19, 3) := by decide +kernel
theorem dX2_takeLatest_28 : decode cX2_takeLatest 28 = .ok (.invokevirtual 28, 3) := by decide +kernel
theorem dX2_takeLatest_31 : decode cX2_takeLatest 31 = .ok (.iaload, 1) := by decide +kernel
theorem dX2_takeLatest_32 : decode cX2_takeLatest 32 = .ok (.ireturn, 1) := by decide +kernel
theorem dX3_init_0 : decode cX3_init 0 = .ok (.aload_n 0, 1) := by decide +kernel
theorem dX3_init_1 : decode cX3_init 1 = .ok (.invokespecial 3, 3) := by decide +kernel
theorem dX3_init_4 : decode cX3_init 4 = .ok (.aload_n 0, 1) := by decide +kernel
theorem dX3_init_5 : decode cX3_init 5 = .ok (.aload_n 1, 1) := by decide +kernel
theorem dX3_init_6 : decode cX3_init 6 = .ok (.putfield 9, 3) := by decide +kernel
theorem dX3_init_9 : decode cX3_init 9 = .ok (.aload_n 0, 1) := by decide +kernel
theorem dX3_init_10 : decode cX3_init 10 = .ok (.aload_n 2, 1) := by decide +kernel
theorem dX3_init_11 : decode cX3_init 11 = .ok (.putfield 15, 3) := by decide +kernel
theorem dX3_init_14 : decode cX3_init 14 = .ok (.return_, 1) := by decide +kernel
theorem dX3_outcomeBy_0 : decode cX3_outcomeBy 0 = .ok (.iload_n 0, 1) := by decide +kernel
theorem dX3_outcomeBy_1 : decode cX3_outcomeBy 1 = .ok (.ifCond .ne 7, 3) := by decide +kernel
theorem dX3_outcomeBy_4 : decode cX3_outcomeBy 4 = .ok (.iconst 0, 1) := by decide +kernel
theorem dX3_outcomeBy_5 : decode cX3_outcomeBy 5 = .ok (.goto 6, 3) := by decide +kernel
theorem dX3_outcomeBy_8 : decode cX3_outcomeBy 8 = .ok (.iconst 3, 1) := by decide +kernel
theorem dX3_outcomeBy_9 : decode cX3_outcomeBy 9 = .ok (.iload_n 0, 1) := by decide +kernel
theorem dX3_outcomeBy_10 : decode cX3_outcomeBy 10 = .ok (.isub, 1) := by decide +kernel
theorem dX3_outcomeBy_11 : decode cX3_outcomeBy 11 = .ok (.ireturn, 1) := by decide +kernel
theorem dX3_bringOpen_0 : decode cX3_bringOpen 0 = .ok (.aload_n 0, 1) := by decide +kernel
theorem dX3_bringOpen_1 : decode cX3_bringOpen 1 = .ok (.getfield 15, 3) := by decide +kernel
theorem dX3_bringOpen_4 : decode cX3_bringOpen 4 = .ok (.invokevirtual 19, 3) := by decide +kernel
theorem dX3_bringOpen_7 : decode cX3_bringOpen 7 = .ok (.iconst 0, 1) := by decide +kernel
theorem dX3_bringOpen_8 : decode cX3_bringOpen 8 = .ok (.istore_n 3, 1) := by decide +kernel
theorem dX3_bringOpen_9 : decode cX3_bringOpen 9 = .ok (.iload_n 3, 1) := by decide +kernel
theorem dX3_bringOpen_10 : decode cX3_bringOpen 10 = .ok (.bipush 14, 2) := by decide +kernel
theorem dX3_bringOpen_12 : decode cX3_bringOpen 12 = .ok (.if_icmp .ge 71, 3) := by decide +kernel
theorem dX3_bringOpen_15 : decode cX3_bringOpen 15 = .ok (.iload_n 2, 1) := by decide +kernel
theorem dX3_bringOpen_16 : decode cX3_bringOpen 16 = .ok (.iload_n 3, 1) := by decide +kernel
theorem dX3_bringOpen_17 : decode cX3_bringOpen 17 = .ok (.invokestatic 24, 3) := by decide +kernel
theorem dX3_bringOpen_20 : decode cX3_bringOpen 20 = .ok (.ifCond .eq 57, 3) := by decide +kernel
theorem dX3_bringOpen_23 : decode cX3_bringOpen 23 = .ok (.aload_n 0, 1) := by decide +kernel
theorem dX3_bringOpen_24 : decode cX3_bringOpen 24 = .ok (.getfield 9, 3) := by decide +kernel
theorem dX3_bringOpen_27 : decode cX3_bringOpen 27 = .ok (.iload_n 3, 1) := by decide +kernel
theorem dX3_bringOpen_28 : decode cX3_bringOpen 28 = .ok (.invokevirtual 28, 3) := by decide +kernel
theorem dX3_bringOpen_31 : decode cX3_bringOpen 31 = .ok (.ifCond .eq 46, 3) := by decide +kernel
theorem dX3_bringOpen_34 : decode cX3_bringOpen 34 = .ok (.aload_n 0, 1) := by decide +kernel
theorem dX3_bringOpen_35 : decode cX3_bringOpen 35 = .ok (.getfield 15, 3) := by decide +kernel
theorem dX3_bringOpen_38 : decode cX3_bringOpen 38 = .ok (.iload_n 3, 1) := by decide +kernel
theorem dX3_bringOpen_39 : decode cX3_bringOpen 39 = .ok (.iload_n 1, 1) := by decide +kernel
theorem dX3_bringOpen_40 : decode cX3_bringOpen 40 = .ok (.aload_n 0, 1) := by decide +kernel
theorem dX3_bringOpen_41 : decode cX3_bringOpen 41 = .ok (.getfield 9, 3) := by decide +kernel
theorem dX3_bringOpen_44 : decode cX3_bringOpen 44 = .ok (.getfield 34, 3) := by decide +kernel
theorem dX3_bringOpen_47 : decode cX3_bringOpen 47 = .ok (.iload_n 3, 1) := by decide +kernel
theorem dX3_bringOpen_48 : decode cX3_bringOpen 48 = .ok (.iaload, 1) := by decide +kernel
theorem dX3_bringOpen_49 : decode cX3_bringOpen 49 = .ok (.invokestatic 38, 3) := by decide +kernel
theorem dX3_bringOpen_52 : decode cX3_bringOpen 52 = .ok (.iload_n 1, 1) := by decide +kernel
theorem dX3_bringOpen_53 : decode cX3_bringOpen 53 = .ok (.aload_n 0, 1) := by decide +kernel
theorem dX3_bringOpen_54 : decode cX3_bringOpen 54 = .ok (.getfield 9, 3) := by decide +kernel
theorem dX3_bringOpen_57 : decode cX3_bringOpen 57 = .ok (.getfield 44, 3) := by decide +kernel
theorem dX3_bringOpen_60 : decode cX3_bringOpen 60 = .ok (.iload_n 3, 1) := by decide +kernel
theorem dX3_bringOpen_61 : decode cX3_bringOpen 61 = .ok (.iaload, 1) := by decide +kernel
theorem dX3_bringOpen_62 : decode cX3_bringOpen 62 = .ok (.invokestatic 38, 3) := by decide +kernel
theorem dX3_bringOpen_65 : decode cX3_bringOpen 65 = .ok (.invokevirtual 47, 3) := by decide +kernel
theorem dX3_bringOpen_68 : decode cX3_bringOpen 68 = .ok (.aload_n 0, 1) := by decide +kernel
theorem dX3_bringOpen_69 : decode cX3_bringOpen 69 = .ok (.getfield 15, 3) := by decide +kernel
theorem dX3_bringOpen_72 : decode cX3_bringOpen 72 = .ok (.iload_n 3, 1) := by decide +kernel
theorem dX3_bringOpen_73 : decode cX3_bringOpen 73 = .ok (.invokevirtual 51, 3) := by decide +kernel
theorem dX3_bringOpen_76 : decode cX3_bringOpen 76 = .ok (.pop, 1) := by decide +kernel
theorem dX3_bringOpen_77 : decode cX3_bringOpen 77 = .ok (.iinc 3 1, 3) := by decide +kernel
theorem dX3_bringOpen_80 : decode cX3_bringOpen 80 = .ok (.goto (-71), 3) := by decide +kernel
theorem dX3_bringOpen_83 : decode cX3_bringOpen 83 = .ok (.return_, 1) := by decide +kernel
theorem dX3_lacking_0 : decode cX3_lacking 0 = .ok (.aload_n 0, 1) := by decide +kernel
theorem dX3_lacking_1 : decode cX3_lacking 1 = .ok (.iload_n 1, 1) := by decide +kernel
theorem dX3_lacking_2 : decode cX3_lacking 2 = .ok (.iload_n 2, 1) := by decide +kernel
theorem dX3_lacking_3 : decode cX3_lacking 3 = .ok (.aload_n 0, 1) := by decide +kernel
theorem dX3_lacking_4 : decode cX3_lacking 4 = .ok (.getfield 9, 3) := by decide +kernel
theorem dX3_lacking_7 : decode cX3_lacking 7 = .ok (.getfield 54, 3) := by decide +kernel
theorem dX3_lacking_10 : decode cX3_lacking 10 = .ok (.aload_n 0, 1) := by decide +kernel
theorem dX3_lacking_11 : decode cX3_lacking 11 = .ok (.getfield 9, 3) := by decide +kernel
theorem dX3_lacking_14 : decode cX3_lacking 14 = .ok (.getfield 58, 3) := by decide +kernel
theorem dX3_lacking_17 : decode cX3_lacking 17 = .ok (.invokevirtual 61, 3) := by decide +kernel
theorem dX3_lacking_20 : decode cX3_lacking 20 = .ok (.ireturn, 1) := by decide +kernel
theorem dX3_lackingBetween_0 : decode cX3_lackingBetween 0 = .ok (.aload_n 0, 1) := by decide +kernel
theorem dX3_lackingBetween_1 : decode cX3_lackingBetween 1 = .ok (.getfield 9, 3) := by decide +kernel
theorem dX3_lackingBetween_4 : decode cX3_lackingBetween 4 = .ok (.iload_n 1, 1) := by decide +kernel
theorem dX3_lackingBetween_5 : decode cX3_lackingBetween 5 = .ok (.invokevirtual 65, 3) := by decide +kernel
theorem dX3_lackingBetween_8 : decode cX3_lackingBetween 8 = .ok (.istore 5, 2) := by decide +kernel
theorem dX3_lackingBetween_10 : decode cX3_lackingBetween 10 = .ok (.iload 5, 2) := by decide +kernel
theorem dX3_lackingBetween_12 : decode cX3_lackingBetween 12 = .ok (.iload_n 3, 1) := by decide +kernel
theorem dX3_lackingBetween_13 : decode cX3_lackingBetween 13 = .ok (.iload 4, 2) := by decide +kernel
theorem dX3_lackingBetween_15 : decode cX3_lackingBetween 15 = .ok (.invokestatic 69, 3) := by decide +kernel
theorem dX3_lackingBetween_18 : decode cX3_lackingBetween 18 = .ok (.ifCond .eq 5, 3) := by decide +kernel
theorem dX3_lackingBetween_21 : decode cX3_lackingBetween 21 = .ok (.iconst 0, 1) := by decide +kernel
theorem dX3_lackingBetween_22 : decode cX3_lackingBetween 22 = .ok (.ireturn, 1) := by decide +kernel
theorem dX3_lackingBetween_23 : decode cX3_lackingBetween 23 = .ok (.aload_n 0, 1) := by decide +kernel
theorem dX3_lackingBetween_24 : decode cX3_lackingBetween 24 = .ok (.iload 5, 2) := by decide +kernel
theorem dX3_lackingBetween_26 : decode cX3_lackingBetween 26 = .ok (.aload_n 0, 1) := by decide +kernel
theorem dX3_lackingBetween_27 : decode cX3_lackingBetween 27 = .ok (.getfield 9, 3) := by decide +kernel
theorem dX3_lackingBetween_30 : decode cX3_lackingBetween 30 = .ok (.iload_n 1, 1) := by decide +kernel
theorem dX3_lackingBetween_31 : decode cX3_lackingBetween 31 = .ok (.iload_n 2, 1) := by decide +kernel
theorem dX3_lackingBetween_32 : decode cX3_lackingBetween 32 = .ok (.invokevirtual 73, 3) := by decide +kernel
theorem dX3_lackingBetween_35 : decode cX3_lackingBetween 35 = .ok (.invokevirtual 76, 3) := by decide +kernel
theorem dX3_lackingBetween_38 : decode cX3_lackingBetween 38 = .ok (.aload_n 0, 1) := by decide +kernel
theorem dX3_lackingBetween_39 : decode cX3_lackingBetween 39 = .ok (.iload 5, 2) := by decide +kernel
theorem dX3_lackingBetween_41 : decode cX3_lackingBetween 41 = .ok (.iload_n 3, 1) := by decide +kernel
theorem dX3_lackingBetween_42 : decode cX3_lackingBetween 42 = .ok (.invokestatic 38, 3) := by decide +kernel
theorem dX3_lackingBetween_45 : decode cX3_lackingBetween 45 = .ok (.iload 5, 2) := by decide +kernel
theorem dX3_lackingBetween_47 : decode cX3_lackingBetween 47 = .ok (.iload 4, 2) := by decide +kernel
theorem dX3_lackingBetween_49 : decode cX3_lackingBetween 49 = .ok (.invokestatic 38, 3) := by decide +kernel
theorem dX3_lackingBetween_52 : decode cX3_lackingBetween 52 = .ok (.invokevirtual 80, 3) := by decide +kernel
theorem dX3_lackingBetween_55 : decode cX3_lackingBetween 55 = .ok (.ireturn, 1) := by decide +kernel
theorem dX3_lackingWithMore_0 : decode cX3_lackingWithMore 0 = .ok (.aload_n 0, 1) := by decide +kernel
theorem dX3_lackingWithMore_1 : decode cX3_lackingWithMore 1 = .ok (.getfield 9, 3) := by decide +kernel
theorem dX3_lackingWithMore_4 : decode cX3_lackingWithMore 4 = .ok (.iload_n 1, 1) := by decide +kernel
theorem dX3_lackingWithMore_5 : decode cX3_lackingWithMore 5 = .ok (.invokevirtual 65, 3) := by decide +kernel
theorem dX3_lackingWithMore_8 : decode cX3_lackingWithMore 8 = .ok (.istore 5, 2) := by decide +kernel
theorem dX3_lackingWithMore_10 : decode cX3_lackingWithMore 10 = .ok (.aload_n 0, 1) := by decide +kernel
theorem dX3_lackingWithMore_11 : decode cX3_lackingWithMore 11 = .ok (.getfield 9, 3) := by decide +kernel
theorem dX3_lackingWithMore_14 : decode cX3_lackingWithMore 14 = .ok (.iload 5, 2) := by decide +kernel
theorem dX3_lackingWithMore_16 : decode cX3_lackingWithMore 16 = .ok (.invokevirtual 83, 3) := by decide +kernel
theorem dX3_lackingWithMore_19 : decode cX3_lackingWithMore 19 = .ok (.ifCond .eq 5, 3) := by decide +kernel
theorem dX3_lackingWithMore_22 : decode cX3_lackingWithMore 22 = .ok (.iconst 0, 1) := by decide +kernel
theorem dX3_lackingWithMore_23 : decode cX3_lackingWithMore 23 = .ok (.ireturn, 1) := by decide +kernel
theorem dX3_lackingWithMore_24 : decode cX3_lackingWithMore 24 = .ok (.aload_n 0, 1) := by decide +kernel
theorem dX3_lackingWithMore_25 : decode cX3_lackingWithMore 25 = .ok (.iload 5, 2) := by decide +kernel
theorem dX3_lackingWithMore_27 : decode cX3_lackingWithMore 27 = .ok (.aload_n 0, 1) := by decide +kernel
theorem dX3_lackingWithMore_28 : decode cX3_lackingWithMore 28 = .ok (.getfield 9, 3) := by decide +kernel
theorem dX3_lackingWithMore_31 : decode cX3_lackingWithMore 31 = .ok (.iload_n 1, 1) := by decide +kernel
theorem dX3_lackingWithMore_32 : decode cX3_lackingWithMore 32 = .ok (.iload_n 2, 1) := by decide +kernel
theorem dX3_lackingWithMore_33 : decode cX3_lackingWithMore 33 = .ok (.invokevirtual 73, 3) := by decide +kernel
theorem dX3_lackingWithMore_36 : decode cX3_lackingWithMore 36 = .ok (.invokevirtual 76, 3) := by decide +kernel
theorem dX3_lackingWithMore_39 : decode cX3_lackingWithMore 39 = .ok (.aload_n 0, 1) := by decide +kernel
theorem dX3_lackingWithMore_40 : decode cX3_lackingWithMore 40 = .ok (.getfield 15, 3) := by decide +kernel
theorem dX3_lackingWithMore_43 : decode cX3_lackingWithMore 43 = .ok (.bipush 14, 2) := by decide +kernel
theorem dX3_lackingWithMore_45 : decode cX3_lackingWithMore 45 = .ok (.iload 5, 2) := by decide +kernel
theorem dX3_lackingWithMore_47 : decode cX3_lackingWithMore 47 = .ok (.iload_n 3, 1) := by decide +kernel
theorem dX3_lackingWithMore_48 : decode cX3_lackingWithMore 48 = .ok (.invokestatic 38, 3) := by decide +kernel
theorem dX3_lackingWithMore_51 : decode cX3_lackingWithMore 51 = .ok (.iload 5, 2) := by decide +kernel
theorem dX3_lackingWithMore_53 : decode cX3_lackingWithMore 53 = .ok (.iload 4, 2) := by decide +kernel
theorem dX3_lackingWithMore_55 : decode cX3_lackingWithMore 55 = .ok (.invokestatic 38, 3) := by decide +kernel
theorem dX3_lackingWithMore_58 : decode cX3_lackingWithMore 58 = .ok (.invokevirtual 47, 3) := by decide +kernel
theorem dX3_lackingWithMore_61 : decode cX3_lackingWithMore 61 = .ok (.aload_n 0, 1) := by decide +kernel
theorem dX3_lackingWithMore_62 : decode cX3_lackingWithMore 62 = .ok (.getfield 15, 3) := by decide +kernel
theorem dX3_lackingWithMore_65 : decode cX3_lackingWithMore 65 = .ok (.bipush 14, 2) := by decide +kernel
theorem dX3_lackingWithMore_67 : decode cX3_lackingWithMore 67 = .ok (.invokevirtual 51, 3) := by decide +kernel
theorem dX3_lackingWithMore_70 : decode cX3_lackingWithMore 70 = .ok (.pop, 1) := by decide +kernel
theorem dX3_lackingWithMore_71 : decode cX3_lackingWithMore 71 = .ok (.aload_n 0, 1) := by decide +kernel
theorem dX3_lackingWithMore_72 : decode cX3_lackingWithMore 72 = .ok (.iload 5, 2) := by decide +kernel
theorem dX3_lackingWithMore_74 : decode cX3_lackingWithMore 74 = .ok (.aload_n 0, 1) := by decide +kernel
theorem dX3_lackingWithMore_75 : decode cX3_lackingWithMore 75 = .ok (.getfield 9, 3) := by decide +kernel
theorem dX3_lackingWithMore_78 : decode cX3_lackingWithMore 78 = .ok (.getfield 54, 3) := by decide +kernel
theorem dX3_lackingWithMore_81 : decode cX3_lackingWithMore 81 = .ok (.invokestatic 38, 3) := by decide +kernel
theorem dX3_lackingWithMore_84 : decode cX3_lackingWithMore 84 = .ok (.iload 5, 2) := by decide +kernel
theorem dX3_lackingWithMore_86 : decode cX3_lackingWithMore 86 = .ok (.aload_n 0, 1) := by decide +kernel
theorem dX3_lackingWithMore_87 : decode cX3_lackingWithMore 87 = .ok (.getfield 9, 3) := by decide +kernel
theorem dX3_lackingWithMore_90 : decode cX3_lackingWithMore 90 = .ok (.getfield 58, 3) := by decide +kernel
theorem dX3_lackingWithMore_93 : decode cX3_lackingWithMore 93 = .ok (.invokestatic 38, 3) := by decide +kernel
theorem dX3_lackingWithMore_96 : decode cX3_lackingWithMore 96 = .ok (.invokevirtual 80, 3) := by decide +kernel
theorem dX3_lackingWithMore_99 : decode cX3_lackingWithMore 99 = .ok (.ireturn, 1) := by decide +kernel
theorem dX3_stillTaken_0 : decode cX3_stillTaken 0 = .ok (.aload_n 0, 1) := by decide +kernel
theorem dX3_stillTaken_1 : decode cX3_stillTaken 1 = .ok (.getfield 15, 3) := by decide +kernel
theorem dX3_stillTaken_4 : decode cX3_stillTaken 4 = .ok (.bipush 15, 2) := by decide +kernel
theorem dX3_stillTaken_6 : decode cX3_stillTaken 6 = .ok (.iload_n 1, 1) := by decide +kernel
theorem dX3_stillTaken_7 : decode cX3_stillTaken 7 = .ok (.iload_n 2, 1) := by decide +kernel
theorem dX3_stillTaken_8 : decode cX3_stillTaken 8 = .ok (.invokevirtual 47, 3) := by decide +kernel
theorem dX3_stillTaken_11 : decode cX3_stillTaken 11 = .ok (.aload_n 0, 1) := by decide +kernel
theorem dX3_stillTaken_12 : decode cX3_stillTaken 12 = .ok (.getfield 15, 3) := by decide +kernel
theorem dX3_stillTaken_15 : decode cX3_stillTaken 15 = .ok (.bipush 16, 2) := by decide +kernel
theorem dX3_stillTaken_17 : decode cX3_stillTaken 17 = .ok (.iload_n 1, 1) := by decide +kernel
theorem dX3_stillTaken_18 : decode cX3_stillTaken 18 = .ok (.iload_n 2, 1) := by decide +kernel
theorem dX3_stillTaken_19 : decode cX3_stillTaken 19 = .ok (.invokevirtual 47, 3) := by decide +kernel
theorem dX3_stillTaken_22 : decode cX3_stillTaken 22 = .ok (.aload_n 0, 1) := by decide +kernel
theorem dX3_stillTaken_23 : decode cX3_stillTaken 23 = .ok (.getfield 15, 3) := by decide +kernel
theorem dX3_stillTaken_26 : decode cX3_stillTaken 26 = .ok (.bipush 15, 2) := by decide +kernel
theorem dX3_stillTaken_28 : decode cX3_stillTaken 28 = .ok (.invokevirtual 51, 3) := by decide +kernel
theorem dX3_stillTaken_31 : decode cX3_stillTaken 31 = .ok (.ifCond .ne 5, 3) := by decide +kernel
theorem dX3_stillTaken_34 : decode cX3_stillTaken 34 = .ok (.iconst 0, 1) := by decide +kernel
theorem dX3_stillTaken_35 : decode cX3_stillTaken 35 = .ok (.ireturn, 1) := by decide +kernel
theorem dX3_stillTaken_36 : decode cX3_stillTaken 36 = .ok (.aload_n 0, 1) := by decide +kernel
theorem dX3_stillTaken_37 : decode cX3_stillTaken 37 = .ok (.getfield 15, 3) := by decide +kernel
theorem dX3_stillTaken_40 : decode cX3_stillTaken 40 = .ok (.bipush 16, 2) := by decide +kernel
theorem dX3_stillTaken_42 : decode cX3_stillTaken 42 = .ok (.invokevirtual 51, 3) := by decide +kernel
theorem dX3_stillTaken_45 : decode cX3_stillTaken 45 = .ok (.ifCond .eq 7, 3) := by decide +kernel
theorem dX3_stillTaken_48 : decode cX3_stillTaken 48 = .ok (.iconst 2, 1) := by decide +kernel
theorem dX3_stillTaken_49 : decode cX3_stillTaken 49 = .ok (.goto 4, 3) := by decide +kernel
theorem dX3_stillTaken_52 : decode cX3_stillTaken 52 = .ok (.iconst 1, 1) := by decide +kernel
theorem dX3_stillTaken_53 : decode cX3_stillTaken 53 = .ok (.ireturn, 1) := by decide +kernel
theorem dX3_winningFrom_0 : decode cX3_winningFrom 0 = .ok (.aload_n 0, 1) := by decide +kernel
theorem dX3_winningFrom_1 : decode cX3_winningFrom 1 = .ok (.getfield 9, 3) := by decide +kernel
theorem dX3_winningFrom_4 : decode cX3_winningFrom 4 = .ok (.iload_n 3, 1) := by decide +kernel
theorem dX3_winningFrom_5 : decode cX3_winningFrom 5 = .ok (.iload 4, 2) := by decide +kernel
theorem dX3_winningFrom_7 : decode cX3_winningFrom 7 = .ok (.invokevirtual 73, 3) := by decide +kernel
theorem dX3_winningFrom_10 : decode cX3_winningFrom 10 = .ok (.iconst (-1), 1) := by decide +kernel
theorem dX3_winningFrom_11 : decode cX3_winningFrom 11 = .ok (.iload_n 1, 1) := by decide +kernel
theorem dX3_winningFrom_12 : decode cX3_winningFrom 12 = .ok (.ishl, 1) := by decide +kernel
theorem dX3_winningFrom_13 : decode cX3_winningFrom 13 = .ok (.iand, 1) := by decide +kernel
theorem dX3_winningFrom_14 : decode cX3_winningFrom 14 = .ok (.istore 5, 2) := by decide +kernel
theorem dX3_winningFrom_16 : decode cX3_winningFrom 16 = .ok (.aload_n 0, 1) := by decide +kernel
theorem dX3_winningFrom_17 : decode cX3_winningFrom 17 = .ok (.iload_n 3, 1) := by decide +kernel
theorem dX3_winningFrom_18 : decode cX3_winningFrom 18 = .ok (.iload 4, 2) := by decide +kernel
theorem dX3_winningFrom_20 : decode cX3_winningFrom 20 = .ok (.aload_n 0, 1) := by decide +kernel
theorem dX3_winningFrom_21 : decode cX3_winningFrom 21 = .ok (.getfield 9, 3) := by decide +kernel
theorem dX3_winningFrom_24 : decode cX3_winningFrom 24 = .ok (.getfield 54, 3) := by decide +kernel
theorem dX3_winningFrom_27 : decode cX3_winningFrom 27 = .ok (.aload_n 0, 1) := by decide +kernel
theorem dX3_winningFrom_28 : decode cX3_winningFrom 28 = .ok (.getfield 9, 3) := by decide +kernel
theorem dX3_winningFrom_31 : decode cX3_winningFrom 31 = .ok (.getfield 58, 3) := by decide +kernel
theorem dX3_winningFrom_34 : decode cX3_winningFrom 34 = .ok (.invokevirtual 61, 3) := by decide +kernel
theorem dX3_winningFrom_37 : decode cX3_winningFrom 37 = .ok (.istore 6, 2) := by decide +kernel
theorem dX3_winningFrom_39 : decode cX3_winningFrom 39 = .ok (.iload 6, 2) := by decide +kernel
theorem dX3_winningFrom_41 : decode cX3_winningFrom 41 = .ok (.iconst 1, 1) := by decide +kernel
theorem dX3_winningFrom_42 : decode cX3_winningFrom 42 = .ok (.if_icmp .eq 37, 3) := by decide +kernel
theorem dX3_winningFrom_45 : decode cX3_winningFrom 45 = .ok (.iload 6, 2) := by decide +kernel
theorem dX3_winningFrom_47 : decode cX3_winningFrom 47 = .ok (.ifCond .ne 7, 3) := by decide +kernel
theorem dX3_winningFrom_50 : decode cX3_winningFrom 50 = .ok (.iconst 1, 1) := by decide +kernel
theorem dX3_winningFrom_51 : decode cX3_winningFrom 51 = .ok (.goto 4, 3) := by decide +kernel
theorem dX3_winningFrom_54 : decode cX3_winningFrom 54 = .ok (.iconst 0, 1) := by decide +kernel
theorem dX3_winningFrom_55 : decode cX3_winningFrom 55 = .ok (.iload_n 2, 1) := by decide +kernel
theorem dX3_winningFrom_56 : decode cX3_winningFrom 56 = .ok (.ifCond .ne 7, 3) := by decide +kernel
theorem dX3_winningFrom_59 : decode cX3_winningFrom 59 = .ok (.iconst 1, 1) := by decide +kernel
theorem dX3_winningFrom_60 : decode cX3_winningFrom 60 = .ok (.goto 4, 3) := by decide +kernel
theorem dX3_winningFrom_63 : decode cX3_winningFrom 63 = .ok (.iconst 0, 1) := by decide +kernel
theorem dX3_winningFrom_64 : decode cX3_winningFrom 64 = .ok (.if_icmp .ne 12, 3) := by decide +kernel
theorem dX3_winningFrom_67 : decode cX3_winningFrom 67 = .ok (.iload 5, 2) := by decide +kernel
theorem dX3_winningFrom_69 : decode cX3_winningFrom 69 = .ok (.iconst 0, 1) := by decide +kernel
theorem dX3_winningFrom_70 : decode cX3_winningFrom 70 = .ok (.invokestatic 86, 3) := by decide +kernel
theorem dX3_winningFrom_73 : decode cX3_winningFrom 73 = .ok (.goto 5, 3) := by decide +kernel
theorem dX3_winningFrom_76 : decode cX3_winningFrom 76 = .ok (.bipush (-2), 2) := by decide +kernel
theorem dX3_winningFrom_78 : decode cX3_winningFrom 78 = .ok (.ireturn, 1) := by decide +kernel
theorem dX3_winningFrom_79 : decode cX3_winningFrom 79 = .ok (.iconst 0, 1) := by decide +kernel
theorem dX3_winningFrom_80 : decode cX3_winningFrom 80 = .ok (.istore 7, 2) := by decide +kernel
theorem dX3_winningFrom_82 : decode cX3_winningFrom 82 = .ok (.iload 7, 2) := by decide +kernel
theorem dX3_winningFrom_84 : decode cX3_winningFrom 84 = .ok (.bipush 14, 2) := by decide +kernel
theorem dX3_winningFrom_86 : decode cX3_winningFrom 86 = .ok (.if_icmp .ge 90, 3) := by decide +kernel
theorem dX3_winningFrom_89 : decode cX3_winningFrom 89 = .ok (.iload 5, 2) := by decide +kernel
theorem dX3_winningFrom_91 : decode cX3_winningFrom 91 = .ok (.iload 7, 2) := by decide +kernel
theorem dX3_winningFrom_93 : decode cX3_winningFrom 93 = .ok (.invokestatic 24, 3) := by decide +kernel
theorem dX3_winningFrom_96 : decode cX3_winningFrom 96 = .ok (.ifCond .eq 74, 3) := by decide +kernel
theorem dX3_winningFrom_99 : decode cX3_winningFrom 99 = .ok (.iload_n 2, 1) := by decide +kernel
theorem dX3_winningFrom_100 : decode cX3_winningFrom 100 = .ok (.ifCond .ne 12, 3) := by decide +kernel
theorem dX3_winningFrom_103 : decode cX3_winningFrom 103 = .ok (.iload_n 3, 1) := by decide +kernel
theorem dX3_winningFrom_104 : decode cX3_winningFrom 104 = .ok (.iconst 1, 1) := by decide +kernel
theorem dX3_winningFrom_105 : decode cX3_winningFrom 105 = .ok (.iload 7, 2) := by decide +kernel
theorem dX3_winningFrom_107 : decode cX3_winningFrom 107 = .ok (.ishl, 1) := by decide +kernel
theorem dX3_winningFrom_108 : decode cX3_winningFrom 108 = .ok (.ior, 1) := by decide +kernel
theorem dX3_winningFrom_109 : decode cX3_winningFrom 109 = .ok (.goto 4, 3) := by decide +kernel
theorem dX3_winningFrom_112 : decode cX3_winningFrom 112 = .ok (.iload_n 3, 1) := by decide +kernel
theorem dX3_winningFrom_113 : decode cX3_winningFrom 113 = .ok (.istore 8, 2) := by decide +kernel
theorem dX3_winningFrom_115 : decode cX3_winningFrom 115 = .ok (.iload_n 2, 1) := by decide +kernel
theorem dX3_winningFrom_116 : decode cX3_winningFrom 116 = .ok (.ifCond .ne 8, 3) := by decide +kernel
theorem dX3_winningFrom_119 : decode cX3_winningFrom 119 = .ok (.iload 4, 2) := by decide +kernel
theorem dX3_winningFrom_121 : decode cX3_winningFrom 121 = .ok (.goto 10, 3) := by decide +kernel
theorem dX3_winningFrom_124 : decode cX3_winningFrom 124 = .ok (.iload 4, 2) := by decide +kernel
theorem dX3_winningFrom_126 : decode cX3_winningFrom 126 = .ok (.iconst 1, 1) := by decide +kernel
theorem dX3_winningFrom_127 : decode cX3_winningFrom 127 = .ok (.iload 7, 2) := by decide +kernel
theorem dX3_winningFrom_129 : decode cX3_winningFrom 129 = .ok (.ishl, 1) := by decide +kernel
theorem dX3_winningFrom_130 : decode cX3_winningFrom 130 = .ok (.ior, 1) := by decide +kernel
theorem dX3_winningFrom_131 : decode cX3_winningFrom 131 = .ok (.istore 9, 2) := by decide +kernel
theorem dX3_winningFrom_133 : decode cX3_winningFrom 133 = .ok (.aload_n 0, 1) := by decide +kernel
theorem dX3_winningFrom_134 : decode cX3_winningFrom 134 = .ok (.iload 8, 2) := by decide +kernel
theorem dX3_winningFrom_136 : decode cX3_winningFrom 136 = .ok (.iload 9, 2) := by decide +kernel
theorem dX3_winningFrom_138 : decode cX3_winningFrom 138 = .ok (.aload_n 0, 1) := by decide +kernel
theorem dX3_winningFrom_139 : decode cX3_winningFrom 139 = .ok (.getfield 9, 3) := by decide +kernel
theorem dX3_winningFrom_142 : decode cX3_winningFrom 142 = .ok (.getfield 54, 3) := by decide +kernel
theorem dX3_winningFrom_145 : decode cX3_winningFrom 145 = .ok (.aload_n 0, 1) := by decide +kernel
theorem dX3_winningFrom_146 : decode cX3_winningFrom 146 = .ok (.getfield 9, 3) := by decide +kernel
theorem dX3_winningFrom_149 : decode cX3_winningFrom 149 = .ok (.getfield 58, 3) := by decide +kernel
theorem dX3_winningFrom_152 : decode cX3_winningFrom 152 = .ok (.invokevirtual 61, 3) := by decide +kernel
theorem dX3_winningFrom_155 : decode cX3_winningFrom 155 = .ok (.iload_n 2, 1) := by decide +kernel
theorem dX3_winningFrom_156 : decode cX3_winningFrom 156 = .ok (.ifCond .ne 7, 3) := by decide +kernel
theorem dX3_winningFrom_159 : decode cX3_winningFrom 159 = .ok (.iconst 0, 1) := by decide +kernel
theorem dX3_winningFrom_160 : decode cX3_winningFrom 160 = .ok (.goto 4, 3) := by decide +kernel
theorem dX3_winningFrom_163 : decode cX3_winningFrom 163 = .ok (.iconst 2, 1) := by decide +kernel
theorem dX3_winningFrom_164 : decode cX3_winningFrom 164 = .ok (.if_icmp .ne 6, 3) := by decide +kernel
theorem dX3_winningFrom_167 : decode cX3_winningFrom 167 = .ok (.iload 7, 2) := by decide +kernel
theorem dX3_winningFrom_169 : decode cX3_winningFrom 169 = .ok (.ireturn, 1) := by decide +kernel
theorem dX3_winningFrom_170 : decode cX3_winningFrom 170 = .ok (.iinc 7 1, 3) := by decide +kernel
theorem dX3_winningFrom_173 : decode cX3_winningFrom 173 = .ok (.goto (-91), 3) := by decide +kernel
theorem dX3_winningFrom_176 : decode cX3_winningFrom 176 = .ok (.bipush (-2), 2) := by decide +kernel
theorem dX3_winningFrom_178 : decode cX3_winningFrom 178 = .ok (.ireturn, 1) := by decide +kernel
theorem dX4_init_0 : decode cX4_init 0 = .ok (.aload_n 0, 1) := by decide +kernel
theorem dX4_init_1 : decode cX4_init 1 = .ok (.invokespecial 3, 3) := by decide +kernel
theorem dX4_init_4 : decode cX4_init 4 = .ok (.aload_n 0, 1) := by decide +kernel
theorem dX4_init_5 : decode cX4_init 5 = .ok (.sipush 512, 3) := by decide +kernel
theorem dX4_init_8 : decode cX4_init 8 = .ok (.newarray .int, 2) := by decide +kernel
theorem dX4_init_10 : decode cX4_init 10 = .ok (.putfield 11, 3) := by decide +kernel
theorem dX4_init_13 : decode cX4_init 13 = .ok (.aload_n 0, 1) := by decide +kernel
theorem dX4_init_14 : decode cX4_init 14 = .ok (.bipush 15, 2) := by decide +kernel
theorem dX4_init_16 : decode cX4_init 16 = .ok (.newarray .int, 2) := by decide +kernel
theorem dX4_init_18 : decode cX4_init 18 = .ok (.putfield 15, 3) := by decide +kernel
theorem dX4_init_21 : decode cX4_init 21 = .ok (.aload_n 0, 1) := by decide +kernel
theorem dX4_init_22 : decode cX4_init 22 = .ok (.bipush 14, 2) := by decide +kernel
theorem dX4_init_24 : decode cX4_init 24 = .ok (.newarray .int, 2) := by decide +kernel
theorem dX4_init_26 : decode cX4_init 26 = .ok (.putfield 18, 3) := by decide +kernel
theorem dX4_init_29 : decode cX4_init 29 = .ok (.aload_n 0, 1) := by decide +kernel
theorem dX4_init_30 : decode cX4_init 30 = .ok (.bipush 14, 2) := by decide +kernel
theorem dX4_init_32 : decode cX4_init 32 = .ok (.newarray .int, 2) := by decide +kernel
theorem dX4_init_34 : decode cX4_init 34 = .ok (.putfield 21, 3) := by decide +kernel
theorem dX4_init_37 : decode cX4_init 37 = .ok (.aload_n 0, 1) := by decide +kernel
theorem dX4_init_38 : decode cX4_init 38 = .ok (.iconst 0, 1) := by decide +kernel
theorem dX4_init_39 : decode cX4_init 39 = .ok (.putfield 24, 3) := by decide +kernel
theorem dX4_init_42 : decode cX4_init 42 = .ok (.aload_n 0, 1) := by decide +kernel
theorem dX4_init_43 : decode cX4_init 43 = .ok (.iconst 0, 1) := by decide +kernel
theorem dX4_init_44 : decode cX4_init 44 = .ok (.putfield 28, 3) := by decide +kernel
theorem dX4_init_47 : decode cX4_init 47 = .ok (.aload_n 0, 1) := by decide +kernel
theorem dX4_init_48 : decode cX4_init 48 = .ok (.iconst 0, 1) := by decide +kernel
theorem dX4_init_49 : decode cX4_init 49 = .ok (.putfield 32, 3) := by decide +kernel
theorem dX4_init_52 : decode cX4_init 52 = .ok (.aload_n 0, 1) := by decide +kernel
theorem dX4_init_53 : decode cX4_init 53 = .ok (.iconst 0, 1) := by decide +kernel
theorem dX4_init_54 : decode cX4_init 54 = .ok (.putfield 35, 3) := by decide +kernel
theorem dX4_init_57 : decode cX4_init 57 = .ok (.aload_n 0, 1) := by decide +kernel
theorem dX4_init_58 : decode cX4_init 58 = .ok (.aload_n 1, 1) := by decide +kernel
theorem dX4_init_59 : decode cX4_init 59 = .ok (.putfield 38, 3) := by decide +kernel
theorem dX4_init_62 : decode cX4_init 62 = .ok (.return_, 1) := by decide +kernel
theorem dX4_forgetAll_0 : decode cX4_forgetAll 0 = .ok (.aload_n 0, 1) := by decide +kernel
theorem dX4_forgetAll_1 : decode cX4_forgetAll 1 = .ok (.iconst 0, 1) := by decide +kernel
theorem dX4_forgetAll_2 : decode cX4_forgetAll 2 = .ok (.putfield 24, 3) := by decide +kernel
theorem dX4_forgetAll_5 : decode cX4_forgetAll 5 = .ok (.return_, 1) := by decide +kernel
theorem dX4_lookAt_0 : decode cX4_lookAt 0 = .ok (.aload_n 0, 1) := by decide +kernel
theorem dX4_lookAt_1 : decode cX4_lookAt 1 = .ok (.getfield 24, 3) := by decide +kernel
theorem dX4_lookAt_4 : decode cX4_lookAt 4 = .ok (.ifCond .eq 20, 3) := by decide +kernel
theorem dX4_lookAt_7 : decode cX4_lookAt 7 = .ok (.aload_n 0, 1) := by decide +kernel
theorem dX4_lookAt_8 : decode cX4_lookAt 8 = .ok (.getfield 28, 3) := by decide +kernel
theorem dX4_lookAt_11 : decode cX4_lookAt 11 = .ok (.iload_n 1, 1) := by decide +kernel
theorem dX4_lookAt_12 : decode cX4_lookAt 12 = .ok (.if_icmp .ne 12, 3) := by decide +kernel
theorem dX4_lookAt_15 : decode cX4_lookAt 15 = .ok (.aload_n 0, 1) := by decide +kernel
theorem dX4_lookAt_16 : decode cX4_lookAt 16 = .ok (.getfield 32, 3) := by decide +kernel
theorem dX4_lookAt_19 : decode cX4_lookAt 19 = .ok (.iload_n 2, 1) := by decide +kernel
theorem dX4_lookAt_20 : decode cX4_lookAt 20 = .ok (.if_icmp .ne 4, 3) := by decide +kernel
theorem dX4_lookAt_23 : decode cX4_lookAt 23 = .ok (.return_, 1) := by decide +kernel
theorem dX4_lookAt_24 : decode cX4_lookAt 24 = .ok (.aload_n 0, 1) := by decide +kernel
theorem dX4_lookAt_25 : decode cX4_lookAt 25 = .ok (.iconst 1, 1) := by decide +kernel
theorem dX4_lookAt_26 : decode cX4_lookAt 26 = .ok (.putfield 24, 3) := by decide +kernel
theorem dX4_lookAt_29 : decode cX4_lookAt 29 = .ok (.aload_n 0, 1) := by decide +kernel
theorem dX4_lookAt_30 : decode cX4_lookAt 30 = .ok (.iload_n 1, 1) := by decide +kernel
theorem dX4_lookAt_31 : decode cX4_lookAt 31 = .ok (.putfield 28, 3) := by decide +kernel
theorem dX4_lookAt_34 : decode cX4_lookAt 34 = .ok (.aload_n 0, 1) := by decide +kernel
theorem dX4_lookAt_35 : decode cX4_lookAt 35 = .ok (.iload_n 2, 1) := by decide +kernel
theorem dX4_lookAt_36 : decode cX4_lookAt 36 = .ok (.putfield 32, 3) := by decide +kernel
theorem dX4_lookAt_39 : decode cX4_lookAt 39 = .ok (.aload_n 0, 1) := by decide +kernel
theorem dX4_lookAt_40 : decode cX4_lookAt 40 = .ok (.invokevirtual 42, 3) := by decide +kernel
theorem dX4_lookAt_43 : decode cX4_lookAt 43 = .ok (.aload_n 0, 1) := by decide +kernel
theorem dX4_lookAt_44 : decode cX4_lookAt 44 = .ok (.getfield 11, 3) := by decide +kernel
theorem dX4_lookAt_47 : decode cX4_lookAt 47 = .ok (.iconst 0, 1) := by decide +kernel
theorem dX4_lookAt_48 : decode cX4_lookAt 48 = .ok (.invokestatic 45, 3) := by decide +kernel
theorem dX4_lookAt_51 : decode cX4_lookAt 51 = .ok (.aload_n 0, 1) := by decide +kernel
theorem dX4_lookAt_52 : decode cX4_lookAt 52 = .ok (.aload_n 0, 1) := by decide +kernel
theorem dX4_lookAt_53 : decode cX4_lookAt 53 = .ok (.getfield 35, 3) := by decide +kernel
theorem dX4_lookAt_56 : decode cX4_lookAt 56 = .ok (.aload_n 0, 1) := by decide +kernel
theorem dX4_lookAt_57 : decode cX4_lookAt 57 = .ok (.getfield 38, 3) := by decide +kernel
theorem dX4_lookAt_60 : decode cX4_lookAt 60 = .ok (.aload_n 0, 1) := by decide +kernel
theorem dX4_lookAt_61 : decode cX4_lookAt 61 = .ok (.getfield 28, 3) := by decide +kernel
theorem dX4_lookAt_64 : decode cX4_lookAt 64 = .ok (.invokevirtual 51, 3) := by decide +kernel
theorem dX4_lookAt_67 : decode cX4_lookAt 67 = .ok (.iconst 0, 1) := by decide +kernel
theorem dX4_lookAt_68 : decode cX4_lookAt 68 = .ok (.invokevirtual 57, 3) := by decide +kernel
theorem dX4_lookAt_71 : decode cX4_lookAt 71 = .ok (.aload_n 0, 1) := by decide +kernel
theorem dX4_lookAt_72 : decode cX4_lookAt 72 = .ok (.invokevirtual 61, 3) := by decide +kernel
theorem dX4_lookAt_75 : decode cX4_lookAt 75 = .ok (.return_, 1) := by decide +kernel
theorem dX4_number_0 : decode cX4_number 0 = .ok (.aload_n 0, 1) := by decide +kernel
theorem dX4_number_1 : decode cX4_number 1 = .ok (.getfield 38, 3) := by decide +kernel
theorem dX4_number_4 : decode cX4_number 4 = .ok (.aload_n 0, 1) := by decide +kernel
theorem dX4_number_5 : decode cX4_number 5 = .ok (.getfield 28, 3) := by decide +kernel
theorem dX4_number_8 : decode cX4_number 8 = .ok (.aload_n 0, 1) := by decide +kernel
theorem dX4_number_9 : decode cX4_number 9 = .ok (.getfield 32, 3) := by decide +kernel
theorem dX4_number_12 : decode cX4_number 12 = .ok (.invokevirtual 64, 3) := by decide +kernel
theorem dX4_number_15 : decode cX4_number 15 = .ok (.istore_n 1, 1) := by decide +kernel
theorem dX4_number_16 : decode cX4_number 16 = .ok (.aload_n 0, 1) := by decide +kernel
theorem dX4_number_17 : decode cX4_number 17 = .ok (.iconst 0, 1) := by decide +kernel
theorem dX4_number_18 : decode cX4_number 18 = .ok (.putfield 35, 3) := by decide +kernel
theorem dX4_number_21 : decode cX4_number 21 = .ok (.iconst 0, 1) := by decide +kernel
theorem dX4_number_22 : decode cX4_number 22 = .ok (.istore_n 2, 1) := by decide +kernel
theorem dX4_number_23 : decode cX4_number 23 = .ok (.iload_n 2, 1) := by decide +kernel
theorem dX4_number_24 : decode cX4_number 24 = .ok (.bipush 14, 2) := by decide +kernel
theorem dX4_number_26 : decode cX4_number 26 = .ok (.if_icmp .ge 46, 3) := by decide +kernel
theorem dX4_number_29 : decode cX4_number 29 = .ok (.iload_n 1, 1) := by decide +kernel
theorem dX4_number_30 : decode cX4_number 30 = .ok (.iload_n 2, 1) := by decide +kernel
theorem dX4_number_31 : decode cX4_number 31 = .ok (.invokestatic 68, 3) := by decide +kernel
theorem dX4_number_34 : decode cX4_number 34 = .ok (.ifCond .eq 32, 3) := by decide +kernel
theorem dX4_number_37 : decode cX4_number 37 = .ok (.aload_n 0, 1) := by decide +kernel
theorem dX4_number_38 : decode cX4_number 38 = .ok (.getfield 35, 3) := by decide +kernel
theorem dX4_number_41 : decode cX4_number 41 = .ok (.bipush 14, 2) := by decide +kernel
theorem dX4_number_43 : decode cX4_number 43 = .ok (.if_icmp .ge 23, 3) := by decide +kernel
theorem dX4_number_46 : decode cX4_number 46 = .ok (.aload_n 0, 1) := by decide +kernel
theorem dX4_number_47 : decode cX4_number 47 = .ok (.getfield 18, 3) := by decide +kernel
theorem dX4_number_50 : decode cX4_number 50 = .ok (.aload_n 0, 1) := by decide +kernel
theorem dX4_number_51 : decode cX4_number 51 = .ok (.getfield 35, 3) := by decide +kernel
theorem dX4_number_54 : decode cX4_number 54 = .ok (.iload_n 2, 1) := by decide +kernel
theorem dX4_number_55 : decode cX4_number 55 = .ok (.iastore, 1) := by decide +kernel
theorem dX4_number_56 : decode cX4_number 56 = .ok (.aload_n 0, 1) := by decide +kernel
theorem dX4_number_57 : decode cX4_number 57 = .ok (.dup, 1) := by decide +kernel
theorem dX4_number_58 : decode cX4_number 58 = .ok (.getfield 35, 3) := by decide +kernel
theorem dX4_number_61 : decode cX4_number 61 = .ok (.iconst 1, 1) := by decide +kernel
theorem dX4_number_62 : decode cX4_number 62 = .ok (.iadd, 1) := by decide +kernel
theorem dX4_number_63 : decode cX4_number 63 = .ok (.putfield 35, 3) := by decide +kernel
theorem dX4_number_66 : decode cX4_number 66 = .ok (.iinc 2 1, 3) := by decide +kernel
theorem dX4_number_69 : decode cX4_number 69 = .ok (.goto (-46), 3) := by decide +kernel
theorem dX4_number_72 : decode cX4_number 72 = .ok (.return_, 1) := by decide +kernel
theorem dX4_mark_0 : decode cX4_mark 0 = .ok (.aload_n 0, 1) := by decide +kernel
theorem dX4_mark_1 : decode cX4_mark 1 = .ok (.getfield 38, 3) := by decide +kernel
theorem dX4_mark_4 : decode cX4_mark 4 = .ok (.iload_n 2, 1) := by decide +kernel
theorem dX4_mark_5 : decode cX4_mark 5 = .ok (.invokevirtual 72, 3) := by decide +kernel
theorem dX4_mark_8 : decode cX4_mark 8 = .ok (.ifCond .eq 10, 3) := by decide +kernel
theorem dX4_mark_11 : decode cX4_mark 11 = .ok (.aload_n 0, 1) := by decide +kernel
theorem dX4_mark_12 : decode cX4_mark 12 = .ok (.iload_n 1, 1) := by decide +kernel
theorem dX4_mark_13 : decode cX4_mark 13 = .ok (.iload_n 3, 1) := by decide +kernel
theorem dX4_mark_14 : decode cX4_mark 14 = .ok (.invokevirtual 76, 3) := by decide +kernel
theorem dX4_mark_17 : decode cX4_mark 17 = .ok (.return_, 1) := by decide +kernel
theorem dX4_mark_18 : decode cX4_mark 18 = .ok (.iload_n 1, 1) := by decide +kernel
theorem dX4_mark_19 : decode cX4_mark 19 = .ok (.iconst 1, 1) := by decide +kernel
theorem dX4_mark_20 : decode cX4_mark 20 = .ok (.isub, 1) := by decide +kernel
theorem dX4_mark_21 : decode cX4_mark 21 = .ok (.istore 4, 2) := by decide +kernel
theorem dX4_mark_23 : decode cX4_mark 23 = .ok (.iload 4, 2) := by decide +kernel
theorem dX4_mark_25 : decode cX4_mark 25 = .ok (.ifCond .lt 10, 3) := by decide +kernel
theorem dX4_mark_28 : decode cX4_mark 28 = .ok (.iload 4, 2) := by decide +kernel
theorem dX4_mark_30 : decode cX4_mark 30 = .ok (.bipush 14, 2) := by decide +kernel
theorem dX4_mark_32 : decode cX4_mark 32 = .ok (.if_icmp .lt 4, 3) := by decide +kernel
theorem dX4_mark_35 : decode cX4_mark 35 = .ok (.return_, 1) := by decide +kernel
theorem dX4_mark_36 : decode cX4_mark 36 = .ok (.aload_n 0, 1) := by decide +kernel
theorem dX4_mark_37 : decode cX4_mark 37 = .ok (.iload 4, 2) := by decide +kernel
theorem dX4_mark_39 : decode cX4_mark 39 = .ok (.iload_n 2, 1) := by decide +kernel
theorem dX4_mark_40 : decode cX4_mark 40 = .ok (.iload_n 3, 1) := by decide +kernel
theorem dX4_mark_41 : decode cX4_mark 41 = .ok (.invokevirtual 57, 3) := by decide +kernel
theorem dX4_mark_44 : decode cX4_mark 44 = .ok (.aload_n 0, 1) := by decide +kernel
theorem dX4_mark_45 : decode cX4_mark 45 = .ok (.iload 4, 2) := by decide +kernel
theorem dX4_mark_47 : decode cX4_mark 47 = .ok (.aload_n 0, 1) := by decide +kernel
theorem dX4_mark_48 : decode cX4_mark 48 = .ok (.getfield 38, 3) := by decide +kernel
theorem dX4_mark_51 : decode cX4_mark 51 = .ok (.iload_n 2, 1) := by decide +kernel
theorem dX4_mark_52 : decode cX4_mark 52 = .ok (.aload_n 0, 1) := by decide +kernel
theorem dX4_mark_53 : decode cX4_mark 53 = .ok (.getfield 18, 3) := by decide +kernel
theorem dX4_mark_56 : decode cX4_mark 56 = .ok (.iload 4, 2) := by decide +kernel
theorem dX4_mark_58 : decode cX4_mark 58 = .ok (.iaload, 1) := by decide +kernel
theorem dX4_mark_59 : decode cX4_mark 59 = .ok (.invokevirtual 80, 3) := by decide +kernel
theorem dX4_mark_62 : decode cX4_mark 62 = .ok (.iload_n 3, 1) := by decide +kernel
theorem dX4_mark_63 : decode cX4_mark 63 = .ok (.iconst 1, 1) := by decide +kernel
theorem dX4_mark_64 : decode cX4_mark 64 = .ok (.iload 4, 2) := by decide +kernel
theorem dX4_mark_66 : decode cX4_mark 66 = .ok (.ishl, 1) := by decide +kernel
theorem dX4_mark_67 : decode cX4_mark 67 = .ok (.ior, 1) := by decide +kernel
theorem dX4_mark_68 : decode cX4_mark 68 = .ok (.invokevirtual 57, 3) := by decide +kernel
theorem dX4_mark_71 : decode cX4_mark 71 = .ok (.return_, 1) := by decide +kernel
theorem dX4_markAll_0 : decode cX4_markAll 0 = .ok (.iload_n 2, 1) := by decide +kernel
theorem dX4_markAll_1 : decode cX4_markAll 1 = .ok (.iconst 5, 1) := by decide +kernel
theorem dX4_markAll_2 : decode cX4_markAll 2 = .ok (.iushr, 1) := by decide +kernel
theorem dX4_markAll_3 : decode cX4_markAll 3 = .ok (.istore_n 3, 1) := by decide +kernel
theorem dX4_markAll_4 : decode cX4_markAll 4 = .ok (.iload_n 1, 1) := by decide +kernel
theorem dX4_markAll_5 : decode cX4_markAll 5 = .ok (.iconst 5, 1) := by decide +kernel
theorem dX4_markAll_6 : decode cX4_markAll 6 = .ok (.if_icmp .ge 32, 3) := by decide +kernel
theorem dX4_markAll_9 : decode cX4_markAll 9 = .ok (.iload_n 3, 1) := by decide +kernel
theorem dX4_markAll_10 : decode cX4_markAll 10 = .ok (.sipush 512, 3) := by decide +kernel
theorem dX4_markAll_13 : decode cX4_markAll 13 = .ok (.if_icmp .ge 24, 3) := by decide +kernel
theorem dX4_markAll_16 : decode cX4_markAll 16 = .ok (.aload_n 0, 1) := by decide +kernel
theorem dX4_markAll_17 : decode cX4_markAll 17 = .ok (.getfield 11, 3) := by decide +kernel
theorem dX4_markAll_20 : decode cX4_markAll 20 = .ok (.iload_n 3, 1) := by decide +kernel
theorem dX4_markAll_21 : decode cX4_markAll 21 = .ok (.dup2, 1) := by decide +kernel
theorem dX4_markAll_22 : decode cX4_markAll 22 = .ok (.iaload, 1) := by decide +kernel
theorem dX4_markAll_23 : decode cX4_markAll 23 = .ok (.iconst 1, 1) := by decide +kernel
theorem dX4_markAll_24 : decode cX4_markAll 24 = .ok (.iconst 1, 1) := by decide +kernel
theorem dX4_markAll_25 : decode cX4_markAll 25 = .ok (.iload_n 1, 1) := by decide +kernel
theorem dX4_markAll_26 : decode cX4_markAll 26 = .ok (.ishl, 1) := by decide +kernel
theorem dX4_markAll_27 : decode cX4_markAll 27 = .ok (.ishl, 1) := by decide +kernel
theorem dX4_markAll_28 : decode cX4_markAll 28 = .ok (.iconst 1, 1) := by decide +kernel
theorem dX4_markAll_29 : decode cX4_markAll 29 = .ok (.isub, 1) := by decide +kernel
theorem dX4_markAll_30 : decode cX4_markAll 30 = .ok (.iload_n 2, 1) := by decide +kernel
theorem dX4_markAll_31 : decode cX4_markAll 31 = .ok (.bipush 31, 2) := by decide +kernel
theorem dX4_markAll_33 : decode cX4_markAll 33 = .ok (.iand, 1) := by decide +kernel
theorem dX4_markAll_34 : decode cX4_markAll 34 = .ok (.ishl, 1) := by decide +kernel
theorem dX4_markAll_35 : decode cX4_markAll 35 = .ok (.ior, 1) := by decide +kernel
theorem dX4_markAll_36 : decode cX4_markAll 36 = .ok (.iastore, 1) := by decide +kernel
theorem dX4_markAll_37 : decode cX4_markAll 37 = .ok (.return_, 1) := by decide +kernel
theorem dX4_markAll_38 : decode cX4_markAll 38 = .ok (.iload_n 3, 1) := by decide +kernel
theorem dX4_markAll_39 : decode cX4_markAll 39 = .ok (.iconst 1, 1) := by decide +kernel
theorem dX4_markAll_40 : decode cX4_markAll 40 = .ok (.iload_n 1, 1) := by decide +kernel
theorem dX4_markAll_41 : decode cX4_markAll 41 = .ok (.iconst 5, 1) := by decide +kernel
theorem dX4_markAll_42 : decode cX4_markAll 42 = .ok (.isub, 1) := by decide +kernel
theorem dX4_markAll_43 : decode cX4_markAll 43 = .ok (.ishl, 1) := by decide +kernel
theorem dX4_markAll_44 : decode cX4_markAll 44 = .ok (.iadd, 1) := by decide +kernel
theorem dX4_markAll_45 : decode cX4_markAll 45 = .ok (.sipush 512, 3) := by decide +kernel
theorem dX4_markAll_48 : decode cX4_markAll 48 = .ok (.invokestatic 83, 3) := by decide +kernel
theorem dX4_markAll_51 : decode cX4_markAll 51 = .ok (.istore 4, 2) := by decide +kernel
theorem dX4_markAll_53 : decode cX4_markAll 53 = .ok (.iload_n 3, 1) := by decide +kernel
theorem dX4_markAll_54 : decode cX4_markAll 54 = .ok (.istore 5, 2) := by decide +kernel
theorem dX4_markAll_56 : decode cX4_markAll 56 = .ok (.iload 5, 2) := by decide +kernel
theorem dX4_markAll_58 : decode cX4_markAll 58 = .ok (.iload 4, 2) := by decide +kernel
theorem dX4_markAll_60 : decode cX4_markAll 60 = .ok (.if_icmp .ge 17, 3) := by decide +kernel
theorem dX4_markAll_63 : decode cX4_markAll 63 = .ok (.aload_n 0, 1) := by decide +kernel
theorem dX4_markAll_64 : decode cX4_markAll 64 = .ok (.getfield 11, 3) := by decide +kernel
theorem dX4_markAll_67 : decode cX4_markAll 67 = .ok (.iload 5, 2) := by decide +kernel
theorem dX4_markAll_69 : decode cX4_markAll 69 = .ok (.iconst (-1), 1) := by decide +kernel
theorem dX4_markAll_70 : decode cX4_markAll 70 = .ok (.iastore, 1) := by decide +kernel
theorem dX4_markAll_71 : decode cX4_markAll 71 = .ok (.iinc 5 1, 3) := by decide +kernel
theorem dX4_markAll_74 : decode cX4_markAll 74 = .ok (.goto (-18), 3) := by decide +kernel
theorem dX4_markAll_77 : decode cX4_markAll 77 = .ok (.return_, 1) := by decide +kernel
theorem dX4_wordsUsed_0 : decode cX4_wordsUsed 0 = .ok (.aload_n 0, 1) := by decide +kernel
theorem dX4_wordsUsed_1 : decode cX4_wordsUsed 1 = .ok (.getfield 35, 3) := by decide +kernel
theorem dX4_wordsUsed_4 : decode cX4_wordsUsed 4 = .ok (.iconst 5, 1) := by decide +kernel
theorem dX4_wordsUsed_5 : decode cX4_wordsUsed 5 = .ok (.if_icmp .gt 7, 3) := by decide +kernel
theorem dX4_wordsUsed_8 : decode cX4_wordsUsed 8 = .ok (.iconst 1, 1) := by decide +kernel
theorem dX4_wordsUsed_9 : decode cX4_wordsUsed 9 = .ok (.goto 17, 3) := by decide +kernel
theorem dX4_wordsUsed_12 : decode cX4_wordsUsed 12 = .ok (.iconst 1, 1) := by decide +kernel
theorem dX4_wordsUsed_13 : decode cX4_wordsUsed 13 = .ok (.aload_n 0, 1) := by decide +kernel
theorem dX4_wordsUsed_14 : decode cX4_wordsUsed 14 = .ok (.getfield 35, 3) := by decide +kernel
theorem dX4_wordsUsed_17 : decode cX4_wordsUsed 17 = .ok (.iconst 5, 1) := by decide +kernel
theorem dX4_wordsUsed_18 : decode cX4_wordsUsed 18 = .ok (.isub, 1) := by decide +kernel
theorem dX4_wordsUsed_19 : decode cX4_wordsUsed 19 = .ok (.ishl, 1) := by decide +kernel
theorem dX4_wordsUsed_20 : decode cX4_wordsUsed 20 = .ok (.sipush 512, 3) := by decide +kernel
theorem dX4_wordsUsed_23 : decode cX4_wordsUsed 23 = .ok (.invokestatic 83, 3) := by decide +kernel
theorem dX4_wordsUsed_26 : decode cX4_wordsUsed 26 = .ok (.ireturn, 1) := by decide +kernel
theorem dX4_tallySizes_0 : decode cX4_tallySizes 0 = .ok (.aload_n 0, 1) := by decide +kernel
theorem dX4_tallySizes_1 : decode cX4_tallySizes 1 = .ok (.getfield 15, 3) := by decide +kernel
theorem dX4_tallySizes_4 : decode cX4_tallySizes 4 = .ok (.iconst 0, 1) := by decide +kernel
theorem dX4_tallySizes_5 : decode cX4_tallySizes 5 = .ok (.invokestatic 45, 3) := by decide +kernel
theorem dX4_tallySizes_8 : decode cX4_tallySizes 8 = .ok (.aload_n 0, 1) := by decide +kernel
theorem dX4_tallySizes_9 : decode cX4_tallySizes 9 = .ok (.invokevirtual 88, 3) := by decide +kernel
theorem dX4_tallySizes_12 : decode cX4_tallySizes 12 = .ok (.istore_n 1, 1) := by decide +kernel
theorem dX4_tallySizes_13 : decode cX4_tallySizes 13 = .ok (.iconst 0, 1) := by decide +kernel
theorem dX4_tallySizes_14 : decode cX4_tallySizes 14 = .ok (.istore_n 2, 1) := by decide +kernel
theorem dX4_tallySizes_15 : decode cX4_tallySizes 15 = .ok (.iload_n 2, 1) := by decide +kernel
theorem dX4_tallySizes_16 : decode cX4_tallySizes 16 = .ok (.iload_n 1, 1) := by decide +kernel
theorem dX4_tallySizes_17 : decode cX4_tallySizes 17 = .ok (.if_icmp .ge 69, 3) := by decide +kernel
theorem dX4_tallySizes_20 : decode cX4_tallySizes 20 = .ok (.iload_n 2, 1) := by decide +kernel
theorem dX4_tallySizes_21 : decode cX4_tallySizes 21 = .ok (.invokestatic 92, 3) := by decide +kernel
theorem dX4_tallySizes_24 : decode cX4_tallySizes 24 = .ok (.istore_n 3, 1) := by decide +kernel
theorem dX4_tallySizes_25 : decode cX4_tallySizes 25 = .ok (.iconst 0, 1) := by decide +kernel
theorem dX4_tallySizes_26 : decode cX4_tallySizes 26 = .ok (.istore 4, 2) := by decide +kernel
theorem dX4_tallySizes_28 : decode cX4_tallySizes 28 = .ok (.iload 4, 2) := by decide +kernel
theorem dX4_tallySizes_30 : decode cX4_tallySizes 30 = .ok (.getstatic 97, 3) := by decide +kernel
theorem dX4_tallySizes_33 : decode cX4_tallySizes 33 = .ok (.arraylength, 1) := by decide +kernel
theorem dX4_tallySizes_34 : decode cX4_tallySizes 34 = .ok (.if_icmp .ge 46, 3) := by decide +kernel
theorem dX4_tallySizes_37 : decode cX4_tallySizes 37 = .ok (.iload_n 3, 1) := by decide +kernel
theorem dX4_tallySizes_38 : decode cX4_tallySizes 38 = .ok (.iload 4, 2) := by decide +kernel
theorem dX4_tallySizes_40 : decode cX4_tallySizes 40 = .ok (.iadd, 1) := by decide +kernel
theorem dX4_tallySizes_41 : decode cX4_tallySizes 41 = .ok (.bipush 14, 2) := by decide +kernel
theorem dX4_tallySizes_43 : decode cX4_tallySizes 43 = .ok (.if_icmp .gt 31, 3) := by decide +kernel
theorem dX4_tallySizes_46 : decode cX4_tallySizes 46 = .ok (.aload_n 0, 1) := by decide +kernel
theorem dX4_tallySizes_47 : decode cX4_tallySizes 47 = .ok (.getfield 15, 3) := by decide +kernel
theorem dX4_tallySizes_50 : decode cX4_tallySizes 50 = .ok (.iload_n 3, 1) := by decide +kernel
theorem dX4_tallySizes_51 : decode cX4_tallySizes 51 = .ok (.iload 4, 2) := by decide +kernel
theorem dX4_tallySizes_53 : decode cX4_tallySizes 53 = .ok (.iadd, 1) := by decide +kernel
theorem dX4_tallySizes_54 : decode cX4_tallySizes 54 = .ok (.dup2, 1) := by decide +kernel
theorem dX4_tallySizes_55 : decode cX4_tallySizes 55 = .ok (.iaload, 1) := by decide +kernel
theorem dX4_tallySizes_56 : decode cX4_tallySizes 56 = .ok (.aload_n 0, 1) := by decide +kernel
theorem dX4_tallySizes_57 : decode cX4_tallySizes 57 = .ok (.getfield 11, 3) := by decide +kernel
theorem dX4_tallySizes_60 : decode cX4_tallySizes 60 = .ok (.iload_n 2, 1) := by decide +kernel
theorem dX4_tallySizes_61 : decode cX4_tallySizes 61 = .ok (.iaload, 1) := by decide +kernel
theorem dX4_tallySizes_62 : decode cX4_tallySizes 62 = .ok (.getstatic 97, 3) := by decide +kernel
theorem dX4_tallySizes_65 : decode cX4_tallySizes 65 = .ok (.iload 4, 2) := by decide +kernel
theorem dX4_tallySizes_67 : decode cX4_tallySizes 67 = .ok (.iaload, 1) := by decide +kernel
theorem dX4_tallySizes_68 : decode cX4_tallySizes 68 = .ok (.iand, 1) := by decide +kernel
theorem dX4_tallySizes_69 : decode cX4_tallySizes 69 = .ok (.invokestatic 92, 3) := by decide +kernel
theorem dX4_tallySizes_72 : decode cX4_tallySizes 72 = .ok (.iadd, 1) := by decide +kernel
theorem dX4_tallySizes_73 : decode cX4_tallySizes 73 = .ok (.iastore, 1) := by decide +kernel
theorem dX4_tallySizes_74 : decode cX4_tallySizes 74 = .ok (.iinc 4 1, 3) := by decide +kernel
theorem dX4_tallySizes_77 : decode cX4_tallySizes 77 = .ok (.goto (-49), 3) := by decide +kernel
theorem dX4_tallySizes_80 : decode cX4_tallySizes 80 = .ok (.iinc 2 1, 3) := by decide +kernel
theorem dX4_tallySizes_83 : decode cX4_tallySizes 83 = .ok (.goto (-68), 3) := by decide +kernel
theorem dX4_tallySizes_86 : decode cX4_tallySizes 86 = .ok (.return_, 1) := by decide +kernel
theorem dX4_isLucky_0 : decode cX4_isLucky 0 = .ok (.iload_n 1, 1) := by decide +kernel
theorem dX4_isLucky_1 : decode cX4_isLucky 1 = .ok (.iconst 5, 1) := by decide +kernel
theorem dX4_isLucky_2 : decode cX4_isLucky 2 = .ok (.iushr, 1) := by decide +kernel
theorem dX4_isLucky_3 : decode cX4_isLucky 3 = .ok (.istore_n 2, 1) := by decide +kernel
theorem dX4_isLucky_4 : decode cX4_isLucky 4 = .ok (.iload_n 2, 1) := by decide +kernel
theorem dX4_isLucky_5 : decode cX4_isLucky 5 = .ok (.sipush 512, 3) := by decide +kernel
theorem dX4_isLucky_8 : decode cX4_isLucky 8 = .ok (.if_icmp .ge 23, 3) := by decide +kernel
theorem dX4_isLucky_11 : decode cX4_isLucky 11 = .ok (.aload_n 0, 1) := by decide +kernel
theorem dX4_isLucky_12 : decode cX4_isLucky 12 = .ok (.getfield 11, 3) := by decide +kernel
theorem dX4_isLucky_15 : decode cX4_isLucky 15 = .ok (.iload_n 2, 1) := by decide +kernel
theorem dX4_isLucky_16 : decode cX4_isLucky 16 = .ok (.iaload, 1) := by decide +kernel
theorem dX4_isLucky_17 : decode cX4_isLucky 17 = .ok (.iload_n 1, 1) := by decide +kernel
theorem dX4_isLucky_18 : decode cX4_isLucky 18 = .ok (.bipush 31, 2) := by decide +kernel
theorem dX4_isLucky_20 : decode cX4_isLucky 20 = .ok (.iand, 1) := by decide +kernel
theorem dX4_isLucky_21 : decode cX4_isLucky 21 = .ok (.invokestatic 68, 3) := by decide +kernel
theorem dX4_isLucky_24 : decode cX4_isLucky 24 = .ok (.ifCond .eq 7, 3) := by decide +kernel
theorem dX4_isLucky_27 : decode cX4_isLucky 27 = .ok (.iconst 1, 1) := by decide +kernel
theorem dX4_isLucky_28 : decode cX4_isLucky 28 = .ok (.goto 4, 3) := by decide +kernel
theorem dX4_isLucky_31 : decode cX4_isLucky 31 = .ok (.iconst 0, 1) := by decide +kernel
theorem dX4_isLucky_32 : decode cX4_isLucky 32 = .ok (.ireturn, 1) := by decide +kernel
theorem dX4_all_0 : decode cX4_all 0 = .ok (.iconst 1, 1) := by decide +kernel
theorem dX4_all_1 : decode cX4_all 1 = .ok (.aload_n 0, 1) := by decide +kernel
theorem dX4_all_2 : decode cX4_all 2 = .ok (.getfield 35, 3) := by decide +kernel
theorem dX4_all_5 : decode cX4_all 5 = .ok (.ishl, 1) := by decide +kernel
theorem dX4_all_6 : decode cX4_all 6 = .ok (.iconst 1, 1) := by decide +kernel
theorem dX4_all_7 : decode cX4_all 7 = .ok (.isub, 1) := by decide +kernel
theorem dX4_all_8 : decode cX4_all 8 = .ok (.ireturn, 1) := by decide +kernel
theorem dX4_givesIt_0 : decode cX4_givesIt 0 = .ok (.iload_n 1, 1) := by decide +kernel
theorem dX4_givesIt_1 : decode cX4_givesIt 1 = .ok (.ifCond .ne 11, 3) := by decide +kernel
theorem dX4_givesIt_4 : decode cX4_givesIt 4 = .ok (.aload_n 0, 1) := by decide +kernel
theorem dX4_givesIt_5 : decode cX4_givesIt 5 = .ok (.iload_n 2, 1) := by decide +kernel
theorem dX4_givesIt_6 : decode cX4_givesIt 6 = .ok (.invokevirtual 100, 3) := by decide +kernel
theorem dX4_givesIt_9 : decode cX4_givesIt 9 = .ok (.goto 23, 3) := by decide +kernel
theorem dX4_givesIt_12 : decode cX4_givesIt 12 = .ok (.aload_n 0, 1) := by decide +kernel
theorem dX4_givesIt_13 : decode cX4_givesIt 13 = .ok (.aload_n 0, 1) := by decide +kernel
theorem dX4_givesIt_14 : decode cX4_givesIt 14 = .ok (.invokevirtual 103, 3) := by decide +kernel
theorem dX4_givesIt_17 : decode cX4_givesIt 17 = .ok (.iload_n 2, 1) := by decide +kernel
theorem dX4_givesIt_18 : decode cX4_givesIt 18 = .ok (.iconst (-1), 1) := by decide +kernel
theorem dX4_givesIt_19 : decode cX4_givesIt 19 = .ok (.ixor, 1) := by decide +kernel
theorem dX4_givesIt_20 : decode cX4_givesIt 20 = .ok (.iand, 1) := by decide +kernel
theorem dX4_givesIt_21 : decode cX4_givesIt 21 = .ok (.invokevirtual 100, 3) := by decide +kernel
theorem dX4_givesIt_24 : decode cX4_givesIt 24 = .ok (.ifCond .ne 7, 3) := by decide +kernel
theorem dX4_givesIt_27 : decode cX4_givesIt 27 = .ok (.iconst 1, 1) := by decide +kernel
theorem dX4_givesIt_28 : decode cX4_givesIt 28 = .ok (.goto 4, 3) := by decide +kernel
theorem dX4_givesIt_31 : decode cX4_givesIt 31 = .ok (.iconst 0, 1) := by decide +kernel
theorem dX4_givesIt_32 : decode cX4_givesIt 32 = .ok (.ireturn, 1) := by decide +kernel
theorem dX4_sized_0 : decode cX4_sized 0 = .ok (.iload_n 2, 1) := by decide +kernel
theorem dX4_sized_1 : decode cX4_sized 1 = .ok (.ifCond .lt 20, 3) := by decide +kernel
theorem dX4_sized_4 : decode cX4_sized 4 = .ok (.iload_n 2, 1) := by decide +kernel
theorem dX4_sized_5 : decode cX4_sized 5 = .ok (.aload_n 0, 1) := by decide +kernel
theorem dX4_sized_6 : decode cX4_sized 6 = .ok (.getfield 35, 3) := by decide +kernel
theorem dX4_sized_9 : decode cX4_sized 9 = .ok (.if_icmp .gt 12, 3) := by decide +kernel
theorem dX4_sized_12 : decode cX4_sized 12 = .ok (.aload_n 0, 1) := by decide +kernel
theorem dX4_sized_13 : decode cX4_sized 13 = .ok (.getfield 35, 3) := by decide +kernel
theorem dX4_sized_16 : decode cX4_sized 16 = .ok (.bipush 14, 2) := by decide +kernel
theorem dX4_sized_18 : decode cX4_sized 18 = .ok (.if_icmp .le 5, 3) := by decide +kernel
theorem dX4_sized_21 : decode cX4_sized 21 = .ok (.iconst 0, 1) := by decide +kernel
theorem dX4_sized_22 : decode cX4_sized 22 = .ok (.ireturn, 1) := by decide +kernel
theorem dX4_sized_23 : decode cX4_sized 23 = .ok (.iload_n 1, 1) := by decide +kernel
theorem dX4_sized_24 : decode cX4_sized 24 = .ok (.ifCond .ne 12, 3) := by decide +kernel
theorem dX4_sized_27 : decode cX4_sized 27 = .ok (.aload_n 0, 1) := by decide +kernel
theorem dX4_sized_28 : decode cX4_sized 28 = .ok (.getfield 15, 3) := by decide +kernel
theorem dX4_sized_31 : decode cX4_sized 31 = .ok (.iload_n 2, 1) := by decide +kernel
theorem dX4_sized_32 : decode cX4_sized 32 = .ok (.iaload, 1) := by decide +kernel
theorem dX4_sized_33 : decode cX4_sized 33 = .ok (.goto 23, 3) := by decide +kernel
theorem dX4_sized_36 : decode cX4_sized 36 = .ok (.aload_n 0, 1) := by decide +kernel
theorem dX4_sized_37 : decode cX4_sized 37 = .ok (.getfield 35, 3) := by decide +kernel
theorem dX4_sized_40 : decode cX4_sized 40 = .ok (.iload_n 2, 1) := by decide +kernel
theorem dX4_sized_41 : decode cX4_sized 41 = .ok (.invokestatic 106, 3) := by decide +kernel
theorem dX4_sized_44 : decode cX4_sized 44 = .ok (.aload_n 0, 1) := by decide +kernel
theorem dX4_sized_45 : decode cX4_sized 45 = .ok (.getfield 15, 3) := by decide +kernel
theorem dX4_sized_48 : decode cX4_sized 48 = .ok (.aload_n 0, 1) := by decide +kernel
theorem dX4_sized_49 : decode cX4_sized 49 = .ok (.getfield 35, 3) := by decide +kernel
theorem dX4_sized_52 : decode cX4_sized 52 = .ok (.iload_n 2, 1) := by decide +kernel
theorem dX4_sized_53 : decode cX4_sized 53 = .ok (.isub, 1) := by decide +kernel
theorem dX4_sized_54 : decode cX4_sized 54 = .ok (.iaload, 1) := by decide +kernel
theorem dX4_sized_55 : decode cX4_sized 55 = .ok (.isub, 1) := by decide +kernel
theorem dX4_sized_56 : decode cX4_sized 56 = .ok (.ireturn, 1) := by decide +kernel
theorem dX4_total_0 : decode cX4_total 0 = .ok (.iconst 0, 1) := by decide +kernel
theorem dX4_total_1 : decode cX4_total 1 = .ok (.istore_n 2, 1) := by decide +kernel
theorem dX4_total_2 : decode cX4_total 2 = .ok (.iconst 0, 1) := by decide +kernel
theorem dX4_total_3 : decode cX4_total 3 = .ok (.istore_n 3, 1) := by decide +kernel
theorem dX4_total_4 : decode cX4_total 4 = .ok (.iload_n 3, 1) := by decide +kernel
theorem dX4_total_5 : decode cX4_total 5 = .ok (.aload_n 0, 1) := by decide +kernel
theorem dX4_total_6 : decode cX4_total 6 = .ok (.getfield 35, 3) := by decide +kernel
theorem dX4_total_9 : decode cX4_total 9 = .ok (.if_icmp .gt 18, 3) := by decide +kernel
theorem dX4_total_12 : decode cX4_total 12 = .ok (.iload_n 2, 1) := by decide +kernel
theorem dX4_total_13 : decode cX4_total 13 = .ok (.aload_n 0, 1) := by decide +kernel
theorem dX4_total_14 : decode cX4_total 14 = .ok (.iload_n 1, 1) := by decide +kernel
theorem dX4_total_15 : decode cX4_total 15 = .ok (.iload_n 3, 1) := by decide +kernel
theorem dX4_total_16 : decode cX4_total 16 = .ok (.invokevirtual 109, 3) := by decide +kernel
theorem dX4_total_19 : decode cX4_total 19 = .ok (.iadd, 1) := by decide +kernel
theorem dX4_total_20 : decode cX4_total 20 = .ok (.istore_n 2, 1) := by decide +kernel
theorem dX4_total_21 : decode cX4_total 21 = .ok (.iinc 3 1, 3) := by decide +kernel
theorem dX4_total_24 : decode cX4_total 24 = .ok (.goto (-20), 3) := by decide +kernel
theorem dX4_total_27 : decode cX4_total 27 = .ok (.iload_n 2, 1) := by decide +kernel
theorem dX4_total_28 : decode cX4_total 28 = .ok (.ireturn, 1) := by decide +kernel
theorem dX4_ways_0 : decode cX4_ways 0 = .ok (.iconst 1, 1) := by decide +kernel
theorem dX4_ways_1 : decode cX4_ways 1 = .ok (.istore_n 2, 1) := by decide +kernel
theorem dX4_ways_2 : decode cX4_ways 2 = .ok (.iconst 0, 1) := by decide +kernel
theorem dX4_ways_3 : decode cX4_ways 3 = .ok (.istore_n 3, 1) := by decide +kernel
theorem dX4_ways_4 : decode cX4_ways 4 = .ok (.iload_n 3, 1) := by decide +kernel
theorem dX4_ways_5 : decode cX4_ways 5 = .ok (.iload_n 1, 1) := by decide +kernel
theorem dX4_ways_6 : decode cX4_ways 6 = .ok (.if_icmp .ge 19, 3) := by decide +kernel
theorem dX4_ways_9 : decode cX4_ways 9 = .ok (.iload_n 2, 1) := by decide +kernel
theorem dX4_ways_10 : decode cX4_ways 10 = .ok (.iload_n 0, 1) := by decide +kernel
theorem dX4_ways_11 : decode cX4_ways 11 = .ok (.iload_n 3, 1) := by decide +kernel
theorem dX4_ways_12 : decode cX4_ways 12 = .ok (.isub, 1) := by decide +kernel
theorem dX4_ways_13 : decode cX4_ways 13 = .ok (.imul, 1) := by decide +kernel
theorem dX4_ways_14 : decode cX4_ways 14 = .ok (.iload_n 3, 1) := by decide +kernel
theorem dX4_ways_15 : decode cX4_ways 15 = .ok (.iconst 1, 1) := by decide +kernel
theorem dX4_ways_16 : decode cX4_ways 16 = .ok (.iadd, 1) := by decide +kernel
theorem dX4_ways_17 : decode cX4_ways 17 = .ok (.idiv, 1) := by decide +kernel
theorem dX4_ways_18 : decode cX4_ways 18 = .ok (.istore_n 2, 1) := by decide +kernel
theorem dX4_ways_19 : decode cX4_ways 19 = .ok (.iinc 3 1, 3) := by decide +kernel
theorem dX4_ways_22 : decode cX4_ways 22 = .ok (.goto (-18), 3) := by decide +kernel
theorem dX4_ways_25 : decode cX4_ways 25 = .ok (.iload_n 2, 1) := by decide +kernel
theorem dX4_ways_26 : decode cX4_ways 26 = .ok (.ireturn, 1) := by decide +kernel
theorem dX4_positionsOf_0 : decode cX4_positionsOf 0 = .ok (.iconst 0, 1) := by decide +kernel
theorem dX4_positionsOf_1 : decode cX4_positionsOf 1 = .ok (.istore_n 2, 1) := by decide +kernel
theorem dX4_positionsOf_2 : decode cX4_positionsOf 2 = .ok (.iconst 0, 1) := by decide +kernel
theorem dX4_positionsOf_3 : decode cX4_positionsOf 3 = .ok (.istore_n 3, 1) := by decide +kernel
theorem dX4_positionsOf_4 : decode cX4_positionsOf 4 = .ok (.iload_n 3, 1) := by decide +kernel
theorem dX4_positionsOf_5 : decode cX4_positionsOf 5 = .ok (.aload_n 0, 1) := by decide +kernel
theorem dX4_positionsOf_6 : decode cX4_positionsOf 6 = .ok (.getfield 35, 3) := by decide +kernel
theorem dX4_positionsOf_9 : decode cX4_positionsOf 9 = .ok (.if_icmp .gt 25, 3) := by decide +kernel
theorem dX4_positionsOf_12 : decode cX4_positionsOf 12 = .ok (.iload_n 2, 1) := by decide +kernel
theorem dX4_positionsOf_13 : decode cX4_positionsOf 13 = .ok (.aload_n 0, 1) := by decide +kernel
theorem dX4_positionsOf_14 : decode cX4_positionsOf 14 = .ok (.iload_n 1, 1) := by decide +kernel
theorem dX4_positionsOf_15 : decode cX4_positionsOf 15 = .ok (.iload_n 3, 1) := by decide +kernel
theorem dX4_positionsOf_16 : decode cX4_positionsOf 16 = .ok (.invokevirtual 109, 3) := by decide +kernel
theorem dX4_positionsOf_19 : decode cX4_positionsOf 19 = .ok (.aload_n 0, 1) := by decide +kernel
theorem dX4_positionsOf_20 : decode cX4_positionsOf 20 = .ok (.getfield 35, 3) := by decide +kernel
theorem dX4_positionsOf_23 : decode cX4_positionsOf 23 = .ok (.iload_n 3, 1) := by decide +kernel
theorem dX4_positionsOf_24 : decode cX4_positionsOf 24 = .ok (.isub, 1) := by decide +kernel
theorem dX4_positionsOf_25 : decode cX4_positionsOf 25 = .ok (.ishl, 1) := by decide +kernel
theorem dX4_positionsOf_26 : decode cX4_positionsOf 26 = .ok (.iadd, 1) := by decide +kernel
theorem dX4_positionsOf_27 : decode cX4_positionsOf 27 = .ok (.istore_n 2, 1) := by decide +kernel
theorem dX4_positionsOf_28 : decode cX4_positionsOf 28 = .ok (.iinc 3 1, 3) := by decide +kernel
theorem dX4_positionsOf_31 : decode cX4_positionsOf 31 = .ok (.goto (-27), 3) := by decide +kernel
theorem dX4_positionsOf_34 : decode cX4_positionsOf 34 = .ok (.iload_n 2, 1) := by decide +kernel
theorem dX4_positionsOf_35 : decode cX4_positionsOf 35 = .ok (.ireturn, 1) := by decide +kernel
theorem dX4_positionsOfNobody_0 : decode cX4_positionsOfNobody 0 = .ok (.aload_n 0, 1) := by decide +kernel
theorem dX4_positionsOfNobody_1 : decode cX4_positionsOfNobody 1 = .ok (.invokevirtual 112, 3) := by decide +kernel
theorem dX4_positionsOfNobody_4 : decode cX4_positionsOfNobody 4 = .ok (.aload_n 0, 1) := by decide +kernel
theorem dX4_positionsOfNobody_5 : decode cX4_positionsOfNobody 5 = .ok (.iconst 0, 1) := by decide +kernel
theorem dX4_positionsOfNobody_6 : decode cX4_positionsOfNobody 6 = .ok (.invokevirtual 115, 3) := by decide +kernel
theorem dX4_positionsOfNobody_9 : decode cX4_positionsOfNobody 9 = .ok (.isub, 1) := by decide +kernel
theorem dX4_positionsOfNobody_10 : decode cX4_positionsOfNobody 10 = .ok (.aload_n 0, 1) := by decide +kernel
theorem dX4_positionsOfNobody_11 : decode cX4_positionsOfNobody 11 = .ok (.iconst 1, 1) := by decide +kernel
theorem dX4_positionsOfNobody_12 : decode cX4_positionsOfNobody 12 = .ok (.invokevirtual 115, 3) := by decide +kernel
theorem dX4_positionsOfNobody_15 : decode cX4_positionsOfNobody 15 = .ok (.isub, 1) := by decide +kernel
theorem dX4_positionsOfNobody_16 : decode cX4_positionsOfNobody 16 = .ok (.ireturn, 1) := by decide +kernel
theorem dX4_allPositions_0 : decode cX4_allPositions 0 = .ok (.iconst 1, 1) := by decide +kernel
theorem dX4_allPositions_1 : decode cX4_allPositions 1 = .ok (.istore_n 1, 1) := by decide +kernel
theorem dX4_allPositions_2 : decode cX4_allPositions 2 = .ok (.iconst 0, 1) := by decide +kernel
theorem dX4_allPositions_3 : decode cX4_allPositions 3 = .ok (.istore_n 2, 1) := by decide +kernel
theorem dX4_allPositions_4 : decode cX4_allPositions 4 = .ok (.iload_n 2, 1) := by decide +kernel
theorem dX4_allPositions_5 : decode cX4_allPositions 5 = .ok (.aload_n 0, 1) := by decide +kernel
theorem dX4_allPositions_6 : decode cX4_allPositions 6 = .ok (.getfield 35, 3) := by decide +kernel
theorem dX4_allPositions_9 : decode cX4_allPositions 9 = .ok (.if_icmp .ge 13, 3) := by decide +kernel
theorem dX4_allPositions_12 : decode cX4_allPositions 12 = .ok (.iload_n 1, 1) := by decide +kernel
theorem dX4_allPositions_13 : decode cX4_allPositions 13 = .ok (.iconst 3, 1) := by decide +kernel
theorem dX4_allPositions_14 : decode cX4_allPositions 14 = .ok (.imul, 1) := by decide +kernel
theorem dX4_allPositions_15 : decode cX4_allPositions 15 = .ok (.istore_n 1, 1) := by decide +kernel
theorem dX4_allPositions_16 : decode cX4_allPositions 16 = .ok (.iinc 2 1, 3) := by decide +kernel
theorem dX4_allPositions_19 : decode cX4_allPositions 19 = .ok (.goto (-15), 3) := by decide +kernel
theorem dX4_allPositions_22 : decode cX4_allPositions 22 = .ok (.iload_n 1, 1) := by decide +kernel
theorem dX4_allPositions_23 : decode cX4_allPositions 23 = .ok (.ireturn, 1) := by decide +kernel
theorem dX4_least_0 : decode cX4_least 0 = .ok (.iconst 0, 1) := by decide +kernel
theorem dX4_least_1 : decode cX4_least 1 = .ok (.istore_n 2, 1) := by decide +kernel
theorem dX4_least_2 : decode cX4_least 2 = .ok (.iload_n 2, 1) := by decide +kernel
theorem dX4_least_3 : decode cX4_least 3 = .ok (.aload_n 0, 1) := by decide +kernel
theorem dX4_least_4 : decode cX4_least 4 = .ok (.getfield 35, 3) := by decide +kernel
theorem dX4_least_7 : decode cX4_least 7 = .ok (.if_icmp .gt 25, 3) := by decide +kernel
theorem dX4_least_10 : decode cX4_least 10 = .ok (.aload_n 0, 1) := by decide +kernel
theorem dX4_least_11 : decode cX4_least 11 = .ok (.iload_n 1, 1) := by decide +kernel
theorem dX4_least_12 : decode cX4_least 12 = .ok (.iload_n 2, 1) := by decide +kernel
theorem dX4_least_13 : decode cX4_least 13 = .ok (.invokevirtual 109, 3) := by decide +kernel
theorem dX4_least_16 : decode cX4_least 16 = .ok (.ifCond .le 10, 3) := by decide +kernel
theorem dX4_least_19 : decode cX4_least 19 = .ok (.aload_n 0, 1) := by decide +kernel
theorem dX4_least_20 : decode cX4_least 20 = .ok (.iload_n 1, 1) := by decide +kernel
theorem dX4_least_21 : decode cX4_least 21 = .ok (.iload_n 2, 1) := by decide +kernel
theorem dX4_least_22 : decode cX4_least 22 = .ok (.invokevirtual 118, 3) := by decide +kernel
theorem dX4_least_25 : decode cX4_least 25 = .ok (.ireturn, 1) := by decide +kernel
theorem dX4_least_26 : decode cX4_least 26 = .ok (.iinc 2 1, 3) := by decide +kernel
theorem dX4_least_29 : decode cX4_least 29 = .ok (.goto (-27), 3) := by decide +kernel
theorem dX4_least_32 : decode cX4_least 32 = .ok (.iconst 0, 1) := by decide +kernel
theorem dX4_least_33 : decode cX4_least 33 = .ok (.ireturn, 1) := by decide +kernel
theorem dX4_leastOf_0 : decode cX4_leastOf 0 = .ok (.iconst 1, 1) := by decide +kernel
theorem dX4_leastOf_1 : decode cX4_leastOf 1 = .ok (.aload_n 0, 1) := by decide +kernel
theorem dX4_leastOf_2 : decode cX4_leastOf 2 = .ok (.getfield 35, 3) := by decide +kernel
theorem dX4_leastOf_5 : decode cX4_leastOf 5 = .ok (.ishl, 1) := by decide +kernel
theorem dX4_leastOf_6 : decode cX4_leastOf 6 = .ok (.istore_n 3, 1) := by decide +kernel
theorem dX4_leastOf_7 : decode cX4_leastOf 7 = .ok (.iconst 0, 1) := by decide +kernel
theorem dX4_leastOf_8 : decode cX4_leastOf 8 = .ok (.istore 4, 2) := by decide +kernel
theorem dX4_leastOf_10 : decode cX4_leastOf 10 = .ok (.iload 4, 2) := by decide +kernel
theorem dX4_leastOf_12 : decode cX4_leastOf 12 = .ok (.iload_n 3, 1) := by decide +kernel
theorem dX4_leastOf_13 : decode cX4_leastOf 13 = .ok (.if_icmp .ge 35, 3) := by decide +kernel
theorem dX4_leastOf_16 : decode cX4_leastOf 16 = .ok (.iload 4, 2) := by decide +kernel
theorem dX4_leastOf_18 : decode cX4_leastOf 18 = .ok (.invokestatic 92, 3) := by decide +kernel
theorem dX4_leastOf_21 : decode cX4_leastOf 21 = .ok (.iload_n 2, 1) := by decide +kernel
theorem dX4_leastOf_22 : decode cX4_leastOf 22 = .ok (.if_icmp .ne 20, 3) := by decide +kernel
theorem dX4_leastOf_25 : decode cX4_leastOf 25 = .ok (.aload_n 0, 1) := by decide +kernel
theorem dX4_leastOf_26 : decode cX4_leastOf 26 = .ok (.iload_n 1, 1) := by decide +kernel
theorem dX4_leastOf_27 : decode cX4_leastOf 27 = .ok (.iload 4, 2) := by decide +kernel
theorem dX4_leastOf_29 : decode cX4_leastOf 29 = .ok (.invokevirtual 121, 3) := by decide +kernel
theorem dX4_leastOf_32 : decode cX4_leastOf 32 = .ok (.ifCond .eq 10, 3) := by decide +kernel
theorem dX4_leastOf_35 : decode cX4_leastOf 35 = .ok (.aload_n 0, 1) := by decide +kernel
theorem dX4_leastOf_36 : decode cX4_leastOf 36 = .ok (.iload 4, 2) := by decide +kernel
theorem dX4_leastOf_38 : decode cX4_leastOf 38 = .ok (.invokevirtual 124, 3) := by decide +kernel
theorem dX4_leastOf_41 : decode cX4_leastOf 41 = .ok (.ireturn, 1) := by decide +kernel
theorem dX4_leastOf_42 : decode cX4_leastOf 42 = .ok (.iinc 4 1, 3) := by decide +kernel
theorem dX4_leastOf_45 : decode cX4_leastOf 45 = .ok (.goto (-35), 3) := by decide +kernel
theorem dX4_leastOf_48 : decode cX4_leastOf 48 = .ok (.iconst 0, 1) := by decide +kernel
theorem dX4_leastOf_49 : decode cX4_leastOf 49 = .ok (.ireturn, 1) := by decide +kernel
theorem dX4_linesOf_0 : decode cX4_linesOf 0 = .ok (.iconst 0, 1) := by decide +kernel
theorem dX4_linesOf_1 : decode cX4_linesOf 1 = .ok (.istore_n 2, 1) := by decide +kernel
theorem dX4_linesOf_2 : decode cX4_linesOf 2 = .ok (.iconst 0, 1) := by decide +kernel
theorem dX4_linesOf_3 : decode cX4_linesOf 3 = .ok (.istore_n 3, 1) := by decide +kernel
theorem dX4_linesOf_4 : decode cX4_linesOf 4 = .ok (.iload_n 3, 1) := by decide +kernel
theorem dX4_linesOf_5 : decode cX4_linesOf 5 = .ok (.aload_n 0, 1) := by decide +kernel
theorem dX4_linesOf_6 : decode cX4_linesOf 6 = .ok (.getfield 35, 3) := by decide +kernel
theorem dX4_linesOf_9 : decode cX4_linesOf 9 = .ok (.if_icmp .ge 34, 3) := by decide +kernel
theorem dX4_linesOf_12 : decode cX4_linesOf 12 = .ok (.iload_n 3, 1) := by decide +kernel
theorem dX4_linesOf_13 : decode cX4_linesOf 13 = .ok (.bipush 14, 2) := by decide +kernel
theorem dX4_linesOf_15 : decode cX4_linesOf 15 = .ok (.if_icmp .ge 28, 3) := by decide +kernel
theorem dX4_linesOf_18 : decode cX4_linesOf 18 = .ok (.iload_n 1, 1) := by decide +kernel
theorem dX4_linesOf_19 : decode cX4_linesOf 19 = .ok (.iload_n 3, 1) := by decide +kernel
theorem dX4_linesOf_20 : decode cX4_linesOf 20 = .ok (.invokestatic 68, 3) := by decide +kernel
theorem dX4_linesOf_23 : decode cX4_linesOf 23 = .ok (.ifCond .eq 14, 3) := by decide +kernel
theorem dX4_linesOf_26 : decode cX4_linesOf 26 = .ok (.iload_n 2, 1) := by decide +kernel
theorem dX4_linesOf_27 : decode cX4_linesOf 27 = .ok (.iconst 1, 1) := by decide +kernel
theorem dX4_linesOf_28 : decode cX4_linesOf 28 = .ok (.aload_n 0, 1) := by decide +kernel
theorem dX4_linesOf_29 : decode cX4_linesOf 29 = .ok (.getfield 18, 3) := by decide +kernel
theorem dX4_linesOf_32 : decode cX4_linesOf 32 = .ok (.iload_n 3, 1) := by decide +kernel
theorem dX4_linesOf_33 : decode cX4_linesOf 33 = .ok (.iaload, 1) := by decide +kernel
theorem dX4_linesOf_34 : decode cX4_linesOf 34 = .ok (.ishl, 1) := by decide +kernel
theorem dX4_linesOf_35 : decode cX4_linesOf 35 = .ok (.ior, 1) := by decide +kernel
theorem dX4_linesOf_36 : decode cX4_linesOf 36 = .ok (.istore_n 2, 1) := by decide +kernel
theorem dX4_linesOf_37 : decode cX4_linesOf 37 = .ok (.iinc 3 1, 3) := by decide +kernel
theorem dX4_linesOf_40 : decode cX4_linesOf 40 = .ok (.goto (-36), 3) := by decide +kernel
theorem dX4_linesOf_43 : decode cX4_linesOf 43 = .ok (.iload_n 2, 1) := by decide +kernel
theorem dX4_linesOf_44 : decode cX4_linesOf 44 = .ok (.ireturn, 1) := by decide +kernel
theorem dX4_bitOf_0 : decode cX4_bitOf 0 = .ok (.iconst 0, 1) := by decide +kernel
theorem dX4_bitOf_1 : decode cX4_bitOf 1 = .ok (.istore_n 2, 1) := by decide +kernel
theorem dX4_bitOf_2 : decode cX4_bitOf 2 = .ok (.iconst 0, 1) := by decide +kernel
theorem dX4_bitOf_3 : decode cX4_bitOf 3 = .ok (.istore_n 3, 1) := by decide +kernel
theorem dX4_bitOf_4 : decode cX4_bitOf 4 = .ok (.iload_n 3, 1) := by decide +kernel
theorem dX4_bitOf_5 : decode cX4_bitOf 5 = .ok (.aload_n 0, 1) := by decide +kernel
theorem dX4_bitOf_6 : decode cX4_bitOf 6 = .ok (.getfield 35, 3) := by decide +kernel
theorem dX4_bitOf_9 : decode cX4_bitOf 9 = .ok (.if_icmp .ge 29, 3) := by decide +kernel
theorem dX4_bitOf_12 : decode cX4_bitOf 12 = .ok (.iload_n 3, 1) := by decide +kernel
theorem dX4_bitOf_13 : decode cX4_bitOf 13 = .ok (.bipush 14, 2) := by decide +kernel
theorem dX4_bitOf_15 : decode cX4_bitOf 15 = .ok (.if_icmp .ge 23, 3) := by decide +kernel
theorem dX4_bitOf_18 : decode cX4_bitOf 18 = .ok (.aload_n 0, 1) := by decide +kernel
theorem dX4_bitOf_19 : decode cX4_bitOf 19 = .ok (.getfield 18, 3) := by decide +kernel
theorem dX4_bitOf_22 : decode cX4_bitOf 22 = .ok (.iload_n 3, 1) := by decide +kernel
theorem dX4_bitOf_23 : decode cX4_bitOf 23 = .ok (.iaload, 1) := by decide +kernel
theorem dX4_bitOf_24 : decode cX4_bitOf 24 = .ok (.iload_n 1, 1) := by decide +kernel
theorem dX4_bitOf_25 : decode cX4_bitOf 25 = .ok (.if_icmp .ne 7, 3) := by decide +kernel
theorem dX4_bitOf_28 : decode cX4_bitOf 28 = .ok (.iconst 1, 1) := by decide +kernel
theorem dX4_bitOf_29 : decode cX4_bitOf 29 = .ok (.iload_n 3, 1) := by decide +kernel
theorem dX4_bitOf_30 : decode cX4_bitOf 30 = .ok (.ishl, 1) := by decide +kernel
theorem dX4_bitOf_31 : decode cX4_bitOf 31 = .ok (.istore_n 2, 1) := by decide +kernel
theorem dX4_bitOf_32 : decode cX4_bitOf 32 = .ok (.iinc 3 1, 3) := by decide +kernel
theorem dX4_bitOf_35 : decode cX4_bitOf 35 = .ok (.goto (-31), 3) := by decide +kernel
theorem dX4_bitOf_38 : decode cX4_bitOf 38 = .ok (.iload_n 2, 1) := by decide +kernel
theorem dX4_bitOf_39 : decode cX4_bitOf 39 = .ok (.ireturn, 1) := by decide +kernel
theorem dX4_having_0 : decode cX4_having 0 = .ok (.aload_n 0, 1) := by decide +kernel
theorem dX4_having_1 : decode cX4_having 1 = .ok (.iload_n 1, 1) := by decide +kernel
theorem dX4_having_2 : decode cX4_having 2 = .ok (.invokevirtual 127, 3) := by decide +kernel
theorem dX4_having_5 : decode cX4_having 5 = .ok (.istore_n 2, 1) := by decide +kernel
theorem dX4_having_6 : decode cX4_having 6 = .ok (.iconst 0, 1) := by decide +kernel
theorem dX4_having_7 : decode cX4_having 7 = .ok (.istore_n 3, 1) := by decide +kernel
theorem dX4_having_8 : decode cX4_having 8 = .ok (.aload_n 0, 1) := by decide +kernel
theorem dX4_having_9 : decode cX4_having 9 = .ok (.invokevirtual 88, 3) := by decide +kernel
theorem dX4_having_12 : decode cX4_having 12 = .ok (.istore 4, 2) := by decide +kernel
theorem dX4_having_14 : decode cX4_having 14 = .ok (.iconst 0, 1) := by decide +kernel
theorem dX4_having_15 : decode cX4_having 15 = .ok (.istore 5, 2) := by decide +kernel
theorem dX4_having_17 : decode cX4_having 17 = .ok (.iload 5, 2) := by decide +kernel
theorem dX4_having_19 : decode cX4_having 19 = .ok (.iload 4, 2) := by decide +kernel
theorem dX4_having_21 : decode cX4_having 21 = .ok (.if_icmp .ge 29, 3) := by decide +kernel
theorem dX4_having_24 : decode cX4_having 24 = .ok (.iload_n 3, 1) := by decide +kernel
theorem dX4_having_25 : decode cX4_having 25 = .ok (.aload_n 0, 1) := by decide +kernel
theorem dX4_having_26 : decode cX4_having 26 = .ok (.getfield 11, 3) := by decide +kernel
theorem dX4_having_29 : decode cX4_having 29 = .ok (.iload 5, 2) := by decide +kernel
theorem dX4_having_31 : decode cX4_having 31 = .ok (.iaload, 1) := by decide +kernel
theorem dX4_having_32 : decode cX4_having 32 = .ok (.iload_n 2, 1) := by decide +kernel
theorem dX4_having_33 : decode cX4_having 33 = .ok (.iload 5, 2) := by decide +kernel
theorem dX4_having_35 : decode cX4_having 35 = .ok (.invokestatic 130, 3) := by decide +kernel
theorem dX4_having_38 : decode cX4_having 38 = .ok (.iand, 1) := by decide +kernel
theorem dX4_having_39 : decode cX4_having 39 = .ok (.invokestatic 92, 3) := by decide +kernel
theorem dX4_having_42 : decode cX4_having 42 = .ok (.iadd, 1) := by decide +kernel
theorem dX4_having_43 : decode cX4_having 43 = .ok (.istore_n 3, 1) := by decide +kernel
theorem dX4_having_44 : decode cX4_having 44 = .ok (.iinc 5 1, 3) := by decide +kernel
theorem dX4_having_47 : decode cX4_having 47 = .ok (.goto (-30), 3) := by decide +kernel
theorem dX4_having_50 : decode cX4_having 50 = .ok (.iload_n 3, 1) := by decide +kernel
theorem dX4_having_51 : decode cX4_having 51 = .ok (.ireturn, 1) := by decide +kernel
theorem dX4_withBit_0 : decode cX4_withBit 0 = .ok (.iload_n 0, 1) := by decide +kernel
theorem dX4_withBit_1 : decode cX4_withBit 1 = .ok (.lookupswitch 66 #[(1, 51), (2, 54), (4, 57), (8, 60), (16, 63)], 51) := by decide +kernel
theorem dX4_withBit_52 : decode cX4_withBit 52 = .ok (.ldc 133, 2) := by decide +kernel
theorem dX4_withBit_54 : decode cX4_withBit 54 = .ok (.ireturn, 1) := by decide +kernel
theorem dX4_withBit_55 : decode cX4_withBit 55 = .ok (.ldc 134, 2) := by decide +kernel
theorem dX4_withBit_57 : decode cX4_withBit 57 = .ok (.ireturn, 1) := by decide +kernel
theorem dX4_withBit_58 : decode cX4_withBit 58 = .ok (.ldc 135, 2) := by decide +kernel
theorem dX4_withBit_60 : decode cX4_withBit 60 = .ok (.ireturn, 1) := by decide +kernel
theorem dX4_withBit_61 : decode cX4_withBit 61 = .ok (.ldc 136, 2) := by decide +kernel
theorem dX4_withBit_63 : decode cX4_withBit 63 = .ok (.ireturn, 1) := by decide +kernel
theorem dX4_withBit_64 : decode cX4_withBit 64 = .ok (.ldc 137, 2) := by decide +kernel
theorem dX4_withBit_66 : decode cX4_withBit 66 = .ok (.ireturn, 1) := by decide +kernel
theorem dX4_withBit_67 : decode cX4_withBit 67 = .ok (.iload_n 1, 1) := by decide +kernel
theorem dX4_withBit_68 : decode cX4_withBit 68 = .ok (.iconst 5, 1) := by decide +kernel
theorem dX4_withBit_69 : decode cX4_withBit 69 = .ok (.ishl, 1) := by decide +kernel
theorem dX4_withBit_70 : decode cX4_withBit 70 = .ok (.iload_n 0, 1) := by decide +kernel
theorem dX4_withBit_71 : decode cX4_withBit 71 = .ok (.iand, 1) := by decide +kernel
theorem dX4_withBit_72 : decode cX4_withBit 72 = .ok (.ifCond .eq 7, 3) := by decide +kernel
theorem dX4_withBit_75 : decode cX4_withBit 75 = .ok (.iconst (-1), 1) := by decide +kernel
theorem dX4_withBit_76 : decode cX4_withBit 76 = .ok (.goto 4, 3) := by decide +kernel
theorem dX4_withBit_79 : decode cX4_withBit 79 = .ok (.iconst 0, 1) := by decide +kernel
theorem dX4_withBit_80 : decode cX4_withBit 80 = .ok (.ireturn, 1) := by decide +kernel
theorem dX4_turnedBy_0 : decode cX4_turnedBy 0 = .ok (.iconst 2, 1) := by decide +kernel
theorem dX4_turnedBy_1 : decode cX4_turnedBy 1 = .ok (.aload_n 0, 1) := by decide +kernel
theorem dX4_turnedBy_2 : decode cX4_turnedBy 2 = .ok (.iload_n 1, 1) := by decide +kernel
theorem dX4_turnedBy_3 : decode cX4_turnedBy 3 = .ok (.invokevirtual 138, 3) := by decide +kernel
theorem dX4_turnedBy_6 : decode cX4_turnedBy 6 = .ok (.imul, 1) := by decide +kernel
theorem dX4_turnedBy_7 : decode cX4_turnedBy 7 = .ok (.aload_n 0, 1) := by decide +kernel
theorem dX4_turnedBy_8 : decode cX4_turnedBy 8 = .ok (.iconst 0, 1) := by decide +kernel
theorem dX4_turnedBy_9 : decode cX4_turnedBy 9 = .ok (.invokevirtual 141, 3) := by decide +kernel
theorem dX4_turnedBy_12 : decode cX4_turnedBy 12 = .ok (.isub, 1) := by decide +kernel
theorem dX4_turnedBy_13 : decode cX4_turnedBy 13 = .ok (.ireturn, 1) := by decide +kernel
theorem dX4_inAll_0 : decode cX4_inAll 0 = .ok (.iconst 0, 1) := by decide +kernel
theorem dX4_inAll_1 : decode cX4_inAll 1 = .ok (.istore_n 1, 1) := by decide +kernel
theorem dX4_inAll_2 : decode cX4_inAll 2 = .ok (.iconst 0, 1) := by decide +kernel
theorem dX4_inAll_3 : decode cX4_inAll 3 = .ok (.istore_n 2, 1) := by decide +kernel
theorem dX4_inAll_4 : decode cX4_inAll 4 = .ok (.iload_n 2, 1) := by decide +kernel
theorem dX4_inAll_5 : decode cX4_inAll 5 = .ok (.aload_n 0, 1) := by decide +kernel
theorem dX4_inAll_6 : decode cX4_inAll 6 = .ok (.getfield 35, 3) := by decide +kernel
theorem dX4_inAll_9 : decode cX4_inAll 9 = .ok (.if_icmp .ge 43, 3) := by decide +kernel
theorem dX4_inAll_12 : decode cX4_inAll 12 = .ok (.aload_n 0, 1) := by decide +kernel
theorem dX4_inAll_13 : decode cX4_inAll 13 = .ok (.aload_n 0, 1) := by decide +kernel
theorem dX4_inAll_14 : decode cX4_inAll 14 = .ok (.invokevirtual 103, 3) := by decide +kernel
theorem dX4_inAll_17 : decode cX4_inAll 17 = .ok (.invokevirtual 100, 3) := by decide +kernel
theorem dX4_inAll_20 : decode cX4_inAll 20 = .ok (.ifCond .eq 26, 3) := by decide +kernel
theorem dX4_inAll_23 : decode cX4_inAll 23 = .ok (.aload_n 0, 1) := by decide +kernel
theorem dX4_inAll_24 : decode cX4_inAll 24 = .ok (.aload_n 0, 1) := by decide +kernel
theorem dX4_inAll_25 : decode cX4_inAll 25 = .ok (.invokevirtual 103, 3) := by decide +kernel
theorem dX4_inAll_28 : decode cX4_inAll 28 = .ok (.iconst 1, 1) := by decide +kernel
theorem dX4_inAll_29 : decode cX4_inAll 29 = .ok (.iload_n 2, 1) := by decide +kernel
theorem dX4_inAll_30 : decode cX4_inAll 30 = .ok (.ishl, 1) := by decide +kernel
theorem dX4_inAll_31 : decode cX4_inAll 31 = .ok (.iconst (-1), 1) := by decide +kernel
theorem dX4_inAll_32 : decode cX4_inAll 32 = .ok (.ixor, 1) := by decide +kernel
theorem dX4_inAll_33 : decode cX4_inAll 33 = .ok (.iand, 1) := by decide +kernel
theorem dX4_inAll_34 : decode cX4_inAll 34 = .ok (.invokevirtual 100, 3) := by decide +kernel
theorem dX4_inAll_37 : decode cX4_inAll 37 = .ok (.ifCond .ne 9, 3) := by decide +kernel
theorem dX4_inAll_40 : decode cX4_inAll 40 = .ok (.iload_n 1, 1) := by decide +kernel
theorem dX4_inAll_41 : decode cX4_inAll 41 = .ok (.iconst 1, 1) := by decide +kernel
theorem dX4_inAll_42 : decode cX4_inAll 42 = .ok (.iload_n 2, 1) := by decide +kernel
theorem dX4_inAll_43 : decode cX4_inAll 43 = .ok (.ishl, 1) := by decide +kernel
theorem dX4_inAll_44 : decode cX4_inAll 44 = .ok (.ior, 1) := by decide +kernel
theorem dX4_inAll_45 : decode cX4_inAll 45 = .ok (.istore_n 1, 1) := by decide +kernel
theorem dX4_inAll_46 : decode cX4_inAll 46 = .ok (.iinc 2 1, 3) := by decide +kernel
theorem dX4_inAll_49 : decode cX4_inAll 49 = .ok (.goto (-45), 3) := by decide +kernel
theorem dX4_inAll_52 : decode cX4_inAll 52 = .ok (.aload_n 0, 1) := by decide +kernel
theorem dX4_inAll_53 : decode cX4_inAll 53 = .ok (.iload_n 1, 1) := by decide +kernel
theorem dX4_inAll_54 : decode cX4_inAll 54 = .ok (.invokevirtual 124, 3) := by decide +kernel
theorem dX4_inAll_57 : decode cX4_inAll 57 = .ok (.ireturn, 1) := by decide +kernel
theorem dX4_areAlike_0 : decode cX4_areAlike 0 = .ok (.aload_n 0, 1) := by decide +kernel
theorem dX4_areAlike_1 : decode cX4_areAlike 1 = .ok (.iload_n 1, 1) := by decide +kernel
theorem dX4_areAlike_2 : decode cX4_areAlike 2 = .ok (.invokevirtual 127, 3) := by decide +kernel
theorem dX4_areAlike_5 : decode cX4_areAlike 5 = .ok (.istore_n 3, 1) := by decide +kernel
theorem dX4_areAlike_6 : decode cX4_areAlike 6 = .ok (.iload_n 3, 1) := by decide +kernel
theorem dX4_areAlike_7 : decode cX4_areAlike 7 = .ok (.aload_n 0, 1) := by decide +kernel
theorem dX4_areAlike_8 : decode cX4_areAlike 8 = .ok (.iload_n 2, 1) := by decide +kernel
theorem dX4_areAlike_9 : decode cX4_areAlike 9 = .ok (.invokevirtual 127, 3) := by decide +kernel
theorem dX4_areAlike_12 : decode cX4_areAlike 12 = .ok (.ior, 1) := by decide +kernel
theorem dX4_areAlike_13 : decode cX4_areAlike 13 = .ok (.istore 4, 2) := by decide +kernel
theorem dX4_areAlike_15 : decode cX4_areAlike 15 = .ok (.iconst 1, 1) := by decide +kernel
theorem dX4_areAlike_16 : decode cX4_areAlike 16 = .ok (.aload_n 0, 1) := by decide +kernel
theorem dX4_areAlike_17 : decode cX4_areAlike 17 = .ok (.getfield 35, 3) := by decide +kernel
theorem dX4_areAlike_20 : decode cX4_areAlike 20 = .ok (.ishl, 1) := by decide +kernel
theorem dX4_areAlike_21 : decode cX4_areAlike 21 = .ok (.istore 5, 2) := by decide +kernel
theorem dX4_areAlike_23 : decode cX4_areAlike 23 = .ok (.iconst 0, 1) := by decide +kernel
theorem dX4_areAlike_24 : decode cX4_areAlike 24 = .ok (.istore 6, 2) := by decide +kernel
theorem dX4_areAlike_26 : decode cX4_areAlike 26 = .ok (.iload 6, 2) := by decide +kernel
theorem dX4_areAlike_28 : decode cX4_areAlike 28 = .ok (.iload 5, 2) := by decide +kernel
theorem dX4_areAlike_30 : decode cX4_areAlike 30 = .ok (.if_icmp .ge 38, 3) := by decide +kernel
theorem dX4_areAlike_33 : decode cX4_areAlike 33 = .ok (.iload 6, 2) := by decide +kernel
theorem dX4_areAlike_35 : decode cX4_areAlike 35 = .ok (.iload 4, 2) := by decide +kernel
theorem dX4_areAlike_37 : decode cX4_areAlike 37 = .ok (.iand, 1) := by decide +kernel
theorem dX4_areAlike_38 : decode cX4_areAlike 38 = .ok (.iload_n 3, 1) := by decide +kernel
theorem dX4_areAlike_39 : decode cX4_areAlike 39 = .ok (.if_icmp .ne 23, 3) := by decide +kernel
theorem dX4_areAlike_42 : decode cX4_areAlike 42 = .ok (.aload_n 0, 1) := by decide +kernel
theorem dX4_areAlike_43 : decode cX4_areAlike 43 = .ok (.iload 6, 2) := by decide +kernel
theorem dX4_areAlike_45 : decode cX4_areAlike 45 = .ok (.invokevirtual 100, 3) := by decide +kernel
theorem dX4_areAlike_48 : decode cX4_areAlike 48 = .ok (.aload_n 0, 1) := by decide +kernel
theorem dX4_areAlike_49 : decode cX4_areAlike 49 = .ok (.iload 6, 2) := by decide +kernel
theorem dX4_areAlike_51 : decode cX4_areAlike 51 = .ok (.iload 4, 2) := by decide +kernel
theorem dX4_areAlike_53 : decode cX4_areAlike 53 = .ok (.ixor, 1) := by decide +kernel
theorem dX4_areAlike_54 : decode cX4_areAlike 54 = .ok (.invokevirtual 100, 3) := by decide +kernel
theorem dX4_areAlike_57 : decode cX4_areAlike 57 = .ok (.if_icmp .eq 5, 3) := by decide +kernel
theorem dX4_areAlike_60 : decode cX4_areAlike 60 = .ok (.iconst 0, 1) := by decide +kernel
theorem dX4_areAlike_61 : decode cX4_areAlike 61 = .ok (.ireturn, 1) := by decide +kernel
theorem dX4_areAlike_62 : decode cX4_areAlike 62 = .ok (.iinc 6 1, 3) := by decide +kernel
theorem dX4_areAlike_65 : decode cX4_areAlike 65 = .ok (.goto (-39), 3) := by decide +kernel
theorem dX4_areAlike_68 : decode cX4_areAlike 68 = .ok (.iconst 1, 1) := by decide +kernel
theorem dX4_areAlike_69 : decode cX4_areAlike 69 = .ok (.ireturn, 1) := by decide +kernel
theorem dX4_strongest_0 : decode cX4_strongest 0 = .ok (.iconst 0, 1) := by decide +kernel
theorem dX4_strongest_1 : decode cX4_strongest 1 = .ok (.istore_n 2, 1) := by decide +kernel
theorem dX4_strongest_2 : decode cX4_strongest 2 = .ok (.iload_n 2, 1) := by decide +kernel
theorem dX4_strongest_3 : decode cX4_strongest 3 = .ok (.aload_n 0, 1) := by decide +kernel
theorem dX4_strongest_4 : decode cX4_strongest 4 = .ok (.getfield 35, 3) := by decide +kernel
theorem dX4_strongest_7 : decode cX4_strongest 7 = .ok (.if_icmp .ge 31, 3) := by decide +kernel
theorem dX4_strongest_10 : decode cX4_strongest 10 = .ok (.iload_n 2, 1) := by decide +kernel
theorem dX4_strongest_11 : decode cX4_strongest 11 = .ok (.bipush 14, 2) := by decide +kernel
theorem dX4_strongest_13 : decode cX4_strongest 13 = .ok (.if_icmp .ge 25, 3) := by decide +kernel
theorem dX4_strongest_16 : decode cX4_strongest 16 = .ok (.aload_n 0, 1) := by decide +kernel
theorem dX4_strongest_17 : decode cX4_strongest 17 = .ok (.getfield 21, 3) := by decide +kernel
theorem dX4_strongest_20 : decode cX4_strongest 20 = .ok (.iload_n 2, 1) := by decide +kernel
theorem dX4_strongest_21 : decode cX4_strongest 21 = .ok (.aload_n 0, 1) := by decide +kernel
theorem dX4_strongest_22 : decode cX4_strongest 22 = .ok (.aload_n 0, 1) := by decide +kernel
theorem dX4_strongest_23 : decode cX4_strongest 23 = .ok (.getfield 18, 3) := by decide +kernel
theorem dX4_strongest_26 : decode cX4_strongest 26 = .ok (.iload_n 2, 1) := by decide +kernel
theorem dX4_strongest_27 : decode cX4_strongest 27 = .ok (.iaload, 1) := by decide +kernel
theorem dX4_strongest_28 : decode cX4_strongest 28 = .ok (.invokevirtual 144, 3) := by decide +kernel
theorem dX4_strongest_31 : decode cX4_strongest 31 = .ok (.iastore, 1) := by decide +kernel
theorem dX4_strongest_32 : decode cX4_strongest 32 = .ok (.iinc 2 1, 3) := by decide +kernel
theorem dX4_strongest_35 : decode cX4_strongest 35 = .ok (.goto (-33), 3) := by decide +kernel
theorem dX4_strongest_38 : decode cX4_strongest 38 = .ok (.iconst 0, 1) := by decide +kernel
theorem dX4_strongest_39 : decode cX4_strongest 39 = .ok (.istore_n 2, 1) := by decide +kernel
theorem dX4_strongest_40 : decode cX4_strongest 40 = .ok (.iload_n 2, 1) := by decide +kernel
theorem dX4_strongest_41 : decode cX4_strongest 41 = .ok (.aload_n 0, 1) := by decide +kernel
theorem dX4_strongest_42 : decode cX4_strongest 42 = .ok (.getfield 35, 3) := by decide +kernel
theorem dX4_strongest_45 : decode cX4_strongest 45 = .ok (.if_icmp .ge 31, 3) := by decide +kernel
theorem dX4_strongest_48 : decode cX4_strongest 48 = .ok (.iload_n 2, 1) := by decide +kernel
theorem dX4_strongest_49 : decode cX4_strongest 49 = .ok (.bipush 14, 2) := by decide +kernel
theorem dX4_strongest_51 : decode cX4_strongest 51 = .ok (.if_icmp .ge 25, 3) := by decide +kernel
theorem dX4_strongest_54 : decode cX4_strongest 54 = .ok (.aload_n 0, 1) := by decide +kernel
theorem dX4_strongest_55 : decode cX4_strongest 55 = .ok (.iload_n 2, 1) := by decide +kernel
theorem dX4_strongest_56 : decode cX4_strongest 56 = .ok (.invokevirtual 147, 3) := by decide +kernel
theorem dX4_strongest_59 : decode cX4_strongest 59 = .ok (.iload_n 1, 1) := by decide +kernel
theorem dX4_strongest_60 : decode cX4_strongest 60 = .ok (.if_icmp .ne 10, 3) := by decide +kernel
theorem dX4_strongest_63 : decode cX4_strongest 63 = .ok (.aload_n 0, 1) := by decide +kernel
theorem dX4_strongest_64 : decode cX4_strongest 64 = .ok (.getfield 18, 3) := by decide +kernel
theorem dX4_strongest_67 : decode cX4_strongest 67 = .ok (.iload_n 2, 1) := by decide +kernel
theorem dX4_strongest_68 : decode cX4_strongest 68 = .ok (.iaload, 1) := by decide +kernel
theorem dX4_strongest_69 : decode cX4_strongest 69 = .ok (.ireturn, 1) := by decide +kernel
theorem dX4_strongest_70 : decode cX4_strongest 70 = .ok (.iinc 2 1, 3) := by decide +kernel
theorem dX4_strongest_73 : decode cX4_strongest 73 = .ok (.goto (-33), 3) := by decide +kernel
theorem dX4_strongest_76 : decode cX4_strongest 76 = .ok (.bipush (-2), 2) := by decide +kernel
theorem dX4_strongest_78 : decode cX4_strongest 78 = .ok (.ireturn, 1) := by decide +kernel
theorem dX4_aheadOf_0 : decode cX4_aheadOf 0 = .ok (.iload_n 1, 1) := by decide +kernel
theorem dX4_aheadOf_1 : decode cX4_aheadOf 1 = .ok (.ifCond .lt 9, 3) := by decide +kernel
theorem dX4_aheadOf_4 : decode cX4_aheadOf 4 = .ok (.iload_n 1, 1) := by decide +kernel
theorem dX4_aheadOf_5 : decode cX4_aheadOf 5 = .ok (.bipush 14, 2) := by decide +kernel
theorem dX4_aheadOf_7 : decode cX4_aheadOf 7 = .ok (.if_icmp .lt 5, 3) := by decide +kernel
theorem dX4_aheadOf_10 : decode cX4_aheadOf 10 = .ok (.iconst (-1), 1) := by decide +kernel
theorem dX4_aheadOf_11 : decode cX4_aheadOf 11 = .ok (.ireturn, 1) := by decide +kernel
theorem dX4_aheadOf_12 : decode cX4_aheadOf 12 = .ok (.iconst 0, 1) := by decide +kernel
theorem dX4_aheadOf_13 : decode cX4_aheadOf 13 = .ok (.istore_n 2, 1) := by decide +kernel
theorem dX4_aheadOf_14 : decode cX4_aheadOf 14 = .ok (.iconst 0, 1) := by decide +kernel
theorem dX4_aheadOf_15 : decode cX4_aheadOf 15 = .ok (.istore_n 3, 1) := by decide +kernel
theorem dX4_aheadOf_16 : decode cX4_aheadOf 16 = .ok (.iload_n 3, 1) := by decide +kernel
theorem dX4_aheadOf_17 : decode cX4_aheadOf 17 = .ok (.aload_n 0, 1) := by decide +kernel
theorem dX4_aheadOf_18 : decode cX4_aheadOf 18 = .ok (.getfield 35, 3) := by decide +kernel
theorem dX4_aheadOf_21 : decode cX4_aheadOf 21 = .ok (.if_icmp .ge 53, 3) := by decide +kernel
theorem dX4_aheadOf_24 : decode cX4_aheadOf 24 = .ok (.iload_n 3, 1) := by decide +kernel
theorem dX4_aheadOf_25 : decode cX4_aheadOf 25 = .ok (.bipush 14, 2) := by decide +kernel
theorem dX4_aheadOf_27 : decode cX4_aheadOf 27 = .ok (.if_icmp .ge 47, 3) := by decide +kernel
theorem dX4_aheadOf_30 : decode cX4_aheadOf 30 = .ok (.aload_n 0, 1) := by decide +kernel
theorem dX4_aheadOf_31 : decode cX4_aheadOf 31 = .ok (.getfield 21, 3) := by decide +kernel
theorem dX4_aheadOf_34 : decode cX4_aheadOf 34 = .ok (.iload_n 3, 1) := by decide +kernel
theorem dX4_aheadOf_35 : decode cX4_aheadOf 35 = .ok (.iaload, 1) := by decide +kernel
theorem dX4_aheadOf_36 : decode cX4_aheadOf 36 = .ok (.aload_n 0, 1) := by decide +kernel
theorem dX4_aheadOf_37 : decode cX4_aheadOf 37 = .ok (.getfield 21, 3) := by decide +kernel
theorem dX4_aheadOf_40 : decode cX4_aheadOf 40 = .ok (.iload_n 1, 1) := by decide +kernel
theorem dX4_aheadOf_41 : decode cX4_aheadOf 41 = .ok (.iaload, 1) := by decide +kernel
theorem dX4_aheadOf_42 : decode cX4_aheadOf 42 = .ok (.if_icmp .gt 23, 3) := by decide +kernel
theorem dX4_aheadOf_45 : decode cX4_aheadOf 45 = .ok (.aload_n 0, 1) := by decide +kernel
theorem dX4_aheadOf_46 : decode cX4_aheadOf 46 = .ok (.getfield 21, 3) := by decide +kernel
theorem dX4_aheadOf_49 : decode cX4_aheadOf 49 = .ok (.iload_n 3, 1) := by decide +kernel
theorem dX4_aheadOf_50 : decode cX4_aheadOf 50 = .ok (.iaload, 1) := by decide +kernel
theorem dX4_aheadOf_51 : decode cX4_aheadOf 51 = .ok (.aload_n 0, 1) := by decide +kernel
theorem dX4_aheadOf_52 : decode cX4_aheadOf 52 = .ok (.getfield 21, 3) := by decide +kernel
theorem dX4_aheadOf_55 : decode cX4_aheadOf 55 = .ok (.iload_n 1, 1) := by decide +kernel
theorem dX4_aheadOf_56 : decode cX4_aheadOf 56 = .ok (.iaload, 1) := by decide +kernel
theorem dX4_aheadOf_57 : decode cX4_aheadOf 57 = .ok (.if_icmp .ne 11, 3) := by decide +kernel
theorem dX4_aheadOf_60 : decode cX4_aheadOf 60 = .ok (.iload_n 3, 1) := by decide +kernel
theorem dX4_aheadOf_61 : decode cX4_aheadOf 61 = .ok (.iload_n 1, 1) := by decide +kernel
theorem dX4_aheadOf_62 : decode cX4_aheadOf 62 = .ok (.if_icmp .ge 6, 3) := by decide +kernel
theorem dX4_aheadOf_65 : decode cX4_aheadOf 65 = .ok (.iinc 2 1, 3) := by decide +kernel
theorem dX4_aheadOf_68 : decode cX4_aheadOf 68 = .ok (.iinc 3 1, 3) := by decide +kernel
theorem dX4_aheadOf_71 : decode cX4_aheadOf 71 = .ok (.goto (-55), 3) := by decide +kernel
theorem dX4_aheadOf_74 : decode cX4_aheadOf 74 = .ok (.iload_n 2, 1) := by decide +kernel
theorem dX4_aheadOf_75 : decode cX4_aheadOf 75 = .ok (.ireturn, 1) := by decide +kernel
theorem dX5_init_0 : decode cX5_init 0 = .ok (.aload_n 0, 1) := by decide +kernel
theorem dX5_init_1 : decode cX5_init 1 = .ok (.invokespecial 3, 3) := by decide +kernel
theorem dX5_init_4 : decode cX5_init 4 = .ok (.aload_n 0, 1) := by decide +kernel
theorem dX5_init_5 : decode cX5_init 5 = .ok (.sipush 1024, 3) := by decide +kernel
theorem dX5_init_8 : decode cX5_init 8 = .ok (.newarray .int, 2) := by decide +kernel
theorem dX5_init_10 : decode cX5_init 10 = .ok (.putfield 11, 3) := by decide +kernel
theorem dX5_init_13 : decode cX5_init 13 = .ok (.aload_n 0, 1) := by decide +kernel
theorem dX5_init_14 : decode cX5_init 14 = .ok (.sipush 1024, 3) := by decide +kernel
theorem dX5_init_17 : decode cX5_init 17 = .ok (.newarray .int, 2) := by decide +kernel
theorem dX5_init_19 : decode cX5_init 19 = .ok (.putfield 15, 3) := by decide +kernel
theorem dX5_init_22 : decode cX5_init 22 = .ok (.return_, 1) := by decide +kernel
theorem dX5_clear_0 : decode cX5_clear 0 = .ok (.aload_n 0, 1) := by decide +kernel
theorem dX5_clear_1 : decode cX5_clear 1 = .ok (.getfield 11, 3) := by decide +kernel
theorem dX5_clear_4 : decode cX5_clear 4 = .ok (.iconst 0, 1) := by decide +kernel
theorem dX5_clear_5 : decode cX5_clear 5 = .ok (.invokestatic 18, 3) := by decide +kernel
theorem dX5_clear_8 : decode cX5_clear 8 = .ok (.return_, 1) := by decide +kernel
theorem dX5_keyOf_0 : decode cX5_keyOf 0 = .ok (.iload_n 0, 1) := by decide +kernel
theorem dX5_keyOf_1 : decode cX5_keyOf 1 = .ok (.iload_n 1, 1) := by decide +kernel
theorem dX5_keyOf_2 : decode cX5_keyOf 2 = .ok (.bipush 14, 2) := by decide +kernel
theorem dX5_keyOf_4 : decode cX5_keyOf 4 = .ok (.ishl, 1) := by decide +kernel
theorem dX5_keyOf_5 : decode cX5_keyOf 5 = .ok (.ior, 1) := by decide +kernel
theorem dX5_keyOf_6 : decode cX5_keyOf 6 = .ok (.iconst 1, 1) := by decide +kernel
theorem dX5_keyOf_7 : decode cX5_keyOf 7 = .ok (.iadd, 1) := by decide +kernel
theorem dX5_keyOf_8 : decode cX5_keyOf 8 = .ok (.ireturn, 1) := by decide +kernel
theorem dX5_slotOf_0 : decode cX5_slotOf 0 = .ok (.iload_n 1, 1) := by decide +kernel
theorem dX5_slotOf_1 : decode cX5_slotOf 1 = .ok (.ldc 24, 2) := by decide +kernel
theorem dX5_slotOf_3 : decode cX5_slotOf 3 = .ok (.imul, 1) := by decide +kernel
theorem dX5_slotOf_4 : decode cX5_slotOf 4 = .ok (.bipush 22, 2) := by decide +kernel
theorem dX5_slotOf_6 : decode cX5_slotOf 6 = .ok (.iushr, 1) := by decide +kernel
theorem dX5_slotOf_7 : decode cX5_slotOf 7 = .ok (.istore_n 2, 1) := by decide +kernel
theorem dX5_slotOf_8 : decode cX5_slotOf 8 = .ok (.iconst 0, 1) := by decide +kernel
theorem dX5_slotOf_9 : decode cX5_slotOf 9 = .ok (.istore_n 3, 1) := by decide +kernel
theorem dX5_slotOf_10 : decode cX5_slotOf 10 = .ok (.iload_n 3, 1) := by decide +kernel
theorem dX5_slotOf_11 : decode cX5_slotOf 11 = .ok (.bipush 64, 2) := by decide +kernel
theorem dX5_slotOf_13 : decode cX5_slotOf 13 = .ok (.if_icmp .ge 42, 3) := by decide +kernel
theorem dX5_slotOf_16 : decode cX5_slotOf 16 = .ok (.iload_n 2, 1) := by decide +kernel
theorem dX5_slotOf_17 : decode cX5_slotOf 17 = .ok (.iload_n 3, 1) := by decide +kernel
theorem dX5_slotOf_18 : decode cX5_slotOf 18 = .ok (.iadd, 1) := by decide +kernel
theorem dX5_slotOf_19 : decode cX5_slotOf 19 = .ok (.sipush 1023, 3) := by decide +kernel
theorem dX5_slotOf_22 : decode cX5_slotOf 22 = .ok (.iand, 1) := by decide +kernel
theorem dX5_slotOf_23 : decode cX5_slotOf 23 = .ok (.istore 4, 2) := by decide +kernel
theorem dX5_slotOf_25 : decode cX5_slotOf 25 = .ok (.aload_n 0, 1) := by decide +kernel
theorem dX5_slotOf_26 : decode cX5_slotOf 26 = .ok (.getfield 11, 3) := by decide +kernel
theorem dX5_slotOf_29 : decode cX5_slotOf 29 = .ok (.iload 4, 2) := by decide +kernel
theorem dX5_slotOf_31 : decode cX5_slotOf 31 = .ok (.iaload, 1) := by decide +kernel
theorem dX5_slotOf_32 : decode cX5_slotOf 32 = .ok (.iload_n 1, 1) := by decide +kernel
theorem dX5_slotOf_33 : decode cX5_slotOf 33 = .ok (.if_icmp .eq 13, 3) := by decide +kernel
theorem dX5_slotOf_36 : decode cX5_slotOf 36 = .ok (.aload_n 0, 1) := by decide +kernel
theorem dX5_slotOf_37 : decode cX5_slotOf 37 = .ok (.getfield 11, 3) := by decide +kernel
theorem dX5_slotOf_40 : decode cX5_slotOf 40 = .ok (.iload 4, 2) := by decide +kernel
theorem dX5_slotOf_42 : decode cX5_slotOf 42 = .ok (.iaload, 1) := by decide +kernel
theorem dX5_slotOf_43 : decode cX5_slotOf 43 = .ok (.ifCond .ne 6, 3) := by decide +kernel
theorem dX5_slotOf_46 : decode cX5_slotOf 46 = .ok (.iload 4, 2) := by decide +kernel
theorem dX5_slotOf_48 : decode cX5_slotOf 48 = .ok (.ireturn, 1) := by decide +kernel
theorem dX5_slotOf_49 : decode cX5_slotOf 49 = .ok (.iinc 3 1, 3) := by decide +kernel
theorem dX5_slotOf_52 : decode cX5_slotOf 52 = .ok (.goto (-42), 3) := by decide +kernel
theorem dX5_slotOf_55 : decode cX5_slotOf 55 = .ok (.iconst (-1), 1) := by decide +kernel
theorem dX5_slotOf_56 : decode cX5_slotOf 56 = .ok (.ireturn, 1) := by decide +kernel
theorem dX5_valueOf_0 : decode cX5_valueOf 0 = .ok (.iload_n 1, 1) := by decide +kernel
theorem dX5_valueOf_1 : decode cX5_valueOf 1 = .ok (.iload_n 2, 1) := by decide +kernel
theorem dX5_valueOf_2 : decode cX5_valueOf 2 = .ok (.invokestatic 25, 3) := by decide +kernel
theorem dX5_valueOf_5 : decode cX5_valueOf 5 = .ok (.istore_n 3, 1) := by decide +kernel
theorem dX5_valueOf_6 : decode cX5_valueOf 6 = .ok (.aload_n 0, 1) := by decide +kernel
theorem dX5_valueOf_7 : decode cX5_valueOf 7 = .ok (.iload_n 3, 1) := by decide +kernel
theorem dX5_valueOf_8 : decode cX5_valueOf 8 = .ok (.invokevirtual 29, 3) := by decide +kernel
theorem dX5_valueOf_11 : decode cX5_valueOf 11 = .ok (.istore 4, 2) := by decide +kernel
theorem dX5_valueOf_13 : decode cX5_valueOf 13 = .ok (.iload 4, 2) := by decide +kernel
theorem dX5_valueOf_15 : decode cX5_valueOf 15 = .ok (.ifCond .lt 32, 3) := by decide +kernel
theorem dX5_valueOf_18 : decode cX5_valueOf 18 = .ok (.iload 4, 2) := by decide +kernel
theorem dX5_valueOf_20 : decode cX5_valueOf 20 = .ok (.sipush 1024, 3) := by decide +kernel
theorem dX5_valueOf_23 : decode cX5_valueOf 23 = .ok (.if_icmp .ge 24, 3) := by decide +kernel
theorem dX5_valueOf_26 : decode cX5_valueOf 26 = .ok (.aload_n 0, 1) := by decide +kernel
theorem dX5_valueOf_27 : decode cX5_valueOf 27 = .ok (.getfield 11, 3) := by decide +kernel
theorem dX5_valueOf_30 : decode cX5_valueOf 30 = .ok (.iload 4, 2) := by decide +kernel
theorem dX5_valueOf_32 : decode cX5_valueOf 32 = .ok (.iaload, 1) := by decide +kernel
theorem dX5_valueOf_33 : decode cX5_valueOf 33 = .ok (.iload_n 3, 1) := by decide +kernel
theorem dX5_valueOf_34 : decode cX5_valueOf 34 = .ok (.if_icmp .ne 13, 3) := by decide +kernel
theorem dX5_valueOf_37 : decode cX5_valueOf 37 = .ok (.aload_n 0, 1) := by decide +kernel
theorem dX5_valueOf_38 : decode cX5_valueOf 38 = .ok (.getfield 15, 3) := by decide +kernel
theorem dX5_valueOf_41 : decode cX5_valueOf 41 = .ok (.iload 4, 2) := by decide +kernel
theorem dX5_valueOf_43 : decode cX5_valueOf 43 = .ok (.iaload, 1) := by decide +kernel
theorem dX5_valueOf_44 : decode cX5_valueOf 44 = .ok (.goto 4, 3) := by decide +kernel
theorem dX5_valueOf_47 : decode cX5_valueOf 47 = .ok (.iconst (-1), 1) := by decide +kernel
theorem dX5_valueOf_48 : decode cX5_valueOf 48 = .ok (.ireturn, 1) := by decide +kernel
theorem dX5_keep_0 : decode cX5_keep 0 = .ok (.aload_n 0, 1) := by decide +kernel
theorem dX5_keep_1 : decode cX5_keep 1 = .ok (.iload_n 1, 1) := by decide +kernel
theorem dX5_keep_2 : decode cX5_keep 2 = .ok (.iload_n 2, 1) := by decide +kernel
theorem dX5_keep_3 : decode cX5_keep 3 = .ok (.invokestatic 25, 3) := by decide +kernel
theorem dX5_keep_6 : decode cX5_keep 6 = .ok (.invokevirtual 29, 3) := by decide +kernel
theorem dX5_keep_9 : decode cX5_keep 9 = .ok (.istore 4, 2) := by decide +kernel
theorem dX5_keep_11 : decode cX5_keep 11 = .ok (.iload 4, 2) := by decide +kernel
theorem dX5_keep_13 : decode cX5_keep 13 = .ok (.ifCond .lt 31, 3) := by decide +kernel
theorem dX5_keep_16 : decode cX5_keep 16 = .ok (.iload 4, 2) := by decide +kernel
theorem dX5_keep_18 : decode cX5_keep 18 = .ok (.sipush 1024, 3) := by decide +kernel
theorem dX5_keep_21 : decode cX5_keep 21 = .ok (.if_icmp .ge 23, 3) := by decide +kernel
theorem dX5_keep_24 : decode cX5_keep 24 = .ok (.aload_n 0, 1) := by decide +kernel
theorem dX5_keep_25 : decode cX5_keep 25 = .ok (.getfield 11, 3) := by decide +kernel
theorem dX5_keep_28 : decode cX5_keep 28 = .ok (.iload 4, 2) := by decide +kernel
theorem dX5_keep_30 : decode cX5_keep 30 = .ok (.iload_n 1, 1) := by decide +kernel
theorem dX5_keep_31 : decode cX5_keep 31 = .ok (.iload_n 2, 1) := by decide +kernel
theorem dX5_keep_32 : decode cX5_keep 32 = .ok (.invokestatic 25, 3) := by decide +kernel
theorem dX5_keep_35 : decode cX5_keep 35 = .ok (.iastore, 1) := by decide +kernel
theorem dX5_keep_36 : decode cX5_keep 36 = .ok (.aload_n 0, 1) := by decide +kernel
theorem dX5_keep_37 : decode cX5_keep 37 = .ok (.getfield 15, 3) := by decide +kernel
theorem dX5_keep_40 : decode cX5_keep 40 = .ok (.iload 4, 2) := by decide +kernel
theorem dX5_keep_42 : decode cX5_keep 42 = .ok (.iload_n 3, 1) := by decide +kernel
theorem dX5_keep_43 : decode cX5_keep 43 = .ok (.iastore, 1) := by decide +kernel
theorem dX5_keep_44 : decode cX5_keep 44 = .ok (.return_, 1) := by decide +kernel
theorem dX6_init_0 : decode cX6_init 0 = .ok (.aload_n 0, 1) := by decide +kernel
theorem dX6_init_1 : decode cX6_init 1 = .ok (.invokespecial 3, 3) := by decide +kernel
theorem dX6_init_4 : decode cX6_init 4 = .ok (.aload_n 0, 1) := by decide +kernel
theorem dX6_init_5 : decode cX6_init 5 = .ok (.bipush 14, 2) := by decide +kernel
theorem dX6_init_7 : decode cX6_init 7 = .ok (.newarray .int, 2) := by decide +kernel
theorem dX6_init_9 : decode cX6_init 9 = .ok (.putfield 9, 3) := by decide +kernel
theorem dX6_init_12 : decode cX6_init 12 = .ok (.aload_n 0, 1) := by decide +kernel
theorem dX6_init_13 : decode cX6_init 13 = .ok (.bipush 14, 2) := by decide +kernel
theorem dX6_init_15 : decode cX6_init 15 = .ok (.newarray .int, 2) := by decide +kernel
theorem dX6_init_17 : decode cX6_init 17 = .ok (.putfield 15, 3) := by decide +kernel
theorem dX6_init_20 : decode cX6_init 20 = .ok (.aload_n 0, 1) := by decide +kernel
theorem dX6_init_21 : decode cX6_init 21 = .ok (.invokevirtual 18, 3) := by decide +kernel
theorem dX6_init_24 : decode cX6_init 24 = .ok (.return_, 1) := by decide +kernel
theorem dX6_wipe_0 : decode cX6_wipe 0 = .ok (.aload_n 0, 1) := by decide +kernel
theorem dX6_wipe_1 : decode cX6_wipe 1 = .ok (.iconst 2, 1) := by decide +kernel
theorem dX6_wipe_2 : decode cX6_wipe 2 = .ok (.putfield 21, 3) := by decide +kernel
theorem dX6_wipe_5 : decode cX6_wipe 5 = .ok (.aload_n 0, 1) := by decide +kernel
theorem dX6_wipe_6 : decode cX6_wipe 6 = .ok (.iconst 0, 1) := by decide +kernel
theorem dX6_wipe_7 : decode cX6_wipe 7 = .ok (.putfield 25, 3) := by decide +kernel
theorem dX6_wipe_10 : decode cX6_wipe 10 = .ok (.aload_n 0, 1) := by decide +kernel
theorem dX6_wipe_11 : decode cX6_wipe 11 = .ok (.iconst 1, 1) := by decide +kernel
theorem dX6_wipe_12 : decode cX6_wipe 12 = .ok (.putfield 28, 3) := by decide +kernel
theorem dX6_wipe_15 : decode cX6_wipe 15 = .ok (.aload_n 0, 1) := by decide +kernel
theorem dX6_wipe_16 : decode cX6_wipe 16 = .ok (.iconst 0, 1) := by decide +kernel
theorem dX6_wipe_17 : decode cX6_wipe 17 = .ok (.putfield 31, 3) := by decide +kernel
theorem dX6_wipe_20 : decode cX6_wipe 20 = .ok (.aload_n 0, 1) := by decide +kernel
theorem dX6_wipe_21 : decode cX6_wipe 21 = .ok (.iconst 0, 1) := by decide +kernel
theorem dX6_wipe_22 : decode cX6_wipe 22 = .ok (.putfield 34, 3) := by decide +kernel
theorem dX6_wipe_25 : decode cX6_wipe 25 = .ok (.aload_n 0, 1) := by decide +kernel
theorem dX6_wipe_26 : decode cX6_wipe 26 = .ok (.iconst 0, 1) := by decide +kernel
theorem dX6_wipe_27 : decode cX6_wipe 27 = .ok (.putfield 37, 3) := by decide +kernel
theorem dX6_wipe_30 : decode cX6_wipe 30 = .ok (.aload_n 0, 1) := by decide +kernel
theorem dX6_wipe_31 : decode cX6_wipe 31 = .ok (.iconst 0, 1) := by decide +kernel
theorem dX6_wipe_32 : decode cX6_wipe 32 = .ok (.putfield 40, 3) := by decide +kernel
theorem dX6_wipe_35 : decode cX6_wipe 35 = .ok (.aload_n 0, 1) := by decide +kernel
theorem dX6_wipe_36 : decode cX6_wipe 36 = .ok (.iconst 1, 1) := by decide +kernel
theorem dX6_wipe_37 : decode cX6_wipe 37 = .ok (.putfield 43, 3) := by decide +kernel
theorem dX6_wipe_40 : decode cX6_wipe 40 = .ok (.return_, 1) := by decide +kernel
theorem dX6_copy_0 : decode cX6_copy 0 = .ok (.aload_n 1, 1) := by decide +kernel
theorem dX6_copy_1 : decode cX6_copy 1 = .ok (.getfield 9, 3) := by decide +kernel
theorem dX6_copy_4 : decode cX6_copy 4 = .ok (.iconst 0, 1) := by decide +kernel
theorem dX6_copy_5 : decode cX6_copy 5 = .ok (.aload_n 0, 1) := by decide +kernel
theorem dX6_copy_6 : decode cX6_copy 6 = .ok (.getfield 9, 3) := by decide +kernel
theorem dX6_copy_9 : decode cX6_copy 9 = .ok (.iconst 0, 1) := by decide +kernel
theorem dX6_copy_10 : decode cX6_copy 10 = .ok (.bipush 14, 2) := by decide +kernel
theorem dX6_copy_12 : decode cX6_copy 12 = .ok (.invokestatic 46, 3) := by decide +kernel
theorem dX6_copy_15 : decode cX6_copy 15 = .ok (.aload_n 1, 1) := by decide +kernel
theorem dX6_copy_16 : decode cX6_copy 16 = .ok (.getfield 15, 3) := by decide +kernel
theorem dX6_copy_19 : decode cX6_copy 19 = .ok (.iconst 0, 1) := by decide +kernel
theorem dX6_copy_20 : decode cX6_copy 20 = .ok (.aload_n 0, 1) := by decide +kernel
theorem dX6_copy_21 : decode cX6_copy 21 = .ok (.getfield 15, 3) := by decide +kernel
theorem dX6_copy_24 : decode cX6_copy 24 = .ok (.iconst 0, 1) := by decide +kernel
theorem dX6_copy_25 : decode cX6_copy 25 = .ok (.bipush 14, 2) := by decide +kernel
theorem dX6_copy_27 : decode cX6_copy 27 = .ok (.invokestatic 46, 3) := by decide +kernel
theorem dX6_copy_30 : decode cX6_copy 30 = .ok (.aload_n 0, 1) := by decide +kernel
theorem dX6_copy_31 : decode cX6_copy 31 = .ok (.aload_n 1, 1) := by decide +kernel
theorem dX6_copy_32 : decode cX6_copy 32 = .ok (.getfield 21, 3) := by decide +kernel
theorem dX6_copy_35 : decode cX6_copy 35 = .ok (.putfield 21, 3) := by decide +kernel
theorem dX6_copy_38 : decode cX6_copy 38 = .ok (.aload_n 0, 1) := by decide +kernel
theorem dX6_copy_39 : decode cX6_copy 39 = .ok (.aload_n 1, 1) := by decide +kernel
theorem dX6_copy_40 : decode cX6_copy 40 = .ok (.getfield 25, 3) := by decide +kernel
theorem dX6_copy_43 : decode cX6_copy 43 = .ok (.putfield 25, 3) := by decide +kernel
theorem dX6_copy_46 : decode cX6_copy 46 = .ok (.aload_n 0, 1) := by decide +kernel
theorem dX6_copy_47 : decode cX6_copy 47 = .ok (.aload_n 1, 1) := by decide +kernel
theorem dX6_copy_48 : decode cX6_copy 48 = .ok (.getfield 28, 3) := by decide +kernel
theorem dX6_copy_51 : decode cX6_copy 51 = .ok (.putfield 28, 3) := by decide +kernel
theorem dX6_copy_54 : decode cX6_copy 54 = .ok (.aload_n 0, 1) := by decide +kernel
theorem dX6_copy_55 : decode cX6_copy 55 = .ok (.aload_n 1, 1) := by decide +kernel
theorem dX6_copy_56 : decode cX6_copy 56 = .ok (.getfield 31, 3) := by decide +kernel
theorem dX6_copy_59 : decode cX6_copy 59 = .ok (.putfield 31, 3) := by decide +kernel
theorem dX6_copy_62 : decode cX6_copy 62 = .ok (.aload_n 0, 1) := by decide +kernel
theorem dX6_copy_63 : decode cX6_copy 63 = .ok (.aload_n 1, 1) := by decide +kernel
theorem dX6_copy_64 : decode cX6_copy 64 = .ok (.getfield 34, 3) := by decide +kernel
theorem dX6_copy_67 : decode cX6_copy 67 = .ok (.putfield 34, 3) := by decide +kernel
theorem dX6_copy_70 : decode cX6_copy 70 = .ok (.aload_n 0, 1) := by decide +kernel
theorem dX6_copy_71 : decode cX6_copy 71 = .ok (.aload_n 1, 1) := by decide +kernel
theorem dX6_copy_72 : decode cX6_copy 72 = .ok (.getfield 37, 3) := by decide +kernel
theorem dX6_copy_75 : decode cX6_copy 75 = .ok (.putfield 37, 3) := by decide +kernel
theorem dX6_copy_78 : decode cX6_copy 78 = .ok (.aload_n 0, 1) := by decide +kernel
theorem dX6_copy_79 : decode cX6_copy 79 = .ok (.aload_n 1, 1) := by decide +kernel
theorem dX6_copy_80 : decode cX6_copy 80 = .ok (.getfield 40, 3) := by decide +kernel
theorem dX6_copy_83 : decode cX6_copy 83 = .ok (.putfield 40, 3) := by decide +kernel
theorem dX6_copy_86 : decode cX6_copy 86 = .ok (.aload_n 0, 1) := by decide +kernel
theorem dX6_copy_87 : decode cX6_copy 87 = .ok (.aload_n 1, 1) := by decide +kernel
theorem dX6_copy_88 : decode cX6_copy 88 = .ok (.getfield 43, 3) := by decide +kernel
theorem dX6_copy_91 : decode cX6_copy 91 = .ok (.putfield 43, 3) := by decide +kernel
theorem dX6_copy_94 : decode cX6_copy 94 = .ok (.return_, 1) := by decide +kernel
theorem dX6_addLine_0 : decode cX6_addLine 0 = .ok (.aload_n 0, 1) := by decide +kernel
theorem dX6_addLine_1 : decode cX6_addLine 1 = .ok (.getfield 31, 3) := by decide +kernel
theorem dX6_addLine_4 : decode cX6_addLine 4 = .ok (.ifCond .lt 42, 3) := by decide +kernel
theorem dX6_addLine_7 : decode cX6_addLine 7 = .ok (.aload_n 0, 1) := by decide +kernel
theorem dX6_addLine_8 : decode cX6_addLine 8 = .ok (.getfield 31, 3) := by decide +kernel
theorem dX6_addLine_11 : decode cX6_addLine 11 = .ok (.bipush 14, 2) := by decide +kernel
theorem dX6_addLine_13 : decode cX6_addLine 13 = .ok (.if_icmp .ge 33, 3) := by decide +kernel
theorem dX6_addLine_16 : decode cX6_addLine 16 = .ok (.aload_n 0, 1) := by decide +kernel
theorem dX6_addLine_17 : decode cX6_addLine 17 = .ok (.getfield 9, 3) := by decide +kernel
theorem dX6_addLine_20 : decode cX6_addLine 20 = .ok (.aload_n 0, 1) := by decide +kernel
theorem dX6_addLine_21 : decode cX6_addLine 21 = .ok (.getfield 31, 3) := by decide +kernel
theorem dX6_addLine_24 : decode cX6_addLine 24 = .ok (.iload_n 1, 1) := by decide +kernel
theorem dX6_addLine_25 : decode cX6_addLine 25 = .ok (.iastore, 1) := by decide +kernel
theorem dX6_addLine_26 : decode cX6_addLine 26 = .ok (.aload_n 0, 1) := by decide +kernel
theorem dX6_addLine_27 : decode cX6_addLine 27 = .ok (.getfield 15, 3) := by decide +kernel
theorem dX6_addLine_30 : decode cX6_addLine 30 = .ok (.aload_n 0, 1) := by decide +kernel
theorem dX6_addLine_31 : decode cX6_addLine 31 = .ok (.getfield 31, 3) := by decide +kernel
theorem dX6_addLine_34 : decode cX6_addLine 34 = .ok (.iload_n 2, 1) := by decide +kernel
theorem dX6_addLine_35 : decode cX6_addLine 35 = .ok (.iastore, 1) := by decide +kernel
theorem dX6_addLine_36 : decode cX6_addLine 36 = .ok (.aload_n 0, 1) := by decide +kernel
theorem dX6_addLine_37 : decode cX6_addLine 37 = .ok (.dup, 1) := by decide +kernel
theorem dX6_addLine_38 : decode cX6_addLine 38 = .ok (.getfield 31, 3) := by decide +kernel
theorem dX6_addLine_41 : decode cX6_addLine 41 = .ok (.iconst 1, 1) := by decide +kernel
theorem dX6_addLine_42 : decode cX6_addLine 42 = .ok (.iadd, 1) := by decide +kernel
theorem dX6_addLine_43 : decode cX6_addLine 43 = .ok (.putfield 31, 3) := by decide +kernel
theorem dX6_addLine_46 : decode cX6_addLine 46 = .ok (.return_, 1) := by decide +kernel
theorem dX6_isKnot_0 : decode cX6_isKnot 0 = .ok (.iload_n 1, 1) := by decide +kernel
theorem dX6_isKnot_1 : decode cX6_isKnot 1 = .ok (.ifCond .lt 15, 3) := by decide +kernel
theorem dX6_isKnot_4 : decode cX6_isKnot 4 = .ok (.iload_n 1, 1) := by decide +kernel
theorem dX6_isKnot_5 : decode cX6_isKnot 5 = .ok (.aload_n 0, 1) := by decide +kernel
theorem dX6_isKnot_6 : decode cX6_isKnot 6 = .ok (.getfield 21, 3) := by decide +kernel
theorem dX6_isKnot_9 : decode cX6_isKnot 9 = .ok (.if_icmp .ge 7, 3) := by decide +kernel
theorem dX6_isKnot_12 : decode cX6_isKnot 12 = .ok (.iconst 1, 1) := by decide +kernel
theorem dX6_isKnot_13 : decode cX6_isKnot 13 = .ok (.goto 4, 3) := by decide +kernel
theorem dX6_isKnot_16 : decode cX6_isKnot 16 = .ok (.iconst 0, 1) := by decide +kernel
theorem dX6_isKnot_17 : decode cX6_isKnot 17 = .ok (.ireturn, 1) := by decide +kernel
theorem dX6_isLine_0 : decode cX6_isLine 0 = .ok (.iload_n 1, 1) := by decide +kernel
theorem dX6_isLine_1 : decode cX6_isLine 1 = .ok (.ifCond .lt 21, 3) := by decide +kernel
theorem dX6_isLine_4 : decode cX6_isLine 4 = .ok (.iload_n 1, 1) := by decide +kernel
theorem dX6_isLine_5 : decode cX6_isLine 5 = .ok (.aload_n 0, 1) := by decide +kernel
theorem dX6_isLine_6 : decode cX6_isLine 6 = .ok (.getfield 31, 3) := by decide +kernel
theorem dX6_isLine_9 : decode cX6_isLine 9 = .ok (.if_icmp .ge 13, 3) := by decide +kernel
theorem dX6_isLine_12 : decode cX6_isLine 12 = .ok (.iload_n 1, 1) := by decide +kernel
theorem dX6_isLine_13 : decode cX6_isLine 13 = .ok (.bipush 14, 2) := by decide +kernel
theorem dX6_isLine_15 : decode cX6_isLine 15 = .ok (.if_icmp .ge 7, 3) := by decide +kernel
theorem dX6_isLine_18 : decode cX6_isLine 18 = .ok (.iconst 1, 1) := by decide +kernel
theorem dX6_isLine_19 : decode cX6_isLine 19 = .ok (.goto 4, 3) := by decide +kernel
theorem dX6_isLine_22 : decode cX6_isLine 22 = .ok (.iconst 0, 1) := by decide +kernel
theorem dX6_isLine_23 : decode cX6_isLine 23 = .ok (.ireturn, 1) := by decide +kernel
theorem dX6_all_0 : decode cX6_all 0 = .ok (.iconst 1, 1) := by decide +kernel
theorem dX6_all_1 : decode cX6_all 1 = .ok (.aload_n 0, 1) := by decide +kernel
theorem dX6_all_2 : decode cX6_all 2 = .ok (.getfield 31, 3) := by decide +kernel
theorem dX6_all_5 : decode cX6_all 5 = .ok (.ishl, 1) := by decide +kernel
theorem dX6_all_6 : decode cX6_all 6 = .ok (.iconst 1, 1) := by decide +kernel
theorem dX6_all_7 : decode cX6_all 7 = .ok (.isub, 1) := by decide +kernel
theorem dX6_all_8 : decode cX6_all 8 = .ok (.ireturn, 1) := by decide +kernel
theorem dX6_openOf_0 : decode cX6_openOf 0 = .ok (.aload_n 0, 1) := by decide +kernel
theorem dX6_openOf_1 : decode cX6_openOf 1 = .ok (.invokevirtual 52, 3) := by decide +kernel
theorem dX6_openOf_4 : decode cX6_openOf 4 = .ok (.iload_n 1, 1) := by decide +kernel
theorem dX6_openOf_5 : decode cX6_openOf 5 = .ok (.iload_n 2, 1) := by decide +kernel
theorem dX6_openOf_6 : decode cX6_openOf 6 = .ok (.ior, 1) := by decide +kernel
theorem dX6_openOf_7 : decode cX6_openOf 7 = .ok (.iconst (-1), 1) := by decide +kernel
theorem dX6_openOf_8 : decode cX6_openOf 8 = .ok (.ixor, 1) := by decide +kernel
theorem dX6_openOf_9 : decode cX6_openOf 9 = .ok (.iand, 1) := by decide +kernel
theorem dX6_openOf_10 : decode cX6_openOf 10 = .ok (.ireturn, 1) := by decide +kernel
theorem dX6_withLine_0 : decode cX6_withLine 0 = .ok (.aload_n 0, 1) := by decide +kernel
theorem dX6_withLine_1 : decode cX6_withLine 1 = .ok (.iload_n 2, 1) := by decide +kernel
theorem dX6_withLine_2 : decode cX6_withLine 2 = .ok (.invokevirtual 56, 3) := by decide +kernel
theorem dX6_withLine_5 : decode cX6_withLine 5 = .ok (.ifCond .eq 22, 3) := by decide +kernel
theorem dX6_withLine_8 : decode cX6_withLine 8 = .ok (.iload_n 1, 1) := by decide +kernel
theorem dX6_withLine_9 : decode cX6_withLine 9 = .ok (.aload_n 0, 1) := by decide +kernel
theorem dX6_withLine_10 : decode cX6_withLine 10 = .ok (.getfield 9, 3) := by decide +kernel
theorem dX6_withLine_13 : decode cX6_withLine 13 = .ok (.iload_n 2, 1) := by decide +kernel
theorem dX6_withLine_14 : decode cX6_withLine 14 = .ok (.iaload, 1) := by decide +kernel
theorem dX6_withLine_15 : decode cX6_withLine 15 = .ok (.aload_n 0, 1) := by decide +kernel
theorem dX6_withLine_16 : decode cX6_withLine 16 = .ok (.getfield 15, 3) := by decide +kernel
theorem dX6_withLine_19 : decode cX6_withLine 19 = .ok (.iload_n 2, 1) := by decide +kernel
theorem dX6_withLine_20 : decode cX6_withLine 20 = .ok (.iaload, 1) := by decide +kernel
theorem dX6_withLine_21 : decode cX6_withLine 21 = .ok (.invokestatic 60, 3) := by decide +kernel
theorem dX6_withLine_24 : decode cX6_withLine 24 = .ok (.goto 4, 3) := by decide +kernel
theorem dX6_withLine_27 : decode cX6_withLine 27 = .ok (.iload_n 1, 1) := by decide +kernel
theorem dX6_withLine_28 : decode cX6_withLine 28 = .ok (.ireturn, 1) := by decide +kernel
theorem dX6_placesBy_0 : decode cX6_placesBy 0 = .ok (.ldc 66, 2) := by decide +kernel
theorem dX6_placesBy_2 : decode cX6_placesBy 2 = .ok (.istore_n 2, 1) := by decide +kernel
theorem dX6_placesBy_3 : decode cX6_placesBy 3 = .ok (.iconst 0, 1) := by decide +kernel
theorem dX6_placesBy_4 : decode cX6_placesBy 4 = .ok (.istore_n 3, 1) := by decide +kernel
theorem dX6_placesBy_5 : decode cX6_placesBy 5 = .ok (.iload_n 3, 1) := by decide +kernel
theorem dX6_placesBy_6 : decode cX6_placesBy 6 = .ok (.aload_n 0, 1) := by decide +kernel
theorem dX6_placesBy_7 : decode cX6_placesBy 7 = .ok (.getfield 31, 3) := by decide +kernel
theorem dX6_placesBy_10 : decode cX6_placesBy 10 = .ok (.if_icmp .ge 40, 3) := by decide +kernel
theorem dX6_placesBy_13 : decode cX6_placesBy 13 = .ok (.iload_n 3, 1) := by decide +kernel
theorem dX6_placesBy_14 : decode cX6_placesBy 14 = .ok (.bipush 14, 2) := by decide +kernel
theorem dX6_placesBy_16 : decode cX6_placesBy 16 = .ok (.if_icmp .ge 34, 3) := by decide +kernel
theorem dX6_placesBy_19 : decode cX6_placesBy 19 = .ok (.iload_n 1, 1) := by decide +kernel
theorem dX6_placesBy_20 : decode cX6_placesBy 20 = .ok (.iload_n 3, 1) := by decide +kernel
theorem dX6_placesBy_21 : decode cX6_placesBy 21 = .ok (.invokestatic 67, 3) := by decide +kernel
theorem dX6_placesBy_24 : decode cX6_placesBy 24 = .ok (.ifCond .eq 20, 3) := by decide +kernel
theorem dX6_placesBy_27 : decode cX6_placesBy 27 = .ok (.iload_n 2, 1) := by decide +kernel
theorem dX6_placesBy_28 : decode cX6_placesBy 28 = .ok (.aload_n 0, 1) := by decide +kernel
theorem dX6_placesBy_29 : decode cX6_placesBy 29 = .ok (.getfield 9, 3) := by decide +kernel
theorem dX6_placesBy_32 : decode cX6_placesBy 32 = .ok (.iload_n 3, 1) := by decide +kernel
theorem dX6_placesBy_33 : decode cX6_placesBy 33 = .ok (.iaload, 1) := by decide +kernel
theorem dX6_placesBy_34 : decode cX6_placesBy 34 = .ok (.aload_n 0, 1) := by decide +kernel
theorem dX6_placesBy_35 : decode cX6_placesBy 35 = .ok (.getfield 15, 3) := by decide +kernel
theorem dX6_placesBy_38 : decode cX6_placesBy 38 = .ok (.iload_n 3, 1) := by decide +kernel
theorem dX6_placesBy_39 : decode cX6_placesBy 39 = .ok (.iaload, 1) := by decide +kernel
theorem dX6_placesBy_40 : decode cX6_placesBy 40 = .ok (.invokestatic 60, 3) := by decide +kernel
theorem dX6_placesBy_43 : decode cX6_placesBy 43 = .ok (.istore_n 2, 1) := by decide +kernel
theorem dX6_placesBy_44 : decode cX6_placesBy 44 = .ok (.iinc 3 1, 3) := by decide +kernel
theorem dX6_placesBy_47 : decode cX6_placesBy 47 = .ok (.goto (-42), 3) := by decide +kernel
theorem dX6_placesBy_50 : decode cX6_placesBy 50 = .ok (.iload_n 2, 1) := by decide +kernel
theorem dX6_placesBy_51 : decode cX6_placesBy 51 = .ok (.ireturn, 1) := by decide +kernel
theorem dX6_endsMeet_0 : decode cX6_endsMeet 0 = .ok (.iload_n 1, 1) := by decide +kernel
theorem dX6_endsMeet_1 : decode cX6_endsMeet 1 = .ok (.aload_n 0, 1) := by decide +kernel
theorem dX6_endsMeet_2 : decode cX6_endsMeet 2 = .ok (.getfield 25, 3) := by decide +kernel
theorem dX6_endsMeet_5 : decode cX6_endsMeet 5 = .ok (.aload_n 0, 1) := by decide +kernel
theorem dX6_endsMeet_6 : decode cX6_endsMeet 6 = .ok (.getfield 28, 3) := by decide +kernel
theorem dX6_endsMeet_9 : decode cX6_endsMeet 9 = .ok (.invokestatic 71, 3) := by decide +kernel
theorem dX6_endsMeet_12 : decode cX6_endsMeet 12 = .ok (.ireturn, 1) := by decide +kernel
theorem dX6_holder_0 : decode cX6_holder 0 = .ok (.aload_n 0, 1) := by decide +kernel
theorem dX6_holder_1 : decode cX6_holder 1 = .ok (.aload_n 0, 1) := by decide +kernel
theorem dX6_holder_2 : decode cX6_holder 2 = .ok (.iload_n 1, 1) := by decide +kernel
theorem dX6_holder_3 : decode cX6_holder 3 = .ok (.invokevirtual 75, 3) := by decide +kernel
theorem dX6_holder_6 : decode cX6_holder 6 = .ok (.invokevirtual 79, 3) := by decide +kernel
theorem dX6_holder_9 : decode cX6_holder 9 = .ok (.ifCond .eq 5, 3) := by decide +kernel
theorem dX6_holder_12 : decode cX6_holder 12 = .ok (.iconst 0, 1) := by decide +kernel
theorem dX6_holder_13 : decode cX6_holder 13 = .ok (.ireturn, 1) := by decide +kernel
theorem dX6_holder_14 : decode cX6_holder 14 = .ok (.aload_n 0, 1) := by decide +kernel
theorem dX6_holder_15 : decode cX6_holder 15 = .ok (.aload_n 0, 1) := by decide +kernel
theorem dX6_holder_16 : decode cX6_holder 16 = .ok (.aload_n 0, 1) := by decide +kernel
theorem dX6_holder_17 : decode cX6_holder 17 = .ok (.invokevirtual 52, 3) := by decide +kernel
theorem dX6_holder_20 : decode cX6_holder 20 = .ok (.iload_n 2, 1) := by decide +kernel
theorem dX6_holder_21 : decode cX6_holder 21 = .ok (.iconst (-1), 1) := by decide +kernel
theorem dX6_holder_22 : decode cX6_holder 22 = .ok (.ixor, 1) := by decide +kernel
theorem dX6_holder_23 : decode cX6_holder 23 = .ok (.iand, 1) := by decide +kernel
theorem dX6_holder_24 : decode cX6_holder 24 = .ok (.invokevirtual 75, 3) := by decide +kernel
theorem dX6_holder_27 : decode cX6_holder 27 = .ok (.invokevirtual 79, 3) := by decide +kernel
theorem dX6_holder_30 : decode cX6_holder 30 = .ok (.ifCond .eq 7, 3) := by decide +kernel
theorem dX6_holder_33 : decode cX6_holder 33 = .ok (.iconst 2, 1) := by decide +kernel
theorem dX6_holder_34 : decode cX6_holder 34 = .ok (.goto 4, 3) := by decide +kernel
theorem dX6_holder_37 : decode cX6_holder 37 = .ok (.iconst 1, 1) := by decide +kernel
theorem dX6_holder_38 : decode cX6_holder 38 = .ok (.ireturn, 1) := by decide +kernel
theorem dX7_init_0 : decode cX7_init 0 = .ok (.aload_n 0, 1) := by decide +kernel
theorem dX7_init_1 : decode cX7_init 1 = .ok (.invokespecial 3, 3) := by decide +kernel
theorem dX7_init_4 : decode cX7_init 4 = .ok (.aload_n 0, 1) := by decide +kernel
theorem dX7_init_5 : decode cX7_init 5 = .ok (.iconst 0, 1) := by decide +kernel
theorem dX7_init_6 : decode cX7_init 6 = .ok (.putfield 9, 3) := by decide +kernel
theorem dX7_init_9 : decode cX7_init 9 = .ok (.aload_n 0, 1) := by decide +kernel
theorem dX7_init_10 : decode cX7_init 10 = .ok (.iconst 0, 1) := by decide +kernel
theorem dX7_init_11 : decode cX7_init 11 = .ok (.putfield 15, 3) := by decide +kernel
theorem dX7_init_14 : decode cX7_init 14 = .ok (.aload_n 0, 1) := by decide +kernel
theorem dX7_init_15 : decode cX7_init 15 = .ok (.iconst 0, 1) := by decide +kernel
theorem dX7_init_16 : decode cX7_init 16 = .ok (.putfield 18, 3) := by decide +kernel
theorem dX7_init_19 : decode cX7_init 19 = .ok (.aload_n 0, 1) := by decide +kernel
theorem dX7_init_20 : decode cX7_init 20 = .ok (.iconst 0, 1) := by decide +kernel
theorem dX7_init_21 : decode cX7_init 21 = .ok (.putfield 21, 3) := by decide +kernel
theorem dX7_init_24 : decode cX7_init 24 = .ok (.aload_n 0, 1) := by decide +kernel
theorem dX7_init_25 : decode cX7_init 25 = .ok (.aload_n 1, 1) := by decide +kernel
theorem dX7_init_26 : decode cX7_init 26 = .ok (.putfield 24, 3) := by decide +kernel
theorem dX7_init_29 : decode cX7_init 29 = .ok (.aload_n 0, 1) := by decide +kernel
theorem dX7_init_30 : decode cX7_init 30 = .ok (.aload_n 2, 1) := by decide +kernel
theorem dX7_init_31 : decode cX7_init 31 = .ok (.putfield 28, 3) := by decide +kernel
theorem dX7_init_34 : decode cX7_init 34 = .ok (.return_, 1) := by decide +kernel
theorem dX7_find_0 : decode cX7_find 0 = .ok (.aload_n 0, 1) := by decide +kernel
theorem dX7_find_1 : decode cX7_find 1 = .ok (.iload_n 1, 1) := by decide +kernel
theorem dX7_find_2 : decode cX7_find 2 = .ok (.iload_n 2, 1) := by decide +kernel
theorem dX7_find_3 : decode cX7_find 3 = .ok (.iconst 0, 1) := by decide +kernel
theorem dX7_find_4 : decode cX7_find 4 = .ok (.invokevirtual 32, 3) := by decide +kernel
theorem dX7_find_7 : decode cX7_find 7 = .ok (.istore_n 3, 1) := by decide +kernel
theorem dX7_find_8 : decode cX7_find 8 = .ok (.iload_n 3, 1) := by decide +kernel
theorem dX7_find_9 : decode cX7_find 9 = .ok (.ifCond .ge 5, 3) := by decide +kernel
theorem dX7_find_12 : decode cX7_find 12 = .ok (.iconst 0, 1) := by decide +kernel
theorem dX7_find_13 : decode cX7_find 13 = .ok (.ireturn, 1) := by decide +kernel
theorem dX7_find_14 : decode cX7_find 14 = .ok (.aload_n 0, 1) := by decide +kernel
theorem dX7_find_15 : decode cX7_find 15 = .ok (.iload_n 3, 1) := by decide +kernel
theorem dX7_find_16 : decode cX7_find 16 = .ok (.putfield 15, 3) := by decide +kernel
theorem dX7_find_19 : decode cX7_find 19 = .ok (.aload_n 0, 1) := by decide +kernel
theorem dX7_find_20 : decode cX7_find 20 = .ok (.getfield 28, 3) := by decide +kernel
theorem dX7_find_23 : decode cX7_find 23 = .ok (.invokevirtual 36, 3) := by decide +kernel
theorem dX7_find_26 : decode cX7_find 26 = .ok (.aload_n 0, 1) := by decide +kernel
theorem dX7_find_27 : decode cX7_find 27 = .ok (.aload_n 0, 1) := by decide +kernel
theorem dX7_find_28 : decode cX7_find 28 = .ok (.getfield 28, 3) := by decide +kernel
theorem dX7_find_31 : decode cX7_find 31 = .ok (.getfield 41, 3) := by decide +kernel
theorem dX7_find_34 : decode cX7_find 34 = .ok (.putfield 18, 3) := by decide +kernel
theorem dX7_find_37 : decode cX7_find 37 = .ok (.aload_n 0, 1) := by decide +kernel
theorem dX7_find_38 : decode cX7_find 38 = .ok (.aload_n 0, 1) := by decide +kernel
theorem dX7_find_39 : decode cX7_find 39 = .ok (.getfield 28, 3) := by decide +kernel
theorem dX7_find_42 : decode cX7_find 42 = .ok (.getfield 44, 3) := by decide +kernel
theorem dX7_find_45 : decode cX7_find 45 = .ok (.putfield 21, 3) := by decide +kernel
theorem dX7_find_48 : decode cX7_find 48 = .ok (.iconst 1, 1) := by decide +kernel
theorem dX7_find_49 : decode cX7_find 49 = .ok (.ireturn, 1) := by decide +kernel
theorem dX7_nthSet_0 : decode cX7_nthSet 0 = .ok (.aload_n 0, 1) := by decide +kernel
theorem dX7_nthSet_1 : decode cX7_nthSet 1 = .ok (.getfield 24, 3) := by decide +kernel
theorem dX7_nthSet_4 : decode cX7_nthSet 4 = .ok (.iload_n 1, 1) := by decide +kernel
theorem dX7_nthSet_5 : decode cX7_nthSet 5 = .ok (.invokevirtual 47, 3) := by decide +kernel
theorem dX7_nthSet_8 : decode cX7_nthSet 8 = .ok (.istore 4, 2) := by decide +kernel
theorem dX7_nthSet_10 : decode cX7_nthSet 10 = .ok (.aload_n 0, 1) := by decide +kernel
theorem dX7_nthSet_11 : decode cX7_nthSet 11 = .ok (.getfield 24, 3) := by decide +kernel
theorem dX7_nthSet_14 : decode cX7_nthSet 14 = .ok (.iload 4, 2) := by decide +kernel
theorem dX7_nthSet_16 : decode cX7_nthSet 16 = .ok (.invokevirtual 53, 3) := by decide +kernel
theorem dX7_nthSet_19 : decode cX7_nthSet 19 = .ok (.ifCond .eq 6, 3) := by decide +kernel
theorem dX7_nthSet_22 : decode cX7_nthSet 22 = .ok (.bipush (-2), 2) := by decide +kernel
theorem dX7_nthSet_24 : decode cX7_nthSet 24 = .ok (.ireturn, 1) := by decide +kernel
theorem dX7_nthSet_25 : decode cX7_nthSet 25 = .ok (.aload_n 0, 1) := by decide +kernel
theorem dX7_nthSet_26 : decode cX7_nthSet 26 = .ok (.aload_n 0, 1) := by decide +kernel
theorem dX7_nthSet_27 : decode cX7_nthSet 27 = .ok (.getfield 24, 3) := by decide +kernel
theorem dX7_nthSet_30 : decode cX7_nthSet 30 = .ok (.iload_n 1, 1) := by decide +kernel
theorem dX7_nthSet_31 : decode cX7_nthSet 31 = .ok (.iload_n 2, 1) := by decide +kernel
theorem dX7_nthSet_32 : decode cX7_nthSet 32 = .ok (.invokevirtual 57, 3) := by decide +kernel
theorem dX7_nthSet_35 : decode cX7_nthSet 35 = .ok (.putfield 9, 3) := by decide +kernel
theorem dX7_nthSet_38 : decode cX7_nthSet 38 = .ok (.aload_n 0, 1) := by decide +kernel
theorem dX7_nthSet_39 : decode cX7_nthSet 39 = .ok (.iload 4, 2) := by decide +kernel
theorem dX7_nthSet_41 : decode cX7_nthSet 41 = .ok (.invokevirtual 61, 3) := by decide +kernel
theorem dX7_nthSet_44 : decode cX7_nthSet 44 = .ok (.iconst 1, 1) := by decide +kernel
theorem dX7_nthSet_45 : decode cX7_nthSet 45 = .ok (.iload 4, 2) := by decide +kernel
theorem dX7_nthSet_47 : decode cX7_nthSet 47 = .ok (.aload_n 0, 1) := by decide +kernel
theorem dX7_nthSet_48 : decode cX7_nthSet 48 = .ok (.getfield 24, 3) := by decide +kernel
theorem dX7_nthSet_51 : decode cX7_nthSet 51 = .ok (.getfield 65, 3) := by decide +kernel
theorem dX7_nthSet_54 : decode cX7_nthSet 54 = .ok (.invokestatic 68, 3) := by decide +kernel
theorem dX7_nthSet_57 : decode cX7_nthSet 57 = .ok (.ishl, 1) := by decide +kernel
theorem dX7_nthSet_58 : decode cX7_nthSet 58 = .ok (.iconst 1, 1) := by decide +kernel
theorem dX7_nthSet_59 : decode cX7_nthSet 59 = .ok (.iload 4, 2) := by decide +kernel
theorem dX7_nthSet_61 : decode cX7_nthSet 61 = .ok (.aload_n 0, 1) := by decide +kernel
theorem dX7_nthSet_62 : decode cX7_nthSet 62 = .ok (.getfield 24, 3) := by decide +kernel
theorem dX7_nthSet_65 : decode cX7_nthSet 65 = .ok (.getfield 73, 3) := by decide +kernel
theorem dX7_nthSet_68 : decode cX7_nthSet 68 = .ok (.invokestatic 68, 3) := by decide +kernel
theorem dX7_nthSet_71 : decode cX7_nthSet 71 = .ok (.ishl, 1) := by decide +kernel
theorem dX7_nthSet_72 : decode cX7_nthSet 72 = .ok (.ior, 1) := by decide +kernel
theorem dX7_nthSet_73 : decode cX7_nthSet 73 = .ok (.istore 5, 2) := by decide +kernel
theorem dX7_nthSet_75 : decode cX7_nthSet 75 = .ok (.iload 4, 2) := by decide +kernel
theorem dX7_nthSet_77 : decode cX7_nthSet 77 = .ok (.aload_n 0, 1) := by decide +kernel
theorem dX7_nthSet_78 : decode cX7_nthSet 78 = .ok (.getfield 24, 3) := by decide +kernel
theorem dX7_nthSet_81 : decode cX7_nthSet 81 = .ok (.getfield 76, 3) := by decide +kernel
theorem dX7_nthSet_84 : decode cX7_nthSet 84 = .ok (.invokestatic 79, 3) := by decide +kernel
theorem dX7_nthSet_87 : decode cX7_nthSet 87 = .ok (.iload 5, 2) := by decide +kernel
theorem dX7_nthSet_89 : decode cX7_nthSet 89 = .ok (.iconst (-1), 1) := by decide +kernel
theorem dX7_nthSet_90 : decode cX7_nthSet 90 = .ok (.ixor, 1) := by decide +kernel
theorem dX7_nthSet_91 : decode cX7_nthSet 91 = .ok (.iand, 1) := by decide +kernel
theorem dX7_nthSet_92 : decode cX7_nthSet 92 = .ok (.istore 6, 2) := by decide +kernel
theorem dX7_nthSet_94 : decode cX7_nthSet 94 = .ok (.iload_n 3, 1) := by decide +kernel
theorem dX7_nthSet_95 : decode cX7_nthSet 95 = .ok (.istore 7, 2) := by decide +kernel
theorem dX7_nthSet_97 : decode cX7_nthSet 97 = .ok (.iconst 0, 1) := by decide +kernel
theorem dX7_nthSet_98 : decode cX7_nthSet 98 = .ok (.istore 8, 2) := by decide +kernel
theorem dX7_nthSet_100 : decode cX7_nthSet 100 = .ok (.iload 8, 2) := by decide +kernel
theorem dX7_nthSet_102 : decode cX7_nthSet 102 = .ok (.iload 6, 2) := by decide +kernel
theorem dX7_nthSet_104 : decode cX7_nthSet 104 = .ok (.invokestatic 82, 3) := by decide +kernel
theorem dX7_nthSet_107 : decode cX7_nthSet 107 = .ok (.if_icmp .gt 79, 3) := by decide +kernel
theorem dX7_nthSet_110 : decode cX7_nthSet 110 = .ok (.iconst 0, 1) := by decide +kernel
theorem dX7_nthSet_111 : decode cX7_nthSet 111 = .ok (.istore 9, 2) := by decide +kernel
theorem dX7_nthSet_113 : decode cX7_nthSet 113 = .ok (.iconst 0, 1) := by decide +kernel
theorem dX7_nthSet_114 : decode cX7_nthSet 114 = .ok (.istore 10, 2) := by decide +kernel
theorem dX7_nthSet_116 : decode cX7_nthSet 116 = .ok (.iload 10, 2) := by decide +kernel
theorem dX7_nthSet_118 : decode cX7_nthSet 118 = .ok (.iconst 1, 1) := by decide +kernel
theorem dX7_nthSet_119 : decode cX7_nthSet 119 = .ok (.iload 6, 2) := by decide +kernel
theorem dX7_nthSet_121 : decode cX7_nthSet 121 = .ok (.invokestatic 82, 3) := by decide +kernel
theorem dX7_nthSet_124 : decode cX7_nthSet 124 = .ok (.ishl, 1) := by decide +kernel
theorem dX7_nthSet_125 : decode cX7_nthSet 125 = .ok (.if_icmp .ge 55, 3) := by decide +kernel
theorem dX7_nthSet_128 : decode cX7_nthSet 128 = .ok (.iload 9, 2) := by decide +kernel
theorem dX7_nthSet_130 : decode cX7_nthSet 130 = .ok (.invokestatic 82, 3) := by decide +kernel
theorem dX7_nthSet_133 : decode cX7_nthSet 133 = .ok (.iload 8, 2) := by decide +kernel
theorem dX7_nthSet_135 : decode cX7_nthSet 135 = .ok (.if_icmp .ne 29, 3) := by decide +kernel
theorem dX7_nthSet_138 : decode cX7_nthSet 138 = .ok (.aload_n 0, 1) := by decide +kernel
theorem dX7_nthSet_139 : decode cX7_nthSet 139 = .ok (.iload 5, 2) := by decide +kernel
theorem dX7_nthSet_141 : decode cX7_nthSet 141 = .ok (.iload 9, 2) := by decide +kernel
theorem dX7_nthSet_143 : decode cX7_nthSet 143 = .ok (.ior, 1) := by decide +kernel
theorem dX7_nthSet_144 : decode cX7_nthSet 144 = .ok (.invokevirtual 87, 3) := by decide +kernel
theorem dX7_nthSet_147 : decode cX7_nthSet 147 = .ok (.ifCond .eq 17, 3) := by decide +kernel
theorem dX7_nthSet_150 : decode cX7_nthSet 150 = .ok (.iload 7, 2) := by decide +kernel
theorem dX7_nthSet_152 : decode cX7_nthSet 152 = .ok (.ifCond .ne 9, 3) := by decide +kernel
theorem dX7_nthSet_155 : decode cX7_nthSet 155 = .ok (.iload 5, 2) := by decide +kernel
theorem dX7_nthSet_157 : decode cX7_nthSet 157 = .ok (.iload 9, 2) := by decide +kernel
theorem dX7_nthSet_159 : decode cX7_nthSet 159 = .ok (.ior, 1) := by decide +kernel
theorem dX7_nthSet_160 : decode cX7_nthSet 160 = .ok (.ireturn, 1) := by decide +kernel
theorem dX7_nthSet_161 : decode cX7_nthSet 161 = .ok (.iinc 7 (-1), 3) := by decide +kernel
theorem dX7_nthSet_164 : decode cX7_nthSet 164 = .ok (.iload 9, 2) := by decide +kernel
theorem dX7_nthSet_166 : decode cX7_nthSet 166 = .ok (.iload 6, 2) := by decide +kernel
theorem dX7_nthSet_168 : decode cX7_nthSet 168 = .ok (.isub, 1) := by decide +kernel
theorem dX7_nthSet_169 : decode cX7_nthSet 169 = .ok (.iload 6, 2) := by decide +kernel
theorem dX7_nthSet_171 : decode cX7_nthSet 171 = .ok (.iand, 1) := by decide +kernel
theorem dX7_nthSet_172 : decode cX7_nthSet 172 = .ok (.istore 9, 2) := by decide +kernel
theorem dX7_nthSet_174 : decode cX7_nthSet 174 = .ok (.iinc 10 1, 3) := by decide +kernel
theorem dX7_nthSet_177 : decode cX7_nthSet 177 = .ok (.goto (-61), 3) := by decide +kernel
theorem dX7_nthSet_180 : decode cX7_nthSet 180 = .ok (.iinc 8 1, 3) := by decide +kernel
theorem dX7_nthSet_183 : decode cX7_nthSet 183 = .ok (.goto (-83), 3) := by decide +kernel
theorem dX7_nthSet_186 : decode cX7_nthSet 186 = .ok (.bipush (-2), 2) := by decide +kernel
theorem dX7_nthSet_188 : decode cX7_nthSet 188 = .ok (.ireturn, 1) := by decide +kernel
theorem dX7_layOpen_0 : decode cX7_layOpen 0 = .ok (.iconst 0, 1) := by decide +kernel
theorem dX7_layOpen_1 : decode cX7_layOpen 1 = .ok (.istore_n 2, 1) := by decide +kernel
theorem dX7_layOpen_2 : decode cX7_layOpen 2 = .ok (.iload_n 2, 1) := by decide +kernel
theorem dX7_layOpen_3 : decode cX7_layOpen 3 = .ok (.bipush 14, 2) := by decide +kernel
theorem dX7_layOpen_5 : decode cX7_layOpen 5 = .ok (.if_icmp .ge 65, 3) := by decide +kernel
theorem dX7_layOpen_8 : decode cX7_layOpen 8 = .ok (.aload_n 0, 1) := by decide +kernel
theorem dX7_layOpen_9 : decode cX7_layOpen 9 = .ok (.getfield 9, 3) := by decide +kernel
theorem dX7_layOpen_12 : decode cX7_layOpen 12 = .ok (.iload_n 2, 1) := by decide +kernel
theorem dX7_layOpen_13 : decode cX7_layOpen 13 = .ok (.invokestatic 90, 3) := by decide +kernel
theorem dX7_layOpen_16 : decode cX7_layOpen 16 = .ok (.ifCond .eq 48, 3) := by decide +kernel
theorem dX7_layOpen_19 : decode cX7_layOpen 19 = .ok (.aload_n 0, 1) := by decide +kernel
theorem dX7_layOpen_20 : decode cX7_layOpen 20 = .ok (.getfield 24, 3) := by decide +kernel
theorem dX7_layOpen_23 : decode cX7_layOpen 23 = .ok (.iload_n 2, 1) := by decide +kernel
theorem dX7_layOpen_24 : decode cX7_layOpen 24 = .ok (.invokevirtual 94, 3) := by decide +kernel
theorem dX7_layOpen_27 : decode cX7_layOpen 27 = .ok (.ifCond .eq 37, 3) := by decide +kernel
theorem dX7_layOpen_30 : decode cX7_layOpen 30 = .ok (.aload_n 0, 1) := by decide +kernel
theorem dX7_layOpen_31 : decode cX7_layOpen 31 = .ok (.getfield 28, 3) := by decide +kernel
theorem dX7_layOpen_34 : decode cX7_layOpen 34 = .ok (.iload_n 2, 1) := by decide +kernel
theorem dX7_layOpen_35 : decode cX7_layOpen 35 = .ok (.iload_n 1, 1) := by decide +kernel
theorem dX7_layOpen_36 : decode cX7_layOpen 36 = .ok (.aload_n 0, 1) := by decide +kernel
theorem dX7_layOpen_37 : decode cX7_layOpen 37 = .ok (.getfield 24, 3) := by decide +kernel
theorem dX7_layOpen_40 : decode cX7_layOpen 40 = .ok (.getfield 97, 3) := by decide +kernel
theorem dX7_layOpen_43 : decode cX7_layOpen 43 = .ok (.iload_n 2, 1) := by decide +kernel
theorem dX7_layOpen_44 : decode cX7_layOpen 44 = .ok (.iaload, 1) := by decide +kernel
theorem dX7_layOpen_45 : decode cX7_layOpen 45 = .ok (.invokestatic 68, 3) := by decide +kernel
theorem dX7_layOpen_48 : decode cX7_layOpen 48 = .ok (.iload_n 1, 1) := by decide +kernel
theorem dX7_layOpen_49 : decode cX7_layOpen 49 = .ok (.aload_n 0, 1) := by decide +kernel
theorem dX7_layOpen_50 : decode cX7_layOpen 50 = .ok (.getfield 24, 3) := by decide +kernel
theorem dX7_layOpen_53 : decode cX7_layOpen 53 = .ok (.getfield 101, 3) := by decide +kernel
theorem dX7_layOpen_56 : decode cX7_layOpen 56 = .ok (.iload_n 2, 1) := by decide +kernel
theorem dX7_layOpen_57 : decode cX7_layOpen 57 = .ok (.iaload, 1) := by decide +kernel
theorem dX7_layOpen_58 : decode cX7_layOpen 58 = .ok (.invokestatic 68, 3) := by decide +kernel
theorem dX7_layOpen_61 : decode cX7_layOpen 61 = .ok (.invokevirtual 104, 3) := by decide +kernel
theorem dX7_layOpen_64 : decode cX7_layOpen 64 = .ok (.iinc 2 1, 3) := by decide +kernel
theorem dX7_layOpen_67 : decode cX7_layOpen 67 = .ok (.goto (-65), 3) := by decide +kernel
theorem dX7_layOpen_70 : decode cX7_layOpen 70 = .ok (.return_, 1) := by decide +kernel
theorem dX7_linesInside_0 : decode cX7_linesInside 0 = .ok (.iconst 0, 1) := by decide +kernel
theorem dX7_linesInside_1 : decode cX7_linesInside 1 = .ok (.istore_n 2, 1) := by decide +kernel
theorem dX7_linesInside_2 : decode cX7_linesInside 2 = .ok (.iconst 0, 1) := by decide +kernel
theorem dX7_linesInside_3 : decode cX7_linesInside 3 = .ok (.istore_n 3, 1) := by decide +kernel
theorem dX7_linesInside_4 : decode cX7_linesInside 4 = .ok (.iload_n 3, 1) := by decide +kernel
theorem dX7_linesInside_5 : decode cX7_linesInside 5 = .ok (.bipush 14, 2) := by decide +kernel
theorem dX7_linesInside_7 : decode cX7_linesInside 7 = .ok (.if_icmp .ge 38, 3) := by decide +kernel
theorem dX7_linesInside_10 : decode cX7_linesInside 10 = .ok (.aload_n 0, 1) := by decide +kernel
theorem dX7_linesInside_11 : decode cX7_linesInside 11 = .ok (.getfield 9, 3) := by decide +kernel
theorem dX7_linesInside_14 : decode cX7_linesInside 14 = .ok (.iload_n 3, 1) := by decide +kernel
theorem dX7_linesInside_15 : decode cX7_linesInside 15 = .ok (.invokestatic 90, 3) := by decide +kernel
theorem dX7_linesInside_18 : decode cX7_linesInside 18 = .ok (.ifCond .eq 21, 3) := by decide +kernel
theorem dX7_linesInside_21 : decode cX7_linesInside 21 = .ok (.aload_n 0, 1) := by decide +kernel
theorem dX7_linesInside_22 : decode cX7_linesInside 22 = .ok (.getfield 28, 3) := by decide +kernel
theorem dX7_linesInside_25 : decode cX7_linesInside 25 = .ok (.iload_n 3, 1) := by decide +kernel
theorem dX7_linesInside_26 : decode cX7_linesInside 26 = .ok (.iload_n 1, 1) := by decide +kernel
theorem dX7_linesInside_27 : decode cX7_linesInside 27 = .ok (.invokevirtual 108, 3) := by decide +kernel
theorem dX7_linesInside_30 : decode cX7_linesInside 30 = .ok (.ifCond .eq 9, 3) := by decide +kernel
